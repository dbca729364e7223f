/-! ===== may, known ===== -/
theorem zJr_at {M0 M : Nat → Nat → Int32} {bt k u np m pc : Nat} {D : Nat → Nat → Nat → Nat} (h : zJr M0 M bt k u np m pc D) (hn : zfi (M0 72) bt k u m < 60) {e : Nat} (h1 : zfi (M0 72) bt k u m ≤ e) (h2 : e < zla (M0 72) bt k u m) : M 89 e = nI (zld (fun d S => zrc np pc (D d) S) (zal (M0 72) np bt k u m) (zfi (M0 72) bt k u m) (e - zfi (M0 72) bt k u m)) ∧ M 90 e = nI (zbk (fun d S => zrc np pc (D d) S) (zal (M0 72) np bt k u m) (zla (M0 72) bt k u m - 1) (zla (M0 72) bt k u m - 1 - e)) := by
  obtain ⟨x1, x2⟩ := h.2.2.2.2.2.2 hn
  have y1 := x1 (e - zfi (M0 72) bt k u m) (by omega)
  have y2 := x2 (zla (M0 72) bt k u m - 1 - e) (by omega)
  rw [show zfi (M0 72) bt k u m + (e - zfi (M0 72) bt k u m) = e by omega] at y1
  rw [show zla (M0 72) bt k u m - 1 - (zla (M0 72) bt k u m - 1 - e) = e by omega] at y2
  exact ⟨y1, y2⟩
theorem zJr_fg {M0 M : Nat → Nat → Int32} {bt k u np m pc : Nat} {D : Nat → Nat → Nat → Nat} (h : zJr M0 M bt k u np m pc D) (hS : zSok (M0 72) np m) (hn : zfi (M0 72) bt k u m < 60) : M 71 33 = nI (zfi (M0 72) bt k u m) ∧ M 71 34 = nI (zla (M0 72) bt k u m - 1) ∧ (zfi (M0 72) bt k u m ≤ zla (M0 72) bt k u m - 1 ∧ zla (M0 72) bt k u m - 1 < 60) ∧ zfi (M0 72) bt k u m + 1 ≤ zla (M0 72) bt k u m := by
  have fl := zfl (bt := bt) (k := k) (u := u) hS
  have := (fl.2.2.2.1 hn).1
  have f2 := fl.2.1
  refine ⟨by rw [h.2.2.1, zfI_n hn], ?_, by omega, by omega⟩
  rw [h.2.2.2.1]
  unfold zlI
  rw [if_neg (by omega)]
section MY
variable {d : Nat} {F : Option Value → zS → Prop} {X : zX} {b : Nat × Nat} {K : Nat → Nat → Option Nat} {B : Nat → Nat → Int64} {M : Nat → Nat → Int32} {n n' : Nat → Nat} {bt k dd : Nat}
theorem sp_Mmay (hK : zKok K) (h : zIn M n n') (hbt : bt < n 4) (hd : dd < 60) (hk : k < 60) (kk : ∀ M', zSc M M' → zTab M' → F (some (.int (nI (zmy (M 72) bt k 60 (n 0) (n 5) (n 3) (zDD (M 72) n) dd)))) (X, b, zLay, K, B, M')) : zCall (d + 20) zm_Model_may [.ref 71, .int (nI bt), .int (nI dd), .int (nI k)] (X, b, zLay, K, B, M) F := by
  have hb := h.1.2
  have hS := (zIn_sn h).2.2.2.2
  refine zb_Model_may_0 hK bt dd k h.1.1.2.2.2.2.1 (by omega) hbt hd hk ?_
  refine sp_mj (d := d + 10) (u := 60) hK h ⟨by omega, hk, by omega⟩ (fun M1 j1 => ?_)
  obtain ⟨s1, t1⟩ := zJr_sc j1
  have e := kk M1 s1 (t1 (zIn_tab h))
  cases hp : zpos (M 72) bt k 60 (n 0) (n 5) (n 3) (zDD (M 72) n)
  · refine zb_Model_mayN_32 bt dd k ?_
    unfold zmy at e
    rw [if_neg (fun q => by rw [hp] at q; exact absurd q.1 (by decide))] at e
    exact e
  · have hn := (zpos_iff.mp hp).1
    obtain ⟨hf, hg, hfg, hpl⟩ := zJr_fg j1 hS hn
    refine zb_Model_mayP_32 hK bt dd k hf hg hfg hd hk (fun q => (zJr_at j1 hn q.1 (by omega)).1) (fun q => (zJr_at j1 hn q.1 (by omega)).2) (fun q => ?_) (fun q => ?_)
    · unfold zmy at e
      rw [if_neg (by omega)] at e
      exact e
    · unfold zmy at e
      rw [if_pos ⟨hp, by omega, by omega⟩] at e
      exact e
end MY
theorem zop_may (X : zX) (a0 a1 a2 : Int32) : zOp zInv X zm_Boats_may zm_Model_may [.int a0, .int a1, .int a2] := by
  refine zop_of (fun d K B M n n' hK hSw h => ?_)
  have hT := zIn_tab h
  have hb := h.1.2
  by_cases hv : (0 ≤ a0.toInt ∧ a0.toInt < n 4) ∧ (0 ≤ a1.toInt ∧ a1.toInt < 60) ∧ (0 ≤ a2.toInt ∧ a2.toInt < 60)
  · obtain ⟨bt, hbt, rfl⟩ := znat (x := a0) (n := n 4) hv.1.1 hv.1.2 (by omega)
    obtain ⟨dd, hd, rfl⟩ := znat (x := a1) (n := 60) hv.2.1.1 hv.2.1.2 (by decide)
    obtain ⟨k, hk, rfl⟩ := znat (x := a2) (n := 60) hv.2.2.1 hv.2.2.2 (by decide)
    refine ⟨nI (zmy (M 72) bt k 60 (n 0) (n 5) (n 3) (zDD (M 72) n) dd), fun F kk => ?_, fun K2 B2 M2 hK2 hS2 hs h2 F kk => ?_⟩
    · have q4 := h.2.2.2.1.2.2.2.2.1.trans h.1.1.2.2.2.2.1
      refine zb_Boats_may_0 (d := d + 180) hK bt dd k q4 (by omega) hbt hd hk ?_
      refine sp_tr (d := d + 190) (u := 59) hK h ⟨by omega, hk, by omega⟩ (fun M1 j1 => ?_)
      obtain ⟨s1, t1⟩ := zJc_sc j1
      refine zb_Boats_may_36 (d := d + 180) hK bt dd k hd hk (j1.2.2.2.2.2.2.2.2.2 dd hd) ?_
      have hX := j1.2.2.2.2.2.2.2.1
      rw [zpl_my hX.2.2.2.2.1 hX.2.2.2.2.2.2.2.2.1, zmy_u hX.2.2.2.2.1 (by omega) (show 59 ≤ 60 by omega)]
      exact kk K B M1 hK hSw s1 t1
    · have e72 : M2 72 = M 72 := hs.1 72 rfl (by decide) (by decide) (by decide) (by decide) (by decide) (by decide)
      refine sp_Mmay (d := d + 180) hK2 h2 hbt hd hk (fun M1 s1 t1 => ?_)
      rw [e72]
      exact kk K2 B2 M1 hK2 hS2 s1 t1
  · refine ⟨-1, zop_no hK hSw hT (fun F kk => ?_), fun K2 B2 M2 hK2 hS2 hs h2 => zop_no hK2 hS2 (zIn_tab h2) (fun F kk => ?_)⟩
    · obtain ⟨⟨⟨c0, c1, c2, c3, c4, c5, c6, c7⟩, b0, b1, b2, b3, b4, b5, b6, b7⟩, -, -, ⟨q0, q1, q2, q3, q4, q5, q6, q7⟩, -⟩ := id h
      have t4 : (M 13 0).toInt = n 4 := by rw [q4.trans c4, znI (by omega)]
      have u4 : (M 72 4).toInt = n 4 := by rw [c4, znI (by omega)]
      have v4 : (M 72 4 - 1).toInt = (n 4 : Int) - 1 := by rw [c4, zsub1 (by omega)]
      exact zb_Boats_mayR_0 (d := d + 180) hK _ _ _ (fun g0 => kk) (fun g0 g1 => kk) (fun g0 g1 g2 => (by exfalso; simp only [zlt, zle, zeq, zl0, zlm, zl1, zl3, zl4, zl8, zl9, zl10, zl15, zl20, zl30, zl59, zl60, t4, u4, v4] at g0 g1 g2 hv; omega)) (fun g0 g1 g2 => kk)
    · obtain ⟨⟨⟨c0, c1, c2, c3, c4, c5, c6, c7⟩, b0, b1, b2, b3, b4, b5, b6, b7⟩, -, -, ⟨q0, q1, q2, q3, q4, q5, q6, q7⟩, -⟩ := id h2
      have t4 : (M2 13 0).toInt = n 4 := by rw [q4.trans c4, znI (by omega)]
      have u4 : (M2 72 4).toInt = n 4 := by rw [c4, znI (by omega)]
      have v4 : (M2 72 4 - 1).toInt = (n 4 : Int) - 1 := by rw [c4, zsub1 (by omega)]
      exact zb_Model_mayR_0 (d := d + 180) hK2 _ _ _ (fun g0 => kk) (fun g0 g1 => kk) (fun g0 g1 g2 => (by exfalso; simp only [zlt, zle, zeq, zl0, zlm, zl1, zl3, zl4, zl8, zl9, zl10, zl15, zl20, zl30, zl59, zl60, t4, u4, v4] at g0 g1 g2 hv; omega)) (fun g0 g1 g2 => kk)
theorem zop_known (X : zX) (a0 a1 a2 : Int32) : zOp zInv X zm_Boats_known zm_Model_known [.int a0, .int a1, .int a2] := by
  refine zop_of (fun d K B M n n' hK hSw h => ?_)
  have hT := zIn_tab h
  have hb := h.1.2
  by_cases hv : (0 ≤ a0.toInt ∧ a0.toInt < n 4) ∧ (0 ≤ a1.toInt ∧ a1.toInt < 60)
  · obtain ⟨bt, hbt, rfl⟩ := znat (x := a0) (n := n 4) hv.1.1 hv.1.2 (by omega)
    obtain ⟨k, hk, rfl⟩ := znat (x := a1) (n := 60) hv.2.1 hv.2.2 (by decide)
    have hSo := (zIn_sn h).2.2.2.2
    obtain ⟨u1, u2, u3, u4⟩ := zu_same (bt := bt) (k := k) hSo (show 59 ≤ 59 by omega) (show 59 ≤ 60 by omega)
    have u5 : zal (M 72) (n 0) bt k 59 (n 5) = zal (M 72) (n 0) bt k 60 (n 5) := funext u1
    have u6 := zpos_u (bt := bt) (k := k) (pc := n 3) (D := zDD (M 72) n) hSo (show 59 ≤ 59 by omega) (show 59 ≤ 60 by omega)
    have fl := zfl (bt := bt) (k := k) (u := 60) hSo
    refine ⟨if zfi (M 72) bt k 60 (n 5) = 60 then -1 else if a2 = 0 then nI (zfi (M 72) bt k 60 (n 5)) else if a2 = 1 then nI (zla (M 72) bt k 60 (n 5) - 1) else if a2 = 2 then zbi (!(zpos (M 72) bt k 60 (n 0) (n 5) (n 3) (zDD (M 72) n))) else if a2 = 3 ∧ zpos (M 72) bt k 60 (n 0) (n 5) (n 3) (zDD (M 72) n) = true then zdb (fun e => zmy (M 72) bt k 60 (n 0) (n 5) (n 3) (zDD (M 72) n) e) (zfi (M 72) bt k 60 (n 5)) (zla (M 72) bt k 60 (n 5) - 1 - zfi (M 72) bt k 60 (n 5) + 1) else -1, fun F kk => ?_, fun K2 B2 M2 hK2 hS2 hs h2 F kk => ?_⟩
    · have q4 := h.2.2.2.1.2.2.2.2.1.trans h.1.1.2.2.2.2.1
      refine zb_Boats_known_0 (d := d + 180) hK bt k a2 q4 (by omega) hbt hk ?_
      refine sp_tr (d := d + 190) (u := 59) hK h ⟨by omega, hk, by omega⟩ (fun M1 j1 => ?_)
      obtain ⟨s1, t1⟩ := zJc_sc j1
      have e := kk K B M1 hK hSw s1 t1
      obtain ⟨-, -, -, -, y1, y2, -, hX, y3, y4⟩ := j1
      rw [u3] at y1
      rw [u4] at y2
      rw [u6] at y3
      by_cases hn : zfi (M 72) bt k 60 (n 5) = 60
      · refine zb_Boats_knownN_29 (d := d + 180) hK bt k a2 (by rw [y1, hn]; rfl) ?_
        rw [if_pos hn] at e
        exact e
      · rw [if_neg hn] at e
        have hn2 : zfi (M 72) bt k 60 (n 5) < 60 := by have := fl.1; omega
        have hl := (fl.2.2.2.1 hn2).1
        have hf : M1 41 1 = nI (zfi (M 72) bt k 60 (n 5)) := by rw [y1, zfI_n hn2]
        have hg : M1 41 2 = nI (zla (M 72) bt k 60 (n 5) - 1) := by rw [y2]; unfold zlI; rw [if_neg (by omega)]
        cases hp : zpos (M 72) bt k 60 (n 0) (n 5) (n 3) (zDD (M 72) n)
        · rw [hp] at y3 e
          refine zb_Boats_knownI_29 (d := d + 180) hK bt k a2 hf hg ⟨by omega, by omega⟩ y3 (fun z0 => ?_) (fun z0 z1 => ?_) (fun z0 z1 z2 => ?_) (fun z0 z1 z2 z3 => ?_) (fun z0 z1 z2 z3 => ?_)
          · rw [if_pos z0] at e; exact e
          · rw [if_neg z0, if_pos z1] at e; exact e
          · rw [if_neg z0, if_neg z1, if_pos z2] at e; exact e
          · rw [if_neg z0, if_neg z1, if_neg z2, if_neg (fun q => absurd q.2 (by decide))] at e; exact e
          · rw [if_neg z0, if_neg z1, if_neg z2, if_neg (fun q => absurd q.2 (by decide))] at e; exact e
        · rw [hp] at y3 e
          refine zb_Boats_knownP_29 (d := d + 180) hK bt k a2 hf hg ⟨by omega, by omega⟩ y3 (fun z0 => ?_) (fun z0 z1 => ?_) (fun z0 z1 z2 => ?_) (fun z0 z1 z2 z3 => ?_) (fun z0 z1 z2 z3 => ?_)
          · rw [if_pos z0] at e; exact e
          · rw [if_neg z0, if_pos z1] at e; exact e
          · rw [if_neg z0, if_neg z1, if_pos z2] at e; exact e
          · rw [if_neg z0, if_neg z1, if_neg z2, if_pos ⟨z3, rfl⟩] at e
            refine sp_Cdoubt (d := d + 196) hK hf hg ⟨by omega, by omega⟩ (v := fun e => zmy (M 72) bt k 60 (n 0) (n 5) (n 3) (zDD (M 72) n) e) (fun e h1 h2 => ?_) (fun e => zp1024 (zmy_lt e) (by omega)) ?_
            · rw [y4 e (by omega), zpl_my hX.2.2.2.2.1 hX.2.2.2.2.2.2.2.2.1, zmy_u hSo (by omega) (show 59 ≤ 60 by omega)]
            · exact zb_Boats_knownP_121 (d := d + 180) bt k a2 _ e
          · rw [if_neg z0, if_neg z1, if_neg z2, if_neg (fun q => z3 q.1)] at e; exact e
    · have e72 : M2 72 = M 72 := hs.1 72 rfl (by decide) (by decide) (by decide) (by decide) (by decide) (by decide)
      by_cases ha2 : (0 : Int32) ≤ a2 ∧ a2 ≤ (3 : Int32)
      · refine zb_Model_known_0 (d := d + 180) hK2 bt k a2 h2.1.1.2.2.2.2.1 (by omega) hbt hk ha2 ?_
        refine sp_mj (d := d + 190) (u := 60) hK2 h2 ⟨by omega, hk, by omega⟩ (fun M1 j1 => ?_)
        obtain ⟨s1, t1⟩ := zJr_sc j1
        have e := kk K2 B2 M1 hK2 hS2 s1 (t1 (zIn_tab h2))
        have a3 : ¬ a2 = 0 → ¬ a2 = 1 → ¬ a2 = 2 → a2 = 3 := by
          intro z0 z1 z2
          simp only [zle, zeq, zl0, zl1, zl3, show (2 : Int32).toInt = 2 from rfl] at *
          omega
        have hSo2 : zSok (M2 72) (n 0) (n 5) := by rw [e72]; exact hSo
        by_cases hn : zfi (M 72) bt k 60 (n 5) = 60
        · have hp : zpos (M2 72) bt k 60 (n 0) (n 5) (n 3) (zDD (M2 72) n) = false := by
            unfold zpos
            rw [e72, zblt_f (by omega)]; rfl
          rw [hp]
          refine zb_Model_knownN_34 (d := d + 180) bt k a2 (by rw [j1.2.2.1, e72, hn]; rfl) ?_
          rw [if_pos hn] at e
          exact e
        · rw [if_neg hn] at e
          have hn2 : zfi (M2 72) bt k 60 (n 5) < 60 := by rw [e72]; have := fl.1; omega
          obtain ⟨hf, hg, hfg, hpl⟩ := zJr_fg j1 hSo2 hn2
          have hat : ∀ e, zfi (M2 72) bt k 60 (n 5) ≤ e → e ≤ zla (M2 72) bt k 60 (n 5) - 1 → _ := fun e h1 h2 => zJr_at j1 hn2 h1 (show e < zla (M2 72) bt k 60 (n 5) by omega)
          rw [e72] at hf hg hfg hpl hat ⊢
          cases hp : zpos (M 72) bt k 60 (n 0) (n 5) (n 3) (zDD (M 72) n)
          · rw [hp] at e
            refine zb_Model_knownI_34 (d := d + 180) bt k a2 hf hg hfg (fun z0 => ?_) (fun z0 z1 => ?_) (fun z0 z1 z2 => ?_) (fun z0 z1 z2 => ?_)
            · rw [if_pos z0] at e; exact e
            · rw [if_neg z0, if_pos z1] at e; exact e
            · rw [if_neg z0, if_neg z1, if_pos z2] at e; exact e
            · rw [if_neg z0, if_neg z1, if_neg z2, if_neg (fun q => absurd q.2 (by decide))] at e; exact e
          · rw [hp] at e
            refine zb_Model_knownP_34 (d := d + 180) bt k a2 hf hg hfg (fun z0 => ?_) (fun z0 z1 => ?_) (fun z0 z1 z2 => ?_) (fun z0 z1 z2 => ?_)
            · rw [if_pos z0] at e; exact e
            · rw [if_neg z0, if_pos z1] at e; exact e
            · rw [if_neg z0, if_neg z1, if_pos z2] at e; exact e
            · rw [if_neg z0, if_neg z1, if_neg z2, if_pos ⟨a3 z0 z1 z2, rfl⟩] at e
              refine sp_Mdoubt (d := d + 196) hK2 hf hg hfg (fun e h1 h2 => (hat e h1 h2).1) (fun e h1 h2 => (hat e h1 h2).2) (fun e => zp1024 (zand_lt (zld_lt (fun e => zal_lt _ _ _ _ _ _ _) _ _)) (show n 0 ≤ 10 by omega)) ?_
              refine zb_Model_knownP_102 (d := d + 180) bt k a2 _ ?_
              have q := zdb_ext (S := fun e => zmy (M 72) bt k 60 (n 0) (n 5) (n 3) (zDD (M 72) n) e) (T := fun e => zld (fun d S => zrc (n 0) (n 3) (zDD (M 72) n d) S) (zal (M 72) (n 0) bt k 60 (n 5)) (zfi (M 72) bt k 60 (n 5)) (e - zfi (M 72) bt k 60 (n 5)) &&& zbk (fun d S => zrc (n 0) (n 3) (zDD (M 72) n d) S) (zal (M 72) (n 0) bt k 60 (n 5)) (zla (M 72) bt k 60 (n 5) - 1) (zla (M 72) bt k 60 (n 5) - 1 - e)) (f := zfi (M 72) bt k 60 (n 5)) (j := zla (M 72) bt k 60 (n 5) - 1 - zfi (M 72) bt k 60 (n 5) + 1) (fun i hi => by
                show zmy (M 72) bt k 60 (n 0) (n 5) (n 3) (zDD (M 72) n) (zfi (M 72) bt k 60 (n 5) + i) = _
                unfold zmy
                rw [if_pos ⟨hp, by omega, by omega⟩])
              rw [q] at e
              exact e
      · have hn : ∀ z : Int32, a2 = z → ((0 : Int32) ≤ z ∧ z ≤ (3 : Int32)) → False := fun z q w => ha2 (by rw [q]; exact w)
        have e := kk K2 B2 M2 hK2 hS2 (zSc_rfl M2) (zIn_tab h2)
        have e2 : F (some (.int (-1))) (X, (0, 0), zLay, K2, B2, M2) := by
          by_cases q : zfi (M 72) bt k 60 (n 5) = 60
          · rw [if_pos q] at e; exact e
          · rw [if_neg q, if_neg (fun z => hn _ z (by decide)), if_neg (fun z => hn _ z (by decide)), if_neg (fun z => hn _ z (by decide)), if_neg (fun z => hn _ z.1 (by decide))] at e; exact e
        exact zb_Model_knownR_0 (d := d + 180) hK2 _ _ _ (fun _ => e2) (fun _ _ => e2) (fun _ _ q => absurd q ha2) (fun _ _ _ => e2)
  · refine ⟨-1, zop_no hK hSw hT (fun F kk => ?_), fun K2 B2 M2 hK2 hS2 hs h2 => zop_no hK2 hS2 (zIn_tab h2) (fun F kk => ?_)⟩
    · obtain ⟨⟨⟨c0, c1, c2, c3, c4, c5, c6, c7⟩, b0, b1, b2, b3, b4, b5, b6, b7⟩, -, -, ⟨q0, q1, q2, q3, q4, q5, q6, q7⟩, -⟩ := id h
      have t4 : (M 13 0).toInt = n 4 := by rw [q4.trans c4, znI (by omega)]
      have u4 : (M 72 4).toInt = n 4 := by rw [c4, znI (by omega)]
      have v4 : (M 72 4 - 1).toInt = (n 4 : Int) - 1 := by rw [c4, zsub1 (by omega)]
      exact zb_Boats_knownR_0 (d := d + 180) hK _ _ _ (fun g0 => kk) (fun g0 g1 => (by exfalso; simp only [zlt, zle, zeq, zl0, zlm, zl1, zl3, zl4, zl8, zl9, zl10, zl15, zl20, zl30, zl59, zl60, t4, u4, v4] at g0 g1 hv; omega)) (fun g0 g1 => kk)
    · obtain ⟨⟨⟨c0, c1, c2, c3, c4, c5, c6, c7⟩, b0, b1, b2, b3, b4, b5, b6, b7⟩, -, -, ⟨q0, q1, q2, q3, q4, q5, q6, q7⟩, -⟩ := id h2
      have t4 : (M2 13 0).toInt = n 4 := by rw [q4.trans c4, znI (by omega)]
      have u4 : (M2 72 4).toInt = n 4 := by rw [c4, znI (by omega)]
      have v4 : (M2 72 4 - 1).toInt = (n 4 : Int) - 1 := by rw [c4, zsub1 (by omega)]
      exact zb_Model_knownR_0 (d := d + 180) hK2 _ _ _ (fun g0 => kk) (fun g0 g1 => kk) (fun g0 g1 g2 => (by exfalso; simp only [zlt, zle, zeq, zl0, zlm, zl1, zl3, zl4, zl8, zl9, zl10, zl15, zl20, zl30, zl59, zl60, t4, u4, v4] at g0 g1 g2 hv; omega)) (fun g0 g1 g2 => kk)
