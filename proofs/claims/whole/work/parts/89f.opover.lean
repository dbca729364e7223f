/-! ===== over, longest, broken: the operations ===== -/
theorem zPh_in {M : Nat → Nat → Int32} {n n' : Nat → Nat} {tx : Nat} {cl : Nat → Option (List (Nat × Nat))} (h : zIn M n n') (rc : zRc M tx cl) : zPh (M 72) M (n 6) (n 0) tx cl := by
  have hb := h.1.2
  obtain ⟨xa, xc⟩ := zIn_xa h
  obtain ⟨pa, pc⟩ := zIn_pa h
  obtain ⟨⟨⟨c0, c1, c2, c3, c4, c5, c6, c7⟩, b0, b1, b2, b3, b4, b5, b6, b7⟩, -, -, ⟨q0, q1, q2, q3, q4, q5, q6, q7⟩, -⟩ := id h
  exact ⟨⟨q6.trans c6, b6, xa, xc⟩, q0.trans c0, b0, pc, pa.2, rc⟩
theorem zRq_in {M M1 : Nat → Nat → Int32} {n n' : Nat → Nat} {bt k u : Nat} {ru : Int32} {cl : Nat → Option (List (Nat × Nat))} (h : zIn M n n') (j : zRJ (M 72) n bt k u M1) (e : M1 72 = M 72) (rr : zRr M1 ru cl) : zRq (M 72) n M1 bt k u ru cl := by
  have hb := h.1.2
  have hw := zCn_w (zIn_cn h)
  obtain ⟨xa, -⟩ := zIn_xa h
  obtain ⟨pa, -⟩ := zIn_pa h
  obtain ⟨⟨⟨c0, c1, c2, c3, c4, c5, c6, c7⟩, b0, b1, b2, b3, b4, b5, b6, b7⟩, -⟩ := id h
  exact ⟨j, e, rr, ⟨c0, c6, b6⟩, pa, xa, fun dd x y hx hlt => zD_bound hw (by decide) hx hlt⟩
theorem z4_01 {x : Int32} (h1 : (0 : Int32) ≤ x) (h2 : x ≤ (1 : Int32)) : x = 0 ∨ x = 1 := by
  simp only [zle, zl0] at h1 h2
  have e1 : (1 : Int32).toInt = 1 := rfl
  rw [e1] at h2
  rcases (by omega : x.toInt = 0 ∨ x.toInt = 1) with q | q
  · exact Or.inl (Int32.toInt_inj.mp q)
  · exact Or.inr (Int32.toInt_inj.mp q)
theorem zJr_72 {M M1 : Nat → Nat → Int32} {bt k u np m pc : Nat} {D : Nat → Nat → Nat → Nat} (h : zJr M M1 bt k u np m pc D) : M1 72 = M 72 := (zsc_keep (zJr_sc h).1).2.2.2.2
theorem zop_over (X : zX) (a0 a1 a2 a3 : Int32) : zOp zInv X zm_Boats_over zm_Model_over [.int a0, .int a1, .int a2, .int a3] := by
  refine zop_of (fun d K B M n n' hK hSw h => ?_)
  have hT := zIn_tab h
  have hb := h.1.2
  obtain ⟨⟨⟨c0, c1, c2, c3, c4, c5, c6, c7⟩, b0, b1, b2, b3, b4, b5, b6, b7⟩, -, -, ⟨q0, q1, q2, q3, q4, q5, q6, q7⟩, -⟩ := id h
  have t7 : (M 0 7).toInt = n 7 := by rw [q7.trans c7, znI (by omega)]
  have t0 : (M 1 1).toInt = n 0 := by rw [q0.trans c0, znI (by omega)]
  by_cases hv : (zAsk (M 72) n a0 a3 ∧ ((-1) ≤ a2.toInt ∧ a2.toInt < n 7)) ∧ (0 ≤ a1.toInt ∧ a1.toInt < n 0)
  · obtain ⟨⟨⟨bt, k, rfl, rfl, h1, hk, hp⟩, hr⟩, hx0⟩ := hv
    obtain ⟨tx, cl, r1, r2⟩ := zRul2 h hr
    have sok : zSok (M 72) (n 0) (n 5) := (zIn_sn h).2.2.2.2
    obtain ⟨p, hpl, rfl⟩ := znat (x := a1) (n := n 0) hx0.1 hx0.2 (by omega)
    refine ⟨nI (zov (M 72) n bt k 60 cl p), fun F kk => ?_, fun K2 B2 M2 hK2 hS2 hs h2' F kk => ?_⟩
    · refine zb_Boats_overR_0 (d := d + 170) hK _ _ _ _ (fun q => absurd (zy_lt (q0.trans c0) hpl (by omega)) q) (fun _ q => ?_) (fun _ _ => ?_)
      · exfalso
        simp only [zle, zlt, zlm, t7] at q
        exact q hr
      refine sp_hasJA (d := d + 189) hK h _ _ (fun q => absurd ⟨bt, k, rfl, rfl, h1, hk, hp⟩ q) (fun bt2 k2 M1 e1 e2 l1 l2 p2 j1 => ?_)
      have e1 := (nI_eq (by omega) (by omega)).mp e1
      have e2 := (nI_eq (by omega) (by omega)).mp e2
      subst e1 e2
      obtain ⟨s1, t1⟩ := zJc_sc j1
      have cj := zJc_CJ h hp j1
      have rc := (r2 M1 s1).1
      have ph := zPh_in (zIn_scr h s1 t1) rc
      obtain ⟨z1, z2, z3, z4, z5⟩ := zsc_keep s1
      rw [z5] at ph
      have h07 : M1 0 7 = nI (n 7) := by rw [z3]; exact q7.trans c7
      have sl := zsty_le (M 72) cl p
      obtain ⟨L, hL⟩ := zLC_ex (A := M 72) (n := n) (cl := cl) cj.2.2.2.1.2.2.2.2.1 cj.2.2.2.1.2.2.2.2.2.2.2.2.1 cj.2.2.2.2.2.1 hp p
      have hfg := (zmS_ok cj.2.2.2.1.2.2.2.2.1 cj.2.2.2.1.2.2.2.2.2.2.2.2.1 cj.2.2.2.2.2.1 hp).1
      have ml : zmC (M 72) n bt k 60 cl p ≤ 61 := Nat.le_trans (zmoD_le _) (by omega)
      unfold zov at kk
      refine zb_Boats_overP_23 (d := d + 170) hK bt p _ k h07 r1 (zRc_tx rc) ?_
      refine sp_prs2 (d := d + 189) hK cj ph (by omega) hk (fun M3 u3 hx => ?_)
      have f3 : zFb M1 M3 := fun c hc => u3 c (by omega) (by omega) (by omega)
      refine zb_Boats_overP_40 (d := d + 170) hK bt p _ k (by rw [f3 0 (by omega)]; exact h07) r1 (zRc_tx rc) ?_
      refine sp_stl2 (d := d + 191) hK (zPh_fr f3 ph) hpl (fun M4 u4 => ?_)
      have f4 : zFb M1 M4 := fun c hc => (u4 c (by omega) (by omega)).trans (f3 c hc)
      refine zb_Boats_overP_53 (d := d + 170) hK bt p _ k _ (by rw [f4 0 (by omega)]; exact h07) r1 (zRc_tx rc) ?_
      refine sp_prd2 (d := d + 191) hK (zCJ_fr f4 cj) (zPh_fr f4 ph) hpl (fun M5 u5 => ?_)
      refine zb_Boats_overP_72 (d := d + 170) hK bt p _ k _ _ ?_
      have f6 : zFb M1 (zu M5 51 3 (nI (zrnd (M 72) n cl p))) := fun c hc => by rw [zu_oc (by omega), u5 c (by omega) (by omega)]; exact f4 c hc
      have x6 : (zu M5 51 3 (nI (zrnd (M 72) n cl p))) 52 = M3 52 := by rw [zu_oc (by decide), u5 52 (by decide) (by decide), u4 52 (by decide) (by decide)]
      refine sp_ckC2 (d := d + 191) (h := p) (cl := cl) hK hSw sl (zCJ_fr f6 cj) (by rw [zu_at, if_pos rfl]) hpl (by rw [x6]; exact hx) (fun K7 M7 k7 w7 u7 => ?_)
      have f7 : zFb M1 M7 := fun c hc => (u7 c (by omega) (by omega)).trans (f6 c hc)
      refine zb_Boats_overP_84 (d := d + 170) k7 bt p _ k _ _ (fun z => ?_) (fun z => ?_)
      · cases y : zkC (M 72) n bt k 60 cl p (zsty (M 72) cl p) with
        | false => rw [y] at z; exact absurd rfl z
        | true =>
        rw [y, if_neg (by decide)] at kk
        refine sp_amC2 (d := d + 191) (h := p) (cl := cl) k7 w7 (zCJ_fr f7 cj) (by rw [u7 51 (by decide) (by decide), zu_at, if_pos rfl]) hpl (by rw [u7 52 (by decide) (by decide), x6]; exact hx) (fun K8 M8 k8 w8 u8 => ?_)
        have f8 : zFb M1 M8 := fun c hc => (u8 c (by omega) (by omega)).trans (f7 c hc)
        have e := kk K8 B M8 k8 w8 (zSc_tr s1 (zFb_sc f8)) (zFb_tab f8 t1)
        refine zb_Boats_overP_96 (d := d + 170) bt p _ k _ _ (fun y => ?_) (fun y => ?_)
        · rw [nI_leI (by omega) (by omega)] at y
          rw [if_neg (by omega)] at e
          exact e
        · rw [nI_leI (by omega) (by omega)] at y
          rw [if_pos (by omega)] at e
          exact e
      · cases y : zkC (M 72) n bt k 60 cl p (zsty (M 72) cl p) with
        | true => rw [y] at z; exact absurd z (by decide)
        | false =>
        rw [y, if_pos rfl] at kk
        exact kk K7 B M7 k7 w7 (zSc_tr s1 (zFb_sc f7)) (zFb_tab f7 t1)
    · have e72 : M2 72 = M 72 := (zsc_keep hs).2.2.2.2
      have hp0 := hp
      rw [← e72] at hp kk
      refine zb_Model_overR_0 (d := d + 170) hK2 _ _ _ _ (fun q => absurd (zy_le h2'.1.1.1 hpl (by omega)) q) (fun _ => ?_)
      refine sp_canAskA (d := d + 189) hK2 h2' _ _ _ (fun q => absurd ⟨⟨bt, k, rfl, rfl, h1, hk, hp⟩, hr⟩ q) (fun bt2 k2 M1 e1 e2 l1 l2 hr2 p2 j1 => ?_)
      have e1 := (nI_eq (by omega) (by omega)).mp e1
      have e2 := (nI_eq (by omega) (by omega)).mp e2
      subst e1 e2
      obtain ⟨s1, t1⟩ := zJr_sc j1
      have t1 := t1 (zIn_tab h2')
      have rq := zRq_in h2' (zJr_RJ h2' hp j1) (zJr_72 j1) (r2 M1 (zSc_tr hs s1)).2
      refine zb_Model_overP_16 (d := d + 170) bt p _ k ?_
      refine sp_lx2 (d := d + 189) hK2 rq (by omega) hk (fun B3 M3 u3 hx => ?_)
      refine zb_Model_overP_29 (d := d + 170) bt p _ k ?_
      refine sp_ovO (d := d + 179) hK2 (zRq_same u3 rq) hpl hx (fun B4 M4 u4 => ?_)
      have g4 : zGr M1 M4 := zGr_tr u3 (fun c h1 h2 _ _ => u4 c h1 h2)
      exact zb_Model_overP_35 (d := d + 170) bt p _ k _ (kk K2 B4 M4 hK2 hS2 (zSc_tr s1 (zGr_sc g4)) (zGr_tab g4 t1))
  · refine ⟨-1, fun F kk => ?_, fun K2 B2 M2 hK2 hS2 hs h2' F kk => ?_⟩
    · have z := kk K B M hK hSw (zSc_rfl M) hT
      refine zb_Boats_overR_0 (d := d + 170) hK _ _ _ _ (fun _ => z) (fun _ _ => z) (fun g2 g1 => ?_)
      refine sp_hasJA (d := d + 189) hK h _ _ (fun _ M1 s1 t1 => ?_) (fun bt k M1 e1 e2 l1 l2 p1 j1 => ?_)
      · exact zb_Boats_overN_23 (d := d + 170) _ _ _ _ (kk K B M1 hK hSw s1 t1)
      · simp only [zle, zlt, zl0, zlm, t7, t0] at g1 g2
        exact absurd ⟨⟨⟨bt, k, e1, e2, l1, l2, p1⟩, g1⟩, g2⟩ hv
    · have e72 : M2 72 = M 72 := (zsc_keep hs).2.2.2.2
      have z := kk K2 B2 M2 hK2 hS2 (zSc_rfl M2) (zIn_tab h2')
      have w0 : (M2 72 0 - 1).toInt = (n 0 : Int) - 1 := by rw [h2'.1.1.1, zsub1 (by omega)]
      refine zb_Model_overR_0 (d := d + 170) hK2 _ _ _ _ (fun _ => z) (fun g2 => ?_)
      refine sp_canAskA (d := d + 189) hK2 h2' _ _ _ (fun _ M1 s1 t1 => ?_) (fun bt k M1 e1 e2 l1 l2 hr p1 j1 => ?_)
      · exact zb_Model_overN_16 (d := d + 170) _ _ _ _ (kk K2 B2 M1 hK2 hS2 s1 t1)
      · simp only [zle, zl0, w0] at g2
        have g2 : 0 ≤ a1.toInt ∧ a1.toInt < n 0 := ⟨g2.1, by omega⟩
        exact absurd ⟨⟨⟨bt, k, e1, e2, l1, l2, by rw [← e72]; exact p1⟩, hr⟩, g2⟩ hv
theorem zop_longest (X : zX) (a0 a1 a2 a3 a4 : Int32) : zOp zInv X zm_Boats_longest zm_Model_longest [.int a0, .int a1, .int a2, .int a3, .int a4] := by
  refine zop_of (fun d K B M n n' hK hSw h => ?_)
  have hT := zIn_tab h
  have hb := h.1.2
  obtain ⟨⟨⟨c0, c1, c2, c3, c4, c5, c6, c7⟩, b0, b1, b2, b3, b4, b5, b6, b7⟩, -, -, ⟨q0, q1, q2, q3, q4, q5, q6, q7⟩, -⟩ := id h
  have t7 : (M 0 7).toInt = n 7 := by rw [q7.trans c7, znI (by omega)]
  have t0 : (M 1 1).toInt = n 0 := by rw [q0.trans c0, znI (by omega)]
  by_cases hv : (zAsk (M 72) n a0 a3 ∧ ((-1) ≤ a2.toInt ∧ a2.toInt < n 7)) ∧ (0 ≤ a1.toInt ∧ a1.toInt < n 0) ∧ (a4 = 0 ∨ a4 = 1)
  · obtain ⟨⟨⟨bt, k, rfl, rfl, h1, hk, hp⟩, hr⟩, hx0⟩ := hv
    obtain ⟨tx, cl, r1, r2⟩ := zRul2 h hr
    have sok : zSok (M 72) (n 0) (n 5) := (zIn_sn h).2.2.2.2
    obtain ⟨p, hpl, rfl⟩ := znat (x := a1) (n := n 0) hx0.1.1 hx0.1.2 (by omega)
    have hx4 := hx0.2
    obtain ⟨L, hL⟩ := zLC_ex (A := M 72) (n := n) (cl := cl) sok (zIn_kxD h) (by omega) hp p
    refine ⟨if a4 = 0 then nI L else nI (zmC (M 72) n bt k 60 cl p), fun F kk => ?_, fun K2 B2 M2 hK2 hS2 hs h2' F kk => ?_⟩
    · refine zb_Boats_longestR_0 (d := d + 170) hK _ _ _ _ _ (fun q => absurd (zy_lt (q0.trans c0) hpl (by omega)) q) (fun _ q => ?_) (fun _ _ q => absurd hx4 q) (fun _ _ _ => ?_)
      · exfalso
        simp only [zle, zlt, zlm, t7] at q
        exact q hr
      refine sp_hasJA (d := d + 189) hK h _ _ (fun q => absurd ⟨bt, k, rfl, rfl, h1, hk, hp⟩ q) (fun bt2 k2 M1 e1 e2 l1 l2 p2 j1 => ?_)
      have e1 := (nI_eq (by omega) (by omega)).mp e1
      have e2 := (nI_eq (by omega) (by omega)).mp e2
      subst e1 e2
      obtain ⟨s1, t1⟩ := zJc_sc j1
      have cj := zJc_CJ h hp j1
      have rc := (r2 M1 s1).1
      have ph := zPh_in (zIn_scr h s1 t1) rc
      obtain ⟨z1, z2, z3, z4, z5⟩ := zsc_keep s1
      rw [z5] at ph
      have h07 : M1 0 7 = nI (n 7) := by rw [z3]; exact q7.trans c7
      refine zb_Boats_longestP_43 (d := d + 170) hK bt p _ k _ 1 h07 r1 (zRc_tx rc) ?_
      refine sp_prs2 (d := d + 189) hK cj ph (by omega) hk (fun M3 u3 hx => ?_)
      have f3 : zFb M1 M3 := fun c hc => u3 c (by omega) (by omega) (by omega)
      refine zb_Boats_longestP_60 (d := d + 170) hK bt p _ k _ 1 (by rw [f3 0 (by omega)]; exact h07) r1 (zRc_tx rc) ?_
      refine sp_prd2 (d := d + 191) hK (zCJ_fr f3 cj) (zPh_fr f3 ph) hpl (fun M5 u5 => ?_)
      have f6 : zFb M1 (zu M5 51 3 (nI (zrnd (M 72) n cl p))) := fun c hc => by rw [zu_oc (by omega), u5 c (by omega) (by omega)]; exact f3 c hc
      have x6 : (zu M5 51 3 (nI (zrnd (M 72) n cl p))) 52 = M3 52 := by rw [zu_oc (by decide), u5 52 (by decide) (by decide)]
      refine zb_Boats_longestP_77 (d := d + 170) hK bt p _ k _ 1 _ (fun z => ?_) (fun z => ?_)
      · refine sp_amC2 (d := d + 191) (h := p) (cl := cl) hK hSw (zCJ_fr f6 cj) (by rw [zu_at, if_pos rfl]) hpl (by rw [x6]; exact hx) (fun K8 M8 k8 w8 u8 => ?_)
        have f8 : zFb M1 M8 := fun c hc => (u8 c (by omega) (by omega)).trans (f6 c hc)
        have e := kk K8 B M8 k8 w8 (zSc_tr s1 (zFb_sc f8)) (zFb_tab f8 t1)
        rw [if_neg z] at e
        exact zb_Boats_longestP_102 (d := d + 170) bt p _ k _ 1 _ e
      · refine sp_alC2 (d := d + 189) (h := p) (cl := cl) hK hSw hL (zCJ_fr f6 cj) (by rw [zu_at, if_pos rfl]) hpl (by rw [x6]; exact hx) (fun K8 M8 k8 w8 u8 => ?_)
        have f8 : zFb M1 M8 := fun c hc => (u8 c (by omega) (by omega)).trans (f6 c hc)
        have e := kk K8 B M8 k8 w8 (zSc_tr s1 (zFb_sc f8)) (zFb_tab f8 t1)
        rw [if_pos z] at e
        exact zb_Boats_longestP_92 (d := d + 170) bt p _ k _ 1 _ e
    · have e72 : M2 72 = M 72 := (zsc_keep hs).2.2.2.2
      have hp0 := hp
      rw [← e72] at hp kk
      have y4 : (0 : Int32) ≤ a4 ∧ a4 ≤ (1 : Int32) := by
        rcases hx4 with q | q
        · rw [q]; decide
        · rw [q]; decide
      rw [← e72] at hL
      refine zb_Model_longestR_0 (d := d + 170) hK2 _ _ _ _ _ (fun q => absurd (zy_le h2'.1.1.1 hpl (by omega)) q) (fun _ q => absurd y4 q) (fun _ _ => ?_)
      refine sp_canAskA (d := d + 189) hK2 h2' _ _ _ (fun q => absurd ⟨⟨bt, k, rfl, rfl, h1, hk, hp⟩, hr⟩ q) (fun bt2 k2 M1 e1 e2 l1 l2 hr2 p2 j1 => ?_)
      have e1 := (nI_eq (by omega) (by omega)).mp e1
      have e2 := (nI_eq (by omega) (by omega)).mp e2
      subst e1 e2
      obtain ⟨s1, t1⟩ := zJr_sc j1
      have t1 := t1 (zIn_tab h2')
      have rq := zRq_in h2' (zJr_RJ h2' hp j1) (zJr_72 j1) (r2 M1 (zSc_tr hs s1)).2
      refine zb_Model_longestP_26 (d := d + 170) bt p _ k _ ?_
      refine sp_lx2 (d := d + 189) hK2 rq (by omega) hk (fun B3 M3 u3 hx => ?_)
      refine zb_Model_longestP_39 (d := d + 170) bt p _ k _ ?_
      have rq3 := zRq_same u3 rq
      refine sp_rdO2 (d := d + 191) hK2 rq3 hpl (fun B4 M4 u4 => ?_)
      have g4 : zGr M3 M4 := fun c h1 _ _ _ => u4 c h1
      have rh := zRH_of (zRq_same g4 rq3) hpl (by rw [u4 92 (by decide)]; exact hx)
      refine zb_Model_longestP_45 (d := d + 170) bt p _ k _ _ (fun z => ?_) (fun z => ?_)
      · refine sp_amR (d := d + 193) hK2 rh (fun M5 u5 => ?_)
        have g5 : zGr M1 M5 := zGr_tr u3 (zGr_tr g4 (fun c _ h2 _ _ => u5 c h2))
        have e := kk K2 B4 M5 hK2 hS2 (zSc_tr s1 (zGr_sc g5)) (zGr_tab g5 t1)
        rw [if_neg z] at e
        exact zb_Model_longestP_67 (d := d + 170) bt p _ k _ _ _ e
      · refine sp_alR (d := d + 191) hK2 hL rh (fun M5 u5 => ?_)
        have g5 : zGr M1 M5 := zGr_tr u3 (zGr_tr g4 (fun c _ h2 _ _ => u5 c h2))
        have e := kk K2 B4 M5 hK2 hS2 (zSc_tr s1 (zGr_sc g5)) (zGr_tab g5 t1)
        rw [if_pos z] at e
        exact zb_Model_longestP_58 (d := d + 170) bt p _ k _ _ _ e
  · refine ⟨-1, fun F kk => ?_, fun K2 B2 M2 hK2 hS2 hs h2' F kk => ?_⟩
    · have z := kk K B M hK hSw (zSc_rfl M) hT
      refine zb_Boats_longestR_0 (d := d + 170) hK _ _ _ _ _ (fun _ => z) (fun _ _ => z) (fun _ _ _ => z) (fun g2 g1 g4 => ?_)
      refine sp_hasJA (d := d + 189) hK h _ _ (fun _ M1 s1 t1 => ?_) (fun bt k M1 e1 e2 l1 l2 p1 j1 => ?_)
      · exact zb_Boats_longestN_43 (d := d + 170) _ _ _ _ _ 1 (kk K B M1 hK hSw s1 t1)
      · simp only [zle, zlt, zl0, zlm, t7, t0] at g1 g2
        exact absurd ⟨⟨⟨bt, k, e1, e2, l1, l2, p1⟩, g1⟩, ⟨g2, g4⟩⟩ hv
    · have e72 : M2 72 = M 72 := (zsc_keep hs).2.2.2.2
      have z := kk K2 B2 M2 hK2 hS2 (zSc_rfl M2) (zIn_tab h2')
      have w0 : (M2 72 0 - 1).toInt = (n 0 : Int) - 1 := by rw [h2'.1.1.1, zsub1 (by omega)]
      refine zb_Model_longestR_0 (d := d + 170) hK2 _ _ _ _ _ (fun _ => z) (fun _ _ => z) (fun g2 g4 => ?_)
      refine sp_canAskA (d := d + 189) hK2 h2' _ _ _ (fun _ M1 s1 t1 => ?_) (fun bt k M1 e1 e2 l1 l2 hr p1 j1 => ?_)
      · exact zb_Model_longestN_26 (d := d + 170) _ _ _ _ _ (kk K2 B2 M1 hK2 hS2 s1 t1)
      · simp only [zle, zl0, w0] at g2
        have g2 : 0 ≤ a1.toInt ∧ a1.toInt < n 0 := ⟨g2.1, by omega⟩
        have g4 : a4 = 0 ∨ a4 = 1 := z4_01 g4.1 g4.2
        exact absurd ⟨⟨⟨bt, k, e1, e2, l1, l2, by rw [← e72]; exact p1⟩, hr⟩, ⟨g2, g4⟩⟩ hv
theorem zop_broken (X : zX) (a0 a1 a2 : Int32) : zOp zInv X zm_Boats_broken zm_Model_broken [.int a0, .int a1, .int a2] := by
  refine zop_of (fun d K B M n n' hK hSw h => ?_)
  have hT := zIn_tab h
  have hb := h.1.2
  obtain ⟨⟨⟨c0, c1, c2, c3, c4, c5, c6, c7⟩, b0, b1, b2, b3, b4, b5, b6, b7⟩, -, -, ⟨q0, q1, q2, q3, q4, q5, q6, q7⟩, -⟩ := id h
  have t7 : (M 0 7).toInt = n 7 := by rw [q7.trans c7, znI (by omega)]
  have t0 : (M 1 1).toInt = n 0 := by rw [q0.trans c0, znI (by omega)]
  by_cases hv : (zAsk (M 72) n a0 a2 ∧ ((-1) ≤ a1.toInt ∧ a1.toInt < n 7)) ∧ True
  · obtain ⟨⟨⟨bt, k, rfl, rfl, h1, hk, hp⟩, hr⟩, hx0⟩ := hv
    obtain ⟨tx, cl, r1, r2⟩ := zRul2 h hr
    have sok : zSok (M 72) (n 0) (n 5) := (zIn_sn h).2.2.2.2

    refine ⟨zbi (zbr (M 72) n bt k 60 cl), fun F kk => ?_, fun K2 B2 M2 hK2 hS2 hs h2' F kk => ?_⟩
    · refine zb_Boats_brokenR_0 (d := d + 170) _ _ _ (fun q => ?_) (fun _ => ?_)
      · exfalso
        simp only [zle, zlt, zlm, t7] at q
        exact q hr
      refine sp_hasJA (d := d + 189) hK h _ _ (fun q => absurd ⟨bt, k, rfl, rfl, h1, hk, hp⟩ q) (fun bt2 k2 M1 e1 e2 l1 l2 p2 j1 => ?_)
      have e1 := (nI_eq (by omega) (by omega)).mp e1
      have e2 := (nI_eq (by omega) (by omega)).mp e2
      subst e1 e2
      obtain ⟨s1, t1⟩ := zJc_sc j1
      have cj := zJc_CJ h hp j1
      have rc := (r2 M1 s1).1
      have ph := zPh_in (zIn_scr h s1 t1) rc
      obtain ⟨z1, z2, z3, z4, z5⟩ := zsc_keep s1
      rw [z5] at ph
      have h07 : M1 0 7 = nI (n 7) := by rw [z3]; exact q7.trans c7
      refine zb_Boats_brokenP_14 (d := d + 170) hK bt _ k h07 r1 (zRc_tx rc) ?_
      refine sp_brC (d := d + 175) hK hSw cj ph (by omega) hk (fun K3 M3 k3 w3 u3 => ?_)
      have e := kk K3 B M3 k3 w3 (zSc_tr s1 (zFb_sc u3)) (zFb_tab u3 t1)
      cases y : zbr (M 72) n bt k 60 cl with
      | false =>
        rw [y] at e
        exact zb_Boats_brokenP_30 (d := d + 170) bt _ k _ (fun _ => e) (fun q => absurd rfl q)
      | true =>
        rw [y] at e
        exact zb_Boats_brokenP_30 (d := d + 170) bt _ k _ (fun q => absurd q (by decide)) (fun _ => e)
    · have e72 : M2 72 = M 72 := (zsc_keep hs).2.2.2.2
      have hp0 := hp
      rw [← e72] at hp kk
      refine zb_Model_brokenR_0 (d := d + 170) _ _ _ ?_
      refine sp_canAskA (d := d + 189) hK2 h2' _ _ _ (fun q => absurd ⟨⟨bt, k, rfl, rfl, h1, hk, hp⟩, hr⟩ q) (fun bt2 k2 M1 e1 e2 l1 l2 hr2 p2 j1 => ?_)
      have e1 := (nI_eq (by omega) (by omega)).mp e1
      have e2 := (nI_eq (by omega) (by omega)).mp e2
      subst e1 e2
      obtain ⟨s1, t1⟩ := zJr_sc j1
      have t1 := t1 (zIn_tab h2')
      have rq := zRq_in h2' (zJr_RJ h2' hp j1) (zJr_72 j1) (r2 M1 (zSc_tr hs s1)).2
      refine zb_Model_brokenP_7 (d := d + 170) bt _ k ?_
      refine sp_brO (d := d + 175) hK2 rq (by omega) hk (fun B3 M3 u3 => ?_)
      have e := kk K2 B3 M3 hK2 hS2 (zSc_tr s1 (zGr_sc u3)) (zGr_tab u3 t1)
      cases y : zbr (M2 72) n bt k 60 cl with
      | false =>
        rw [y] at e
        exact zb_Model_brokenP_19 (d := d + 170) bt _ k _ (fun _ => e) (fun q => absurd rfl q)
      | true =>
        rw [y] at e
        exact zb_Model_brokenP_19 (d := d + 170) bt _ k _ (fun q => absurd q (by decide)) (fun _ => e)
  · refine ⟨-1, fun F kk => ?_, fun K2 B2 M2 hK2 hS2 hs h2' F kk => ?_⟩
    · have z := kk K B M hK hSw (zSc_rfl M) hT
      refine zb_Boats_brokenR_0 (d := d + 170) _ _ _ (fun _ => z) (fun g1 => ?_)
      refine sp_hasJA (d := d + 189) hK h _ _ (fun _ M1 s1 t1 => ?_) (fun bt k M1 e1 e2 l1 l2 p1 j1 => ?_)
      · exact zb_Boats_brokenN_14 (d := d + 170) _ _ _ (kk K B M1 hK hSw s1 t1)
      · simp only [zle, zlt, zl0, zlm, t7, t0] at g1
        exact absurd ⟨⟨⟨bt, k, e1, e2, l1, l2, p1⟩, g1⟩, trivial⟩ hv
    · have e72 : M2 72 = M 72 := (zsc_keep hs).2.2.2.2
      have z := kk K2 B2 M2 hK2 hS2 (zSc_rfl M2) (zIn_tab h2')
      refine zb_Model_brokenR_0 (d := d + 170) _ _ _ ?_
      refine sp_canAskA (d := d + 189) hK2 h2' _ _ _ (fun _ M1 s1 t1 => ?_) (fun bt k M1 e1 e2 l1 l2 hr p1 j1 => ?_)
      · exact zb_Model_brokenN_7 (d := d + 170) _ _ _ (kk K2 B2 M1 hK2 hS2 s1 t1)
      · skip
        exact absurd ⟨⟨⟨bt, k, e1, e2, l1, l2, by rw [← e72]; exact p1⟩, hr⟩, trivial⟩ hv
