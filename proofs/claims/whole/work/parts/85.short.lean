/-! ===== round, shortOf ===== -/
theorem zSc_3940 {M M2 : Nat → Nat → Int32} (h : ∀ c, c ≠ 39 → c ≠ 40 → M2 c = M c) : zSc M M2 := zSc_w (fun c hc => h c (fun q => by rw [q] at hc; exact absurd hc (by decide)) (fun q => by rw [q] at hc; exact absurd hc (by decide)))
theorem zSc_85 {M M2 : Nat → Nat → Int32} (h : ∀ c, c ≠ 85 → M2 c = M c) : zSc M M2 := zSc_w (fun c hc => h c (fun q => by rw [q] at hc; exact absurd hc (by decide)))
theorem zsc_keep {M M2 : Nat → Nat → Int32} (h : zSc M M2) : (∀ c, zIk c → M2 c = M c) ∧ (∀ c, 75 ≤ c → c ≤ 77 → M2 c = M c) ∧ M2 0 = M 0 ∧ M2 2 = M 2 ∧ M2 72 = M 72 := by
  have g : ∀ c, ((33 ≤ c ∧ c ≤ 37) ∨ (55 ≤ c ∧ c ≤ 70) ∨ (72 ≤ c ∧ c ≤ 77) ∨ c = 0 ∨ c = 2) → M2 c = M c := fun c hc => by
    refine h.1 c ?_ (by omega) (by omega) (by omega) (by omega) (by omega) (by omega)
    unfold zsc
    rw [Bool.or_eq_false_iff, Bool.and_eq_false_iff, Bool.and_eq_false_iff]
    refine ⟨?_, Or.inl (zble_f (by omega))⟩
    by_cases q : 38 ≤ c
    · exact Or.inr (zble_f (by omega))
    · exact Or.inl (zble_f (by omega))
  exact ⟨fun c hc => g c (by unfold zIk at hc; omega), fun c h1 h2 => g c (by omega), g 0 (by omega), g 2 (by omega), g 72 (by omega)⟩
theorem zRul2 {M : Nat → Nat → Int32} {n n' : Nat → Nat} (h : zIn M n n') {ru : Int32} (hr : (-1) ≤ ru.toInt ∧ ru.toInt < n 7) : ∃ tx cl, zRtx (n 7) ru tx ∧ (∀ M2, zSc M M2 → zRc M2 tx cl ∧ zRr M2 ru cl) := by
  obtain ⟨tx, cl, h1, h2, h3⟩ := zRul h hr
  exact ⟨tx, cl, h1, fun M2 hs => ⟨zRc_same (zsc_keep hs).1 h2, zRr_same (zsc_keep hs).2.1 h3⟩⟩
theorem zop_round (X : zX) (a0 a1 : Int32) : zOp zInv X zm_Boats_round zm_Model_round [.int a0, .int a1] := by
  refine zop_of (fun d K B M n n' hK hSw h => ?_)
  have hT := zIn_tab h
  have hb := h.1.2
  obtain ⟨⟨⟨c0, c1, c2, c3, c4, c5, c6, c7⟩, b0, b1, b2, b3, b4, b5, b6, b7⟩, -, -, ⟨q0, q1, q2, q3, q4, q5, q6, q7⟩, -⟩ := id h
  have t7 : (M 0 7).toInt = n 7 := by rw [q7.trans c7, znI (by omega)]
  have t0 : (M 1 1).toInt = n 0 := by rw [q0.trans c0, znI (by omega)]
  by_cases hv : ((-1) ≤ a0.toInt ∧ a0.toInt < n 7) ∧ (0 ≤ a1.toInt ∧ a1.toInt < n 0)
  · obtain ⟨p, hp, rfl⟩ := znat (x := a1) (n := n 0) hv.2.1 hv.2.2 (by omega)
    obtain ⟨tx, cl, r1, r2⟩ := zRul2 h hv.1
    obtain ⟨hPa, hcp⟩ := zIn_pa h
    refine ⟨nI (zrnd (M 72) n cl p), fun F kk => ?_, fun K2 B2 M2 hK2 hS2 hs h2' F kk => ?_⟩
    · refine zb_Boats_roundR_0 (d := d + 170) hK _ _ (fun q => ?_) (fun _ _ => ?_) (fun _ q => absurd (zy_lt (q0.trans c0) hp (by omega)) q)
      · exfalso
        simp only [zle, zlt, zlm, t7] at q
        exact q hv.1
      · refine zb_Boats_round_18 (d := d + 170) hK _ _ ?_
        refine sp_freshen (d := d + 194) hK (zIn_ck h) hT (fun M1 f1 f2 f3 f4 => ?_)
        have s1 := zSc_fresh f1 f2
        have tb1 : zTab M1 := Or.inr ⟨f3, f4⟩
        have i1 := zIn_scr h s1 tb1
        obtain ⟨z1, z2, z3, z4, z5⟩ := zsc_keep s1
        have kx := zIn_kx i1 f4
        rw [z5] at kx
        have rc := (r2 M1 s1).1
        refine zb_Boats_round_25 (d := d + 170) hK _ _ (n7 := n 7) (by rw [z3]; exact q7.trans c7) r1 (zRc_tx rc) ?_
        refine sp_prd (d := d + 191) hK kx (by omega) (by rw [z4]; exact hcp) hPa.2 rc hp (fun M3 u3 => ?_)
        refine zb_Boats_round_38 (d := d + 170) _ _ _ ?_
        exact kk K B M3 hK hSw (zSc_tr s1 (zSc_3940 u3)) (zTab_w (fun c _ _ => u3 c (by omega) (by omega)) tb1)
    · obtain ⟨z1, z2, z3, z4, z5⟩ := zsc_keep hs
      have w7 : (M2 72 7 - 1).toInt = (n 7 : Int) - 1 := by rw [z5, c7, zsub1 (by omega)]
      refine zb_Model_roundR_0 (d := d + 170) hK2 _ _ (fun q => ?_) (fun _ _ => ?_) (fun _ q => absurd (zy_le h2'.1.1.1 hp (by omega)) q)
      · exfalso
        simp only [zle, zlm, w7] at q
        exact q ⟨hv.1.1, by omega⟩
      · refine zb_Model_round_18 (d := d + 170) _ _ ?_
        refine sp_laysMiles (d := d + 196) (dd := 60) hK2 (zIn_cn h2') (by decide) (fun M1 f1 r3 => ?_)
        have e72 : M1 72 = M 72 := (f1.1 72 (by decide)).trans z5
        have hB := fun dd => zD_base (s := n 2) (d := dd) (zCn_w (zIn_cn h))
        have hw := zCn_w (zIn_cn h)
        rw [z5] at r3
        have s1 : zSc M2 M1 := zSc_w (fun c hc => f1.1 c (fun q => by rw [q] at hc; exact absurd hc (by decide)))
        refine zb_Model_round_24 (d := d + 170) _ _ ?_
        refine sp_rdO (d := d + 191) hK2 e72 c0 (by omega) hPa r3 (fun dd x y => (hB dd).2.2 x y) (fun dd x y hx hlt => zD_bound hw (by decide) hx hlt) (r2 M1 (zSc_tr hs s1)).2 hp (fun B3 M3 u3 => ?_)
        refine zb_Model_round_30 (d := d + 170) _ _ _ ?_
        exact kk K2 B3 M3 hK2 hS2 (zSc_tr s1 (zSc_85 u3)) (zTab_w (fun c _ _ => (u3 c (by omega)).trans (f1.1 c (by omega))) (zIn_tab h2'))
  · refine ⟨-1, zop_no hK hSw hT (fun F kk => ?_), fun K2 B2 M2 hK2 hS2 hs h2 => zop_no hK2 hS2 (zIn_tab h2) (fun F kk => ?_)⟩
    · refine zb_Boats_roundR_0 (d := d + 170) hK _ _ (fun _ => kk) (fun g1 g2 => ?_) (fun _ _ => kk)
      exfalso
      simp only [zle, zlt, zl0, zlm, t7, t0] at g1 g2
      exact hv ⟨g1, g2⟩
    · have w7 : (M2 72 7 - 1).toInt = (n 7 : Int) - 1 := by rw [h2.1.1.2.2.2.2.2.2.2, zsub1 (by omega)]
      have w0 : (M2 72 0 - 1).toInt = (n 0 : Int) - 1 := by rw [h2.1.1.1, zsub1 (by omega)]
      refine zb_Model_roundR_0 (d := d + 170) hK2 _ _ (fun _ => kk) (fun g1 g2 => ?_) (fun _ _ => kk)
      exfalso
      simp only [zle, zl0, zlm, w7, w0] at g1 g2
      exact hv ⟨⟨g1.1, by omega⟩, g2.1, by omega⟩
def zsho (A : Nat → Int32) (n : Nat → Nat) (bt k u : Nat) (cl : Nat → Option (List (Nat × Nat))) : Nat := if zfar A n bt k u true < zned cl (zla A bt k u (n 5) - 1 - zfi A bt k u (n 5) + 1) then 2 else if zfar A n bt k u false < zned cl (zla A bt k u (n 5) - 1 - zfi A bt k u (n 5) + 1) then 1 else 0
theorem zned_le (cl : Nat → Option (List (Nat × Nat))) (dy : Nat) : zned cl dy ≤ 9999 := by
  unfold zned
  split
  · omega
  · omega
section SB
variable {d : Nat} {F : Option Value → zS → Prop} {X : zX} {b : Nat × Nat} {K : Nat → Nat → Option Nat} {B : Nat → Nat → Int64} {M : Nat → Nat → Int32} {A : Nat → Int32} {n : Nat → Nat} {bt k u : Nat} {cl : Nat → Option (List (Nat × Nat))} {ru : Int32}
theorem zfar_b (hj : zRJ A n bt k u M) (s : Bool) : zfar A n bt k u s ≤ 9000 := by
  obtain ⟨j1, j2, j3, j4, j5, j6, j7, j8⟩ := hj
  exact (zfar_ex j6 j5.2.2.2.2.2 j7 j5.2.2.1 j8 s).2
theorem sp_sBy (hK : zKok K) (hj : zRJ A n bt k u M) (hRr : zRr M ru cl) (kk : ∀ B' M', (∀ c, c ≠ 85 → c ≠ 93 → M' c = M c) → F (some (.int (nI (zsho A n bt k u cl)))) (X, b, zLay, K, B', M')) : zCall (d + 10) zm_Model_shortBy [.ref 71, .int ru] (X, b, zLay, K, B, M) F := by
  have fb := zfar_b hj
  obtain ⟨hfg, -⟩ := zmS_ok hj.2.2.2.2.2.1 hj.2.2.2.2.1.2.2.2.2.2 hj.2.2.2.2.2.2.1 hj.2.2.2.2.2.2.2
  have nl := zned_le cl (zla A bt k u (n 5) - 1 - zfi A bt k u (n 5) + 1)
  have go : ∀ (B1 : Nat → Nat → Int64) (M1 : Nat → Nat → Int32) (x : Int32), (∀ c, c ≠ 85 → M1 c = M c) → x = nI (zned cl (zla A bt k u (n 5) - 1 - zfi A bt k u (n 5) + 1)) → zCall (d + 9) zm_Model_farOf [.ref 71, .int 1] (X, (0, 0), zLay, K, B1, M1) (zGo (d + 9) 10 false 1 zc_Model_shortBy F 49 [.ref 71, .int ru, .int x] [] b) := by
    intro B1 M1 x u1 hx
    subst hx
    have j1 : zRJ A n bt k u M1 := zRJ_same (by rw [u1 71 (by decide)]; exact ⟨rfl, rfl⟩) (fun c hc => u1 c (by omega)) hj
    refine sp_farR1 (d := d + 5) hK j1 (fun M2 u2 => ?_)
    have w2 : ∀ c, c ≠ 85 → c ≠ 93 → M2 c = M c := fun c h1 h2 => (u2 c h2).trans (u1 c h1)
    refine zb_Model_shortBy_49 ru _ _ (fun q => ?_) (fun q => ?_)
    · rw [nI_leI (by omega) (by have := fb true; omega)] at q
      have j2 : zRJ A n bt k u M2 := zRJ_same (by rw [u2 71 (by decide)]; exact ⟨rfl, rfl⟩) (fun c hc => u2 c (by omega)) j1
      refine sp_farR0 (d := d + 5) hK j2 (fun M3 u3 => ?_)
      have e := kk B1 M3 (fun c h1 h2 => (u3 c h2).trans (w2 c h1 h2))
      unfold zsho at e
      rw [if_neg (by omega)] at e
      refine zb_Model_shortBy_62 ru _ _ (fun q => ?_) (fun q => ?_)
      · rw [nI_leI (by omega) (by have := fb false; omega)] at q
        rw [if_neg (by omega)] at e
        exact e
      · rw [nI_leI (by omega) (by have := fb false; omega)] at q
        rw [if_pos (by omega)] at e
        exact e
    · rw [nI_leI (by omega) (by have := fb true; omega)] at q
      have e := kk B1 M2 w2
      unfold zsho at e
      rw [if_pos (by omega)] at e
      exact e
  refine zb_Model_shortBy_0 hK ru hj.1 hj.2.1 hfg hRr (fun z => ?_) (fun z => ?_)
  · refine go B M _ (fun _ _ => rfl) ?_
    unfold zned
    cases e0 : cl 3 with
    | none => rfl
    | some c => rw [e0] at z; exact absurd rfl z
  · cases e0 : cl 3 with
    | none => rw [e0] at z; cases z
    | some c =>
    refine sp_saysR (d := d + 3) (nm := znme 0 0 0 0 0 0 ((zla A bt k u (n 5) - 1 - zfi A bt k u (n 5) + 1 : Nat) : Int)) (w := 3) hK (zRr_same (fun c h1 h2 => zu_oc (by omega)) hRr) (by decide) e0 (fun i hi hm => ?_) (fun v B2 v2 => ?_)
    · have y : i = 0 ∨ i = 1 ∨ i = 2 ∨ i = 3 ∨ i = 4 ∨ i = 5 ∨ i = 6 := by omega
      rcases y with rfl | rfl | rfl | rfl | rfl | rfl | rfl
      · exact absurd hm (by decide)
      · exact absurd hm (by decide)
      · exact absurd hm (by decide)
      · exact absurd hm (by decide)
      · exact absurd hm (by decide)
      · exact absurd hm (by decide)
      · exact ⟨nI_toInt (by omega), by unfold znme; simp only; omega, by unfold znme; simp only; omega⟩
    · have c0 : ((0 : Int32).toInt64).toInt = 0 := rfl
      have c9 : ((9999 : Int32).toInt64).toInt = 9999 := rfl
      have nd : zned cl (zla A bt k u (n 5) - 1 - zfi A bt k u (n 5) + 1) = (max 0 (min 9999 (zval (znme 0 0 0 0 0 0 ((zla A bt k u (n 5) - 1 - zfi A bt k u (n 5) + 1 : Nat) : Int)) c))).toNat := by
        unfold zned
        rw [e0]
      refine zb_Model_shortBy_36 ru 20 v (fun y y2 => ?_) (fun y y2 => ?_) (fun y => ?_)
      · rw [lg_cmp_ge, zLle, v2, c0] at y
        rw [lg_cmp_le, zLle, v2, c9] at y2
        exact go B2 _ _ (fun c hc => zu_oc hc) (by rw [zhe (hi := 9999) v2 (by decide) y y2, nd]; rfl)
      · rw [lg_cmp_le, zLle, v2, c9] at y2
        exact go B2 _ _ (fun c hc => zu_oc hc) (by rw [nd, show (max 0 (min 9999 (zval (znme 0 0 0 0 0 0 ((zla A bt k u (n 5) - 1 - zfi A bt k u (n 5) + 1 : Nat) : Int)) c))).toNat = 9999 by omega]; rfl)
      · rw [lg_cmp_ge, zLle, v2, c0] at y
        exact go B2 _ _ (fun c hc => zu_oc hc) (by rw [nd, show (max 0 (min 9999 (zval (znme 0 0 0 0 0 0 ((zla A bt k u (n 5) - 1 - zfi A bt k u (n 5) + 1 : Nat) : Int)) c))).toNat = 0 by omega]; rfl)
end SB
theorem zop_shortOf (X : zX) (a0 a1 a2 : Int32) : zOp zInv X zm_Boats_shortOf zm_Model_shortOf [.int a0, .int a1, .int a2] := by
  refine zop_of (fun d K B M n n' hK hSw h => ?_)
  have hT := zIn_tab h
  have hb := h.1.2
  have t7 : (M 0 7).toInt = n 7 := by rw [h.2.2.2.1.2.2.2.2.2.2.2.trans h.1.1.2.2.2.2.2.2.2, znI (by omega)]
  by_cases hv : zAsk (M 72) n a0 a2 ∧ ((-1) ≤ a1.toInt ∧ a1.toInt < n 7)
  · obtain ⟨⟨bt, k, rfl, rfl, h1, hk, hp⟩, hr⟩ := hv
    obtain ⟨tx, cl, r1, r2⟩ := zRul2 h hr
    refine ⟨nI (zsho (M 72) n bt k 60 cl), fun F kk => ?_, fun K2 B2 M2 hK2 hS2 hs h2' F kk => ?_⟩
    · refine zb_Boats_shortOfR_0 (d := d + 170) _ _ _ (fun q => ?_) (fun _ => ?_)
      · exfalso
        simp only [zle, zlt, zlm, t7] at q
        exact q hr
      refine sp_hasJA (d := d + 189) hK h _ _ (fun q => absurd ⟨bt, k, rfl, rfl, h1, hk, hp⟩ q) (fun bt2 k2 M1 e1 e2 l1 l2 p2 j1 => ?_)
      have e1 := (nI_eq (by omega) (by omega)).mp e1
      have e2 := (nI_eq (by omega) (by omega)).mp e2
      subst e1 e2
      obtain ⟨s1, t1⟩ := zJc_sc j1
      have cj := zJc_CJ h hp j1
      obtain ⟨hfg, -⟩ := zmS_ok cj.2.2.2.1.2.2.2.2.1 cj.2.2.2.1.2.2.2.2.2.2.2.2.1 cj.2.2.2.2.2.1 hp
      have rc := (r2 M1 s1).1
      have nl := zned_le cl (zla (M 72) bt k 60 (n 5) - 1 - zfi (M 72) bt k 60 (n 5) + 1)
      have fb : ∀ s, zfar (M 72) n bt k 60 s ≤ 9000 := fun s => (zfar_ex cj.2.2.2.1.2.2.2.2.1 cj.2.2.2.1.2.2.2.2.2.2.2.2.1 cj.2.2.2.2.2.1 cj.2.2.2.2.1.2 hp s).2
      refine zb_Boats_shortOfP_14 (d := d + 170) hK _ _ _ (n7 := n 7) (by rw [(zsc_keep s1).2.2.1]; exact h.2.2.2.1.2.2.2.2.2.2.2.trans h.1.1.2.2.2.2.2.2.2) r1 (zRc_tx rc) cj.1 cj.2.1 hfg ?_
      refine sp_mln (d := d + 191) (by omega) hK rc (fun M3 u3 => ?_)
      refine zb_Boats_shortOfP_38 (d := d + 170) hK _ _ _ _ ?_
      have cj3 : zCJ (M 72) n bt k 60 M3 := zCJ_same (fun c hc => u3 c (by omega) (by omega)) cj
      have s3 := zSc_tr s1 (zSc_3940 u3)
      have t3 : zTab M3 := zTab_w (fun c _ _ => u3 c (by omega) (by omega)) t1
      refine sp_mostC (d := d + 190) hK hSw cj3 (fun K4 M4 k4 w4 u4 => ?_)
      have s4 := zSc_tr s3 (zSc_44 u4)
      have t4 : zTab M4 := zTab_w (fun c _ _ => u4 c (by omega) (by omega)) t3
      refine zb_Boats_shortOfP_47 (d := d + 170) k4 _ _ _ _ _ (fun q => ?_) (fun q => ?_)
      · rw [nI_leI (by omega) (by have := fb true; omega)] at q
        refine sp_leastC (d := d + 190) k4 w4 (zCJ_same (fun c hc => u4 c (by omega) (by omega)) cj3) (fun K5 M5 k5 w5 u5 => ?_)
        have e := kk K5 B M5 k5 w5 (zSc_tr s4 (zSc_44 u5)) (zTab_w (fun c _ _ => u5 c (by omega) (by omega)) t4)
        unfold zsho at e
        rw [if_neg (by omega)] at e
        refine zb_Boats_shortOfP_61 (d := d + 170) _ _ _ _ _ (fun q => ?_) (fun q => ?_)
        · rw [nI_leI (by omega) (by have := fb false; omega)] at q
          rw [if_neg (by omega)] at e
          exact e
        · rw [nI_leI (by omega) (by have := fb false; omega)] at q
          rw [if_pos (by omega)] at e
          exact e
      · rw [nI_leI (by omega) (by have := fb true; omega)] at q
        have e := kk K4 B M4 k4 w4 s4 t4
        unfold zsho at e
        rw [if_pos (by omega)] at e
        exact e
    · have e72 : M2 72 = M 72 := (zsc_keep hs).2.2.2.2
      have hp0 := hp
      rw [← e72] at hp kk
      refine zb_Model_shortOfR_0 (d := d + 170) _ _ _ ?_
      refine sp_canAskA (d := d + 189) hK2 h2' _ _ _ (fun q => absurd ⟨⟨bt, k, rfl, rfl, h1, hk, hp⟩, hr⟩ q) (fun bt2 k2 M1 e1 e2 l1 l2 hr2 p2 j1 => ?_)
      have e1 := (nI_eq (by omega) (by omega)).mp e1
      have e2 := (nI_eq (by omega) (by omega)).mp e2
      subst e1 e2
      obtain ⟨s1, t1⟩ := zJr_sc j1
      have t1 := t1 (zIn_tab h2')
      have rj := zJr_RJ h2' hp j1
      refine zb_Model_shortOfR_7 (d := d + 170) _ _ _ _ (fun q => absurd q (by decide)) (fun _ => ?_)
      refine sp_sBy (d := d + 189) hK2 rj (r2 M1 (zSc_tr hs s1)).2 (fun B3 M3 u3 => ?_)
      refine zb_Model_shortOfR_15 (d := d + 170) _ _ _ _ ?_
      have s3 : zSc M1 M3 := zSc_w (fun c hc => u3 c (fun q => by rw [q] at hc; exact absurd hc (by decide)) (fun q => by rw [q] at hc; exact absurd hc (by decide)))
      exact kk K2 B3 M3 hK2 hS2 (zSc_tr s1 s3) (zTab_w (fun c _ _ => u3 c (by omega) (by omega)) t1)
  · refine ⟨-1, fun F kk => ?_, fun K2 B2 M2 hK2 hS2 hs h2' F kk => ?_⟩
    · have z := kk K B M hK hSw (zSc_rfl M) hT
      refine zb_Boats_shortOfR_0 (d := d + 170) _ _ _ (fun _ => z) (fun g1 => ?_)
      refine sp_hasJA (d := d + 189) hK h _ _ (fun _ M1 s1 t1 => ?_) (fun bt k M1 e1 e2 l1 l2 p1 j1 => ?_)
      · exact zb_Boats_shortOfN_14 (d := d + 170) _ _ _ (kk K B M1 hK hSw s1 t1)
      · simp only [zle, zlt, zlm, t7] at g1
        exact absurd ⟨⟨bt, k, e1, e2, l1, l2, p1⟩, g1⟩ hv
    · have e72 : M2 72 = M 72 := (zsc_keep hs).2.2.2.2
      refine zb_Model_shortOfR_0 (d := d + 170) _ _ _ ?_
      refine sp_canAskA (d := d + 189) hK2 h2' _ _ _ (fun _ M1 s1 t1 => ?_) (fun bt k M1 e1 e2 l1 l2 hr p1 j1 => ?_)
      · exact zb_Model_shortOfR_7 (d := d + 170) _ _ _ _ (fun _ => kk K2 B2 M1 hK2 hS2 s1 t1) (fun q => absurd rfl q)
      · exact absurd ⟨⟨bt, k, e1, e2, l1, l2, by rw [← e72]; exact p1⟩, hr⟩ hv
