/-! ===== appeal ===== -/
section AP
variable {d : Nat} {F : Option Value → zS → Prop} {X : zX} {K : Nat → Nat → Option Nat} {B : Nat → Nat → Int64} {M : Nat → Nat → Int32} {n n' : Nat → Nat} {bt k kc sd tx : Nat} {ru : Int32} {cl : Nat → Option (List (Nat × Nat))}
def zRej (A : Nat → Int32) (n : Nat → Nat) (bt k sd : Nat) (cl : Nat → Option (List (Nat × Nat))) : Prop := zpos A bt k sd (n 0) (n 5) (n 3) (zDD A n) = true ∧ zbr A n bt k sd cl = true
theorem sp_appC (hK : zKok K) (hSw : zSw K) (h : zIn M n n') (h1 : bt < n 4) (hk : k < 60) (hr : (-1) ≤ ru.toInt ∧ ru.toInt < n 7) (r1 : zRtx (n 7) ru tx) (r2 : ∀ M2, zSc M M2 → zRc M2 tx cl ∧ zRr M2 ru cl) (hkc : M 23 bt = nI kc) (hk3 : 0 < kc ∧ kc ≤ 3) (hsd : M 25 (3 * bt + kc - 1) = nI sd) (hs60 : sd < 60) (hru : M 24 (3 * bt + kc - 1) = ru) (hge : sd ≤ k) (k1 : ¬ zRej (M 72) n bt k sd cl → ∀ K' M', zKok K' → zSw K' → zSc M M' → zTab M' → F (some (.int (nI (kc - 1)))) (X, (0, 0), zLay, K', B, (zu M' 23 bt (nI (kc - 1))))) (k0 : zRej (M 72) n bt k sd cl → ∀ K' M', zKok K' → zSw K' → zSc M M' → zTab M' → F (some (.int (-1))) (X, (0, 0), zLay, K', B, M')) : zEx (zCall (d + 199)) 9 false 1 zc_Boats_appeal F 17 [.ref 0, .int (nI bt), .int (nI k), .null, .null] [] (X, (0, 0), zLay, K, B, M) := by
  have hb := h.1.2
  obtain ⟨⟨⟨c0, c1, c2, c3, c4, c5, c6, c7⟩, b0, b1, b2, b3, b4, b5, b6, b7⟩, -, -, ⟨q0, q1, q2, q3, q4, q5, q6, q7⟩, -⟩ := id h
  have t7 : (M 0 7).toInt = n 7 := by rw [q7.trans c7, znI (by omega)]
  refine zb_Boats_appealP_17 (d := d + 170) (kc := kc) (sd := sd) (ru := ru) hK bt k (by omega) hk hkc hk3.2 (fun _ => hsd) hs60 (fun _ => hru) (fun _ => by simp only [zle, zlt, zlm, t7]; exact hr) (fun _ _ z => absurd z (by omega)) (fun _ _ _ => ?_) (fun z z2 => absurd z2 z) (fun z z2 => absurd z2 z) (fun z => absurd z (by omega)) (fun z => absurd z (by omega))
  refine sp_tr (d := d + 190) (u := sd) hK h ⟨by omega, hk, by omega⟩ (fun M1 j1 => ?_)
  obtain ⟨s1, t1⟩ := zJc_sc j1
  have rc := (r2 M1 s1).1
  have ph := zPh_in (zIn_scr h s1 t1) rc
  obtain ⟨z1, z2, z3, z4, z5⟩ := zsc_keep s1
  rw [z5] at ph
  have e23 : M1 23 = M 23 := s1.1 23 rfl (by decide) (by decide) (by decide) (by decide) (by decide) (by decide)
  refine zb_Boats_appealP_68 (d := d + 170) (kc := kc) (n7 := n 7) (tx := tx) hK bt k sd ru j1.2.2.2.2.2.2.2.2.1 (by rw [z3]; exact q7.trans c7) r1 (zRc_tx rc) (by omega) (by rw [e23]; exact hkc) hk3 (fun z => ?_) (fun z => ?_)
  · exact k1 (fun q => by rw [q.1] at z; exact absurd z (by decide)) K M1 hK hSw s1 t1
  · have hp : zpos (M 72) bt k sd (n 0) (n 5) (n 3) (zDD (M 72) n) = true := by
      cases y : zpos (M 72) bt k sd (n 0) (n 5) (n 3) (zDD (M 72) n) with
      | true => rfl
      | false => rw [y] at z; exact absurd rfl z
    have cj := zJc_CJ2 h hp j1
    refine sp_brC (d := d + 175) hK hSw cj ph (by omega) hk (fun K3 M3 k3 w3 u3 => ?_)
    have s3 := zSc_tr s1 (zFb_sc u3)
    refine zb_Boats_appealP_90 (d := d + 170) (kc := kc) k3 bt k sd ru _ (by omega) (by rw [u3 23 (by omega), e23]; exact hkc) hk3 (fun z => ?_) (fun z => ?_)
    · exact k1 (fun q => by rw [q.2] at z; exact absurd z (by decide)) K3 M3 k3 w3 s3 (zFb_tab u3 t1)
    · exact k0 ⟨hp, by cases y : zbr (M 72) n bt k sd cl with
        | true => rfl
        | false => rw [y] at z; exact absurd rfl z⟩ K3 M3 k3 w3 s3 (zFb_tab u3 t1)
theorem sp_appM {M1 : Nat → Nat → Int32} (hK : zKok K) (h : zIn M n n') (e : M1 72 = M 72) (h1 : bt < n 4) (hk : k < 60) (rr : zRr M1 ru cl) (hkc : M 72 (420 + bt) = nI kc) (hk3 : 0 < kc ∧ kc ≤ 3) (hsd : M 72 (430 + 3 * bt + (kc - 1)) = nI sd) (hs60 : sd < 60) (hru : M 72 (454 + 3 * bt + (kc - 1)) = ru) (hge : sd ≤ k) (k1 : ¬ zRej (M 72) n bt k sd cl → ∀ B' M', zSc M1 M' → (∀ c, 1 ≤ c → c ≤ 12 → M' c = M1 c) → F (some (.int (nI (kc - 1)))) (X, (0, 0), zLay, K, B', (zu M' 72 (420 + bt) (nI (kc - 1))))) (k0 : zRej (M 72) n bt k sd cl → ∀ B' M', zSc M1 M' → (∀ c, 1 ≤ c → c ≤ 12 → M' c = M1 c) → F (some (.int (-1))) (X, (0, 0), zLay, K, B', M')) : zEx (zCall (d + 199)) 10 false 1 zc_Model_appeal F 15 [.ref 71, .int (nI bt), .int (nI k), .null, .null] [] (X, (0, 0), zLay, K, B, M1) := by
  have hb := h.1.2
  refine zb_Model_appealP_15 (d := d + 170) (kc := kc) (sd := sd) hK bt k (by omega) hk (by rw [e]; exact hkc) hk3.2 (fun _ => by rw [e]; exact hsd) hs60 (fun _ _ => ?_) (fun _ z => absurd z (by omega)) (fun z => absurd z (by omega))
  refine sp_mj2 (d := d + 190) (u := sd) hK h e ⟨by omega, hk, by omega⟩ (fun M2 j2 => ?_)
  have s2 := (zJr_sc j2).1
  have w2 : ∀ c, 1 ≤ c → c ≤ 12 → M2 c = M1 c := fun c c1 c2 => j2.1 c (by omega) (by omega) (by omega) (by omega) (by omega)
  have e2 : M2 72 = M1 72 := zJr_72 j2
  refine zb_Model_appealP_75 (d := d + 170) (kc := kc) (ru := ru) hK bt k (kc - 1) sd _ (by omega) (by rw [e2, e]; exact hkc) hk3 rfl (by rw [e2, e]; exact hru) (fun z => ?_) (fun z => ?_)
  · exact k1 (fun q => by rw [q.1] at z; exact absurd z (by decide)) B M2 s2 w2
  · have hp : zpos (M 72) bt k sd (n 0) (n 5) (n 3) (zDD (M 72) n) = true := by
      cases y : zpos (M 72) bt k sd (n 0) (n 5) (n 3) (zDD (M 72) n) with
      | true => rfl
      | false => rw [y] at z; exact absurd rfl z
    have rq := zRq_in h (zJr_RJ2 h e hp j2) (e2.trans e) (zRr_same (zsc_keep s2).2.1 rr)
    refine sp_brO (d := d + 175) hK rq (by omega) hk (fun B3 M3 u3 => ?_)
    have s3 := zSc_tr s2 (zGr_sc u3)
    have w3 : ∀ c, 1 ≤ c → c ≤ 12 → M3 c = M1 c := fun c c1 c2 => (u3 c (by omega) (by omega) (by omega) (by omega)).trans (w2 c c1 c2)
    have e3 : M3 72 = M 72 := (u3 72 (by decide) (by decide) (by decide) (by decide)).trans (e2.trans e)
    refine zb_Model_appealP_98 (d := d + 170) (kc := kc) hK bt k (kc - 1) sd _ (by omega) (by rw [e3]; exact hkc) hk3 (fun z => ?_) (fun z => ?_)
    · exact k1 (fun q => by rw [q.2] at z; exact absurd z (by decide)) B3 M3 s3 w3
    · exact k0 ⟨hp, by cases y : zbr (M 72) n bt k sd cl with
        | true => rfl
        | false => rw [y] at z; exact absurd rfl z⟩ B3 M3 s3 w3
end AP
theorem zop_appeal (X : zX) (a0 a1 : Int32) : zOp zInv X zm_Boats_appeal zm_Model_appeal [.int a0, .int a1] := by
  intro d K B M hI
  obtain ⟨hK, hSw, n, n', h⟩ := hI
  have hT := zIn_tab h
  have hb := h.1.2
  obtain ⟨⟨⟨c0, c1, c2, c3, c4, c5, c6, c7⟩, b0, b1, b2, b3, b4, b5, b6, b7⟩, -, -, ⟨q0, q1, q2, q3, q4, q5, q6, q7⟩, -⟩ := id h
  have t4 : (M 13 0).toInt = n 4 := by rw [q4.trans c4, znI (by omega)]
  have l60 : (60 : Int32).toInt = 60 := rfl
  by_cases hv : (0 ≤ a0.toInt ∧ a0.toInt < n 4) ∧ (0 ≤ a1.toInt ∧ a1.toInt < 60)
  · obtain ⟨bt, h1, rfl⟩ := znat (x := a0) (n := n 4) hv.1.1 hv.1.2 (by omega)
    obtain ⟨k, hk, rfl⟩ := znat (x := a1) (n := 60) hv.2.1 hv.2.2 (by decide)
    obtain ⟨kc, k3, l1, l2, l3⟩ := zlet_of h (bt := bt) (by omega)
    have cIn : ∀ {F : Option Value → zS → Prop}, zEx (zCall (d + 199)) 9 false 1 zc_Boats_appeal F 17 [.ref 0, .int (nI bt), .int (nI k), .null, .null] [] (X, (0, 0), zLay, K, B, M) → zCall (d + 200) zm_Boats_appeal [.ref 0, .int (nI bt), .int (nI k)] (X, (0, 0), zLay, K, B, M) F := fun {F} g => by
      exact zb_Boats_appealR_0 (d := d + 170) hK _ _ (fun q => absurd (zy_lt (q4.trans c4) h1 (by omega)) q) (fun _ _ => g) (fun _ q => absurd (zy_day hk) q)
    have mIn : ∀ {F : Option Value → zS → Prop} {K2 : Nat → Nat → Option Nat} {B2 : Nat → Nat → Int64} {M2 : Nat → Nat → Int32}, zKok K2 → M2 72 = M 72 → zEx (zCall (d + 199)) 10 false 1 zc_Model_appeal F 15 [.ref 71, .int (nI bt), .int (nI k), .null, .null] [] (X, (0, 0), zLay, K2, B2, M2) → zCall (d + 200) zm_Model_appeal [.ref 71, .int (nI bt), .int (nI k)] (X, (0, 0), zLay, K2, B2, M2) F := fun {F K2 B2 M2} hK2 e g => by
      exact zb_Model_appealR_0 (d := d + 170) hK2 _ _ (fun q => absurd (zy_le (by rw [e]; exact c4) h1 (by omega)) q) (fun _ q => absurd (zy_day9 hk) q) (fun _ _ => g)
    by_cases hz : kc = 0
    · subst hz
      refine zop_at (v := -1) h (fun F kk => ?_) (fun K2 B2 M2 hK2 hS2 hs h2' F kk => ?_)
      · have z := kk K B M hK hSw (zSc_rfl M) hT
        refine cIn ?_
        exact zb_Boats_appealP_17 (d := d + 170) (kc := 0) (sd := 0) (ru := 0) hK bt k (by omega) hk l1 (by omega) (fun q => absurd q (by omega)) (by omega) (fun q => absurd q (by omega)) (fun q => absurd q (by omega)) (fun q => absurd rfl q) (fun q => absurd rfl q) (fun q => absurd rfl q) (fun q => absurd rfl q) (fun _ _ => z) (fun _ _ => z)
      · have e72 : M2 72 = M 72 := (zsc_keep hs).2.2.2.2
        have z := kk K2 B2 M2 hK2 hS2 (zSc_rfl M2) (zIn_tab h2')
        refine mIn hK2 e72 ?_
        exact zb_Model_appealP_15 (d := d + 170) (kc := 0) (sd := 0) hK2 bt k (by omega) hk (by rw [e72]; exact l2) (by omega) (fun q => absurd q (by omega)) (by omega) (fun q => absurd rfl q) (fun q => absurd rfl q) (fun _ => z)
    · obtain ⟨g1, g2, ⟨sd, hs60, g3⟩, g4⟩ := l3 (kc - 1) (by omega)
      have hp3 : 0 < kc ∧ kc ≤ 3 := by omega
      have i1 : 3 * bt + (kc - 1) = 3 * bt + kc - 1 := by omega
      rw [i1] at g1 g2
      generalize hru : M 72 (454 + 3 * bt + (kc - 1)) = ru at g2 g4
      have hr : (-1) ≤ ru.toInt ∧ ru.toInt < n 7 := by
        rcases g4 with q | ⟨t, ht, q⟩
        · rw [q, zlm]; omega
        · rw [q, znI (by omega)]; omega
      have g1 := g1.trans g3
      by_cases hge : sd ≤ k
      · obtain ⟨tx, cl, r1, r2⟩ := zRul2 h hr
        by_cases ha : zRej (M 72) n bt k sd cl
        · refine zop_at (v := -1) h (fun F kk => ?_) (fun K2 B2 M2 hK2 hS2 hs h2' F kk => ?_)
          · exact cIn (sp_appC hK hSw h h1 hk hr r1 r2 l1 hp3 g1 hs60 g2 hge (fun q => absurd ha q) (fun _ K3 M3 k3' w3 s3 t3 => kk K3 B M3 k3' w3 s3 t3))
          · have e72 : M2 72 = M 72 := (zsc_keep hs).2.2.2.2
            exact mIn hK2 e72 (sp_appM (M := M) (cl := cl) hK2 h e72 h1 hk (r2 M2 hs).2 l2 hp3 g3 hs60 hru hge (fun q => absurd ha q) (fun _ B4 M4 s4 w4 => kk K2 B4 M4 hK2 hS2 s4 (zTab_w w4 (zIn_tab h2'))))
        · refine cIn (sp_appC hK hSw h h1 hk hr r1 r2 l1 hp3 g1 hs60 g2 hge (fun _ K3 M3 k3' w3 s3 t3 => ?_) (fun q => absurd q ha))
          refine ⟨nI (kc - 1), K3, B, _, rfl, rfl, ?_⟩
          have e3 : M3 72 = M 72 := (zsc_keep s3).2.2.2.2
          generalize hM1 : (zu M3 23 bt (nI (kc - 1))) = M1
          have u1 : ∀ c, c ≠ 23 → c ≠ 24 → c ≠ 25 → M1 c = M3 c := fun c d1 d2 d3 => by rw [← hM1, zu_oc d1]
          have e1 : M1 72 = M 72 := (u1 72 (by decide) (by decide) (by decide)).trans e3
          refine mIn k3' e1 (sp_appM (M := M) (cl := cl) k3' h e1 h1 hk (zRr_same (fun c d1 d2 => u1 c (by omega) (by omega) (by omega)) (r2 M3 s3).2) l2 hp3 g3 hs60 hru hge (fun _ B4 M4 s4 w4 => ?_) (fun q => absurd q ha))
          have e4 : M4 72 = M 72 := (zsc_keep s4).2.2.2.2.trans e1
          have f4 : ∀ c, c = 23 ∨ c = 24 ∨ c = 25 → M4 c = M1 c := fun c hc => by
            rcases hc with q | q | q <;> (rw [q]; exact s4.1 _ rfl (by decide) (by decide) (by decide) (by decide) (by decide) (by decide))
          refine ⟨K3, B4, _, rfl, rfl, k3', w3, n, n', ?_⟩
          generalize hM2 : (zu M4 72 (420 + bt) (nI (kc - 1))) = M2
          have u2 : ∀ c, c ≠ 72 → M2 c = M4 c := fun c hc => by rw [← hM2, zu_oc hc]
          have a2 : ∀ j, M2 72 j = if j = 420 + bt then nI (kc - 1) else M 72 j := fun j => by rw [← hM2, zu_at, e4]
          have g23 : ∀ j, M2 23 j = if j = bt then nI (kc - 1) else M 23 j := fun j => by
            rw [u2 23 (by decide), f4 23 (by omega), ← hM1, zu_at, s3.1 23 rfl (by decide) (by decide) (by decide) (by decide) (by decide) (by decide)]
          have g24 : M2 24 = M 24 := by
            rw [u2 24 (by decide), f4 24 (by omega), ← hM1, zu_oc (by decide), s3.1 24 rfl (by decide) (by decide) (by decide) (by decide) (by decide) (by decide)]
          have g25 : M2 25 = M 25 := by
            rw [u2 25 (by decide), f4 25 (by omega), ← hM1, zu_oc (by decide), s3.1 25 rfl (by decide) (by decide) (by decide) (by decide) (by decide) (by decide)]
          refine zIn_let h (zSc_mz s3 u1 s4 u2) (zTab_w (fun c d1 d2 => by rw [u2 c (by omega), w4 c d1 d2, u1 c (by omega) (by omega) (by omega)]) t3) (fun j hj => ?_) (zLt_set (kn := 3) (bt := bt) h.2.2.2.2.2.2.2.1 (fun b h8 hne => ?_) (fun b i h8 i3 hor => ?_) ?_)
          · rw [a2, if_neg (by omega)]
          · rw [g23, if_neg hne, a2, if_neg (by omega)]
            exact ⟨rfl, rfl⟩
          · rw [g25, g24, a2, if_neg (by omega), a2, if_neg (by omega)]
            exact ⟨rfl, rfl, rfl, rfl⟩
          · refine ⟨kc - 1, by omega, by rw [g23, if_pos rfl], by rw [a2, if_pos rfl], fun i hi => ?_⟩
            rw [g25, g24, a2, if_neg (by omega), a2, if_neg (by omega)]
            exact l3 i (by omega)
      · have t7 : (M 0 7).toInt = n 7 := by rw [q7.trans c7, znI (by omega)]
        refine zop_at (v := -1) h (fun F kk => ?_) (fun K2 B2 M2 hK2 hS2 hs h2' F kk => ?_)
        · have z := kk K B M hK hSw (zSc_rfl M) hT
          refine cIn ?_
          exact zb_Boats_appealP_17 (d := d + 170) (kc := kc) (sd := sd) (ru := ru) hK bt k (by omega) hk l1 k3 (fun _ => g1) hs60 (fun _ => g2) (fun _ => by simp only [zle, zlt, zlm, t7]; exact hr) (fun _ _ _ => z) (fun _ _ q => absurd q (by omega)) (fun q q2 => absurd q2 q) (fun q q2 => absurd q2 q) (fun q => absurd q hz) (fun q => absurd q hz)
        · have e72 : M2 72 = M 72 := (zsc_keep hs).2.2.2.2
          have z := kk K2 B2 M2 hK2 hS2 (zSc_rfl M2) (zIn_tab h2')
          refine mIn hK2 e72 ?_
          exact zb_Model_appealP_15 (d := d + 170) (kc := kc) (sd := sd) hK2 bt k (by omega) hk (by rw [e72]; exact l2) k3 (fun _ => by rw [e72]; exact g3) hs60 (fun _ q => absurd q (by omega)) (fun _ _ => z) (fun q => absurd q hz)
  · refine zop_at (v := -1) h (fun F kk => ?_) (fun K2 B2 M2 hK2 hS2 hs h2' F kk => ?_)
    · have z := kk K B M hK hSw (zSc_rfl M) hT
      refine zb_Boats_appealR_0 (d := d + 170) hK _ _ (fun _ => z) (fun g1 g2 => ?_) (fun _ _ => z)
      simp only [zle, zlt, zl0, t4, l60] at g1 g2
      exact absurd ⟨g1, g2⟩ hv
    · have z := kk K2 B2 M2 hK2 hS2 (zSc_rfl M2) (zIn_tab h2')
      have w4 : (M2 72 4 - 1).toInt = (n 4 : Int) - 1 := by rw [h2'.1.1.2.2.2.2.1, zsub1 (by omega)]
      refine zb_Model_appealR_0 (d := d + 170) hK2 _ _ (fun _ => z) (fun _ _ => z) (fun g1 g2 => ?_)
      simp only [zle, zl0, zl59, w4] at g1 g2
      exact absurd ⟨⟨g1.1, by omega⟩, g2.1, by omega⟩ hv
