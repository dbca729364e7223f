/-! ===== about, image, back ===== -/
theorem zsub_of {x : Int32} {c n : Nat} (hn : n ≤ 1000) (hc : c ≤ 1000) (h : 0 ≤ (x - nI c).toInt ∧ (x - nI c).toInt < n) : ∃ j, j < n ∧ x = nI (c + j) := by
  obtain ⟨j, hj, e⟩ := znat (x := x - nI c) (n := n) h.1 h.2 (by omega)
  refine ⟨j, hj, ?_⟩
  rw [← nI_add, ← e, Int32.add_comm, Int32.sub_add_cancel]
theorem zLt_at {M : Nat → Nat → Int32} {A : Nat → Int32} {s r e nt b : Nat} (h : zLt M A s r e nt) (hb : b < 8) : ∃ k, k ≤ 3 ∧ M s b = nI k ∧ A (420 + b) = nI k ∧ ∀ i, i < k → M e (3 * b + i) = A (430 + 3 * b + i) := by
  obtain ⟨k, h1, h2, h3, h4⟩ := h b hb
  exact ⟨k, h1, h2, h3, fun i hi => (h4 i hi).1⟩
theorem zop_about (X : zX) (a0 : Int32) : zOp zInv X zm_Boats_about zm_Model_about [.int a0] := by
  refine zop_of (fun d K B M n n' hK hSw h => ?_)
  obtain ⟨⟨⟨c0, c1, c2, c3, c4, c5, c6, c7⟩, b0, b1, b2, b3, b4, b5, b6, b7⟩, -, -, ⟨q0, q1, q2, q3, q4, q5, q6, q7⟩, -, -, -, hl, -, tp, -⟩ := id h
  obtain ⟨t, ht, t1, t2, -⟩ := tp
  have e72 : ∀ M2 : Nat → Nat → Int32, zSc M M2 → M2 72 = M 72 := fun M2 hs => hs.1 72 rfl (by decide) (by decide) (by decide) (by decide) (by decide) (by decide)
  by_cases g0 : a0 = 0
  · subst g0
    refine ⟨M 72 0, zop_no hK hSw (zIn_tab h) (fun F kk => zb_Boats_aboutC0_0 (d := d + 190) hK ?_), fun K2 B2 M2 hK2 hS2 hs h2 => zop_no hK2 hS2 (zIn_tab h2) (fun F kk => zb_Model_aboutC0_0 (d := d + 190) hK2 ?_)⟩
    · rw [q0]; exact kk
    · rw [e72 M2 hs]; exact kk
  by_cases g1 : a0 = 1
  · subst g1
    refine ⟨M 72 1, zop_no hK hSw (zIn_tab h) (fun F kk => zb_Boats_aboutC1_0 (d := d + 190) hK ?_), fun K2 B2 M2 hK2 hS2 hs h2 => zop_no hK2 hS2 (zIn_tab h2) (fun F kk => zb_Model_aboutC1_0 (d := d + 190) hK2 ?_)⟩
    · rw [q1]; exact kk
    · rw [e72 M2 hs]; exact kk
  by_cases g2 : a0 = 2
  · subst g2
    refine ⟨M 72 2, zop_no hK hSw (zIn_tab h) (fun F kk => zb_Boats_aboutC2_0 (d := d + 190) hK ?_), fun K2 B2 M2 hK2 hS2 hs h2 => zop_no hK2 hS2 (zIn_tab h2) (fun F kk => zb_Model_aboutC2_0 (d := d + 190) hK2 ?_)⟩
    · rw [q2]; exact kk
    · rw [e72 M2 hs]; exact kk
  by_cases g3 : a0 = 3
  · subst g3
    refine ⟨M 72 3, zop_no hK hSw (zIn_tab h) (fun F kk => zb_Boats_aboutC3_0 (d := d + 190) hK ?_), fun K2 B2 M2 hK2 hS2 hs h2 => zop_no hK2 hS2 (zIn_tab h2) (fun F kk => zb_Model_aboutC3_0 (d := d + 190) hK2 ?_)⟩
    · rw [q3]; exact kk
    · rw [e72 M2 hs]; exact kk
  by_cases g4 : a0 = 4
  · subst g4
    refine ⟨M 72 4, zop_no hK hSw (zIn_tab h) (fun F kk => zb_Boats_aboutC4_0 (d := d + 190) hK ?_), fun K2 B2 M2 hK2 hS2 hs h2 => zop_no hK2 hS2 (zIn_tab h2) (fun F kk => zb_Model_aboutC4_0 (d := d + 190) hK2 ?_)⟩
    · rw [q4]; exact kk
    · rw [e72 M2 hs]; exact kk
  by_cases g5 : a0 = 5
  · subst g5
    refine ⟨M 72 5, zop_no hK hSw (zIn_tab h) (fun F kk => zb_Boats_aboutC5_0 (d := d + 190) hK ?_), fun K2 B2 M2 hK2 hS2 hs h2 => zop_no hK2 hS2 (zIn_tab h2) (fun F kk => zb_Model_aboutC5_0 (d := d + 190) hK2 ?_)⟩
    · rw [q5]; exact kk
    · rw [e72 M2 hs]; exact kk
  by_cases g6 : a0 = 6
  · subst g6
    refine ⟨M 72 6, zop_no hK hSw (zIn_tab h) (fun F kk => zb_Boats_aboutC6_0 (d := d + 190) hK ?_), fun K2 B2 M2 hK2 hS2 hs h2 => zop_no hK2 hS2 (zIn_tab h2) (fun F kk => zb_Model_aboutC6_0 (d := d + 190) hK2 ?_)⟩
    · rw [q6]; exact kk
    · rw [e72 M2 hs]; exact kk
  by_cases g7 : a0 = 7
  · subst g7
    refine ⟨M 72 7, zop_no hK hSw (zIn_tab h) (fun F kk => zb_Boats_aboutC7_0 (d := d + 190) ?_), fun K2 B2 M2 hK2 hS2 hs h2 => zop_no hK2 hS2 (zIn_tab h2) (fun F kk => zb_Model_aboutC7_0 (d := d + 190) hK2 ?_)⟩
    · rw [q7]; exact kk
    · rw [e72 M2 hs]; exact kk
  by_cases g8 : a0 = 8
  · subst g8
    refine ⟨M 71 3, zop_no hK hSw (zIn_tab h) (fun F kk => zb_Boats_aboutC8_0 (d := d + 190) hK ?_), fun K2 B2 M2 hK2 hS2 hs h2 => zop_no hK2 hS2 (zIn_tab h2) (fun F kk => zb_Model_aboutC8_0 (d := d + 190) ?_)⟩
    · rw [t1, ← t2]; exact kk
    · rw [hs.2.2.1]; exact kk
  have em : ∀ c : Nat, c < 9 → a0 ≠ nI c := by
    intro c hc e
    have z : c = 0 ∨ c = 1 ∨ c = 2 ∨ c = 3 ∨ c = 4 ∨ c = 5 ∨ c = 6 ∨ c = 7 ∨ c = 8 := by omega
    rcases z with rfl | rfl | rfl | rfl | rfl | rfl | rfl | rfl | rfl
    · exact g0 e
    · exact g1 e
    · exact g2 e
    · exact g3 e
    · exact g4 e
    · exact g5 e
    · exact g6 e
    · exact g7 e
    · exact g8 e
  by_cases hS : 0 ≤ (a0 - nI 10).toInt ∧ (a0 - nI 10).toInt < n 4
  · obtain ⟨bt, hbt, rfl⟩ := zsub_of (n := n 4) (by omega) (by omega) hS
    obtain ⟨st, s1, s2, s3, s4⟩ := zLt_at hl (show bt < 8 by omega)
    refine ⟨nI st, zop_no hK hSw (zIn_tab h) (fun F kk => ?_), fun K2 B2 M2 hK2 hS2 hs h2 => zop_no hK2 hS2 (zIn_tab h2) (fun F kk => ?_)⟩
    · exact zb_Boats_aboutS_0 (d := d + 190) hK (q4.trans c4) b4 hbt s2 s1 (fun _ q _ => absurd q (by omega)) (fun _ q _ _ => absurd q (by omega)) (fun _ q _ _ _ => absurd q (by omega)) (fun _ q _ _ _ _ => absurd q (by omega)) (fun _ q _ _ _ _ _ => absurd q (by omega)) (fun _ q _ _ _ _ _ _ => absurd q (by omega)) (fun _ q _ _ _ _ _ _ _ => absurd q (by omega)) (fun _ q _ _ _ _ _ _ _ _ => absurd q (by omega)) (fun _ q _ _ _ _ _ _ _ _ _ => absurd q (by omega)) (fun _ q _ _ _ _ _ _ _ _ _ => absurd q (by omega)) (fun _ _ => kk) (fun q _ => absurd q (by omega)) (fun q _ => absurd q (by omega)) (fun q _ => absurd q (by omega))
    · have e := e72 M2 hs
      exact zb_Model_aboutS_0 (d := d + 190) hK2 (by rw [e]; exact c4) b4 hbt (by rw [e]; exact s3) s1 (fun q => absurd q (by omega)) (fun _ q => absurd q (by omega)) (fun _ _ q => absurd q (by omega)) (fun _ _ _ q => absurd q (by omega)) (fun _ _ _ _ q => absurd q (by omega)) (fun _ _ _ _ _ q => absurd q (by omega)) (fun _ _ _ _ _ _ q => absurd q (by omega)) (fun _ _ _ _ _ _ _ q => absurd q (by omega)) (fun _ _ _ _ _ _ _ _ q => absurd q (by omega)) (fun _ _ _ _ _ _ _ _ _ => kk)
  · by_cases hT : 0 ≤ (a0 - nI 20).toInt ∧ (a0 - nI 20).toInt < n 4
    · obtain ⟨bt, hbt, rfl⟩ := zsub_of (n := n 4) (by omega) (by omega) hT
      obtain ⟨st, s1, s2, s3, s4⟩ := zLt_at hl (show bt < 8 by omega)
      refine ⟨if st = 0 then -1 else M 72 (430 + 3 * bt + (st - 1)), zop_no hK hSw (zIn_tab h) (fun F kk => ?_), fun K2 B2 M2 hK2 hS2 hs h2 => zop_no hK2 hS2 (zIn_tab h2) (fun F kk => ?_)⟩
      · refine zb_Boats_aboutT_0 (d := d + 190) hK (q4.trans c4) b4 hbt s2 s1 (fun q _ _ => absurd q (by omega)) (fun q _ _ _ => absurd q (by omega)) (fun q _ _ _ _ => absurd q (by omega)) (fun q _ _ _ _ _ => absurd q (by omega)) (fun q _ _ _ _ _ _ => absurd q (by omega)) (fun q _ _ _ _ _ _ _ => absurd q (by omega)) (fun q _ _ _ _ _ _ _ _ => absurd q (by omega)) (fun q _ _ _ _ _ _ _ _ _ => absurd q (by omega)) (fun q _ _ _ _ _ _ _ _ _ _ => absurd q (by omega)) (fun q _ _ _ _ _ _ _ _ _ _ => absurd q (by omega)) (fun q _ => absurd q (by omega)) (fun _ q => ?_) (fun _ q => ?_)
        · rw [if_neg q] at kk
          have e := s4 (st - 1) (by omega)
          rw [show 3 * bt + st - 1 = 3 * bt + (st - 1) by omega, e]
          exact kk
        · rw [if_pos q] at kk; exact kk
      · have e := e72 M2 hs
        have nb : ¬ (0 ≤ nI (10 + bt) ∧ nI (10 + bt) ≤ (M2 72 4) - 1) := by
          rw [e, c4, zle, zle, zsub1 (by omega), nI_toInt (by omega), zl0]
          omega
        refine zb_Model_aboutT_0 (d := d + 190) hK2 (by rw [e]; exact c4) b4 hbt (by rw [e]; exact s3) s1 (fun q => absurd q (by omega)) (fun _ q => absurd q (by omega)) (fun _ _ q => absurd q (by omega)) (fun _ _ _ q => absurd q (by omega)) (fun _ _ _ _ q => absurd q (by omega)) (fun _ _ _ _ _ q => absurd q (by omega)) (fun _ _ _ _ _ _ q => absurd q (by omega)) (fun _ _ _ _ _ _ _ q => absurd q (by omega)) (fun _ _ _ _ _ _ _ _ q => absurd q (by omega)) (fun _ _ _ _ _ _ _ _ _ _ q => ?_) (fun _ _ _ _ _ _ _ _ _ _ q => ?_) (fun _ _ _ _ _ _ _ _ _ q => absurd q nb)
        · rw [if_neg q] at kk
          rw [e, show 429 + 3 * bt + st = 430 + 3 * bt + (st - 1) by omega]
          exact kk
        · rw [if_pos q] at kk; exact kk
    · have t4 : (M 13 0).toInt = n 4 := by rw [q4.trans c4, znI (by omega)]
      have sS : ¬ (0 ≤ (a0 - 10) ∧ (a0 - 10) < M 13 0) := by
        intro q
        simp only [zle, zlt, zl0, t4] at q
        exact hS q
      have sT : ¬ (0 ≤ (a0 - 20) ∧ (a0 - 20) < M 13 0) := by
        intro q
        simp only [zle, zlt, zl0, t4] at q
        exact hT q
      refine ⟨-2, zop_no hK hSw (zIn_tab h) (fun F kk => ?_), fun K2 B2 M2 hK2 hS2 hs h2 => zop_no hK2 hS2 (zIn_tab h2) (fun F kk => ?_)⟩
      · exact zb_Boats_aboutR_0 (d := d + 190) hK a0 (fun _ _ p => absurd p g0) (fun _ _ _ p => absurd p g1) (fun _ _ _ _ p => absurd p g2) (fun _ _ _ _ _ p => absurd p g3) (fun _ _ _ _ _ _ p => absurd p g4) (fun _ _ _ _ _ _ _ p => absurd p g5) (fun _ _ _ _ _ _ _ _ p => absurd p g6) (fun _ _ _ _ _ _ _ _ _ p => absurd p g7) (fun _ _ _ _ _ _ _ _ _ _ p => absurd p g8) (fun _ _ _ _ _ _ _ _ _ _ _ => kk) (fun _ _ _ => kk) (fun _ _ p => absurd p sS) (fun _ _ p => absurd p sS) (fun _ _ => kk) (fun _ p => absurd p sT) (fun _ p _ => absurd p sT) (fun _ p _ => absurd p sT) (fun _ p _ => absurd p sT) (fun _ p _ => absurd p sT)
      · have e := e72 M2 hs
        have u4 : (M2 72 4 - 1).toInt = (n 4 : Int) - 1 := by rw [e, c4, zsub1 (by omega)]
        have rS : ¬ (0 ≤ (a0 - 10) ∧ (a0 - 10) ≤ M2 72 4 - 1) := by
          intro q
          simp only [zle, zl0, u4] at q
          exact hS ⟨q.1, by have := q.2; show (a0 - 10).toInt < _; omega⟩
        have rT : ¬ (0 ≤ (a0 - 20) ∧ (a0 - 20) ≤ M2 72 4 - 1) := by
          intro q
          simp only [zle, zl0, u4] at q
          exact hT ⟨q.1, by have := q.2; show (a0 - 20).toInt < _; omega⟩
        exact zb_Model_aboutR_0 (d := d + 190) hK2 a0 (fun p => absurd p g0) (fun _ p => absurd p g1) (fun _ _ p => absurd p g2) (fun _ _ _ p => absurd p g3) (fun _ _ _ _ p => absurd p g4) (fun _ _ _ _ _ p => absurd p g5) (fun _ _ _ _ _ _ p => absurd p g6) (fun _ _ _ _ _ _ _ p => absurd p g7) (fun _ _ _ _ _ _ _ _ p => absurd p g8) (fun _ _ _ _ _ _ _ _ _ _ p => absurd p rT) (fun _ _ _ _ _ _ _ _ _ _ p _ => absurd p rT) (fun _ _ _ _ _ _ _ _ _ _ p _ => absurd p rT) (fun _ _ _ _ _ _ _ _ _ _ p _ => absurd p rT) (fun _ _ _ _ _ _ _ _ _ _ p _ => absurd p rT) (fun _ _ _ _ _ _ _ _ _ _ _ => kk) (fun _ _ _ _ _ _ _ _ _ p => absurd p rS) (fun _ _ _ _ _ _ _ _ _ p => absurd p rS)
theorem zcp_no {M : Nat → Nat → Int32} {a b n c : Nat} (h : c ≠ b) : zcpy M a b 0 0 n c = M c := by simp [zcpy, h]
theorem zcp_at {M : Nat → Nat → Int32} {a b n j : Nat} (h : j < n) : zcpy M a b 0 0 n b j = M a j := by
  unfold zcpy
  rw [if_pos rfl, pk_cpy_in (Nat.zero_le _) (by omega)]
  congr 1
  omega
theorem zLt_cp {M M2 : Nat → Nat → Int32} {A A2 : Nat → Int32} {s r e s2 r2 e2 nt : Nat} (h : zLt M A s r e nt) (hs : ∀ b, b < 8 → M2 s2 b = M s b) (hr : ∀ b, b < 24 → M2 r2 b = M r b) (he : ∀ b, b < 24 → M2 e2 b = M e b) (hA : ∀ j, 420 ≤ j → j < 478 → A2 j = A j) : zLt M2 A2 s2 r2 e2 nt := by
  intro b hb
  obtain ⟨k, h1, h2, h3, h4⟩ := h b hb
  refine ⟨k, h1, by rw [hs b hb]; exact h2, by rw [hA _ (by omega) (by omega)]; exact h3, fun i hi => ?_⟩
  obtain ⟨g1, g2, g3, g4⟩ := h4 i hi
  rw [he _ (by omega), hr _ (by omega), hA (430 + 3 * b + i) (by omega) (by omega), hA (454 + 3 * b + i) (by omega) (by omega)]
  exact ⟨g1, g2, g3, g4⟩
theorem zCs_ext {A A2 : Nat → Int32} {n : Nat → Nat} (h : ∀ j, j < 8 → A2 j = A j) (k : zCs A n) : zCs A2 n := by
  unfold zCs at *
  rw [h 0 (by omega), h 1 (by omega), h 2 (by omega), h 3 (by omega), h 4 (by omega), h 5 (by omega), h 6 (by omega), h 7 (by omega)]
  exact k
theorem zUsed_lt {A : Nat → Int32} {n : Nat → Nat} {j : Nat} (k : zCs A n) (h : zUsed n j) : j < 478 := by
  obtain ⟨-, b0, b1, b2, b3, b4, b5, b6, b7⟩ := k
  unfold zUsed at h
  omega
section IM
variable {d : Nat} {F : Option Value → zS → Prop} {X : zX} {b : Nat × Nat} {K : Nat → Nat → Option Nat} {B : Nat → Nat → Int64} {M0 : Nat → Nat → Int32}
theorem lp_copA (hK : zKok K) (kk : ∀ M, (∀ c, c ≠ 73 → M c = M0 c) → (∀ i, i < 478 → M 73 i = M0 72 i) → F none (X, b, zLay, K, B, M)) : ∀ (m j : Nat) (M : Nat → Nat → Int32), j + m = 478 → (∀ c, c ≠ 73 → M c = M0 c) → (∀ i, i < j → M 73 i = M0 72 i) → zEx (zCall d) 10 false 0 zc_Model_copies F 2 [.ref 71, .int 1, .int (nI j)] [] (X, b, zLay, K, B, M) := by
  intro m
  induction m with
  | zero =>
    intro j M hj h1 h2
    have hj : j = 478 := by omega
    subst hj
    exact zb_Model_copiesA_2 hK 478 (by omega) (fun _ => kk M h1 h2) (fun q => absurd q (by omega))
  | succ m ih =>
    intro j M hj h1 h2
    refine zb_Model_copiesA_2 hK j (by omega) (fun q => absurd q (by omega)) (fun _ => ih (j + 1) _ (by omega) (fun c hc => ?_) (fun i hi => ?_))
    · rw [zu_oc hc]; exact h1 c hc
    · rw [zu_at]
      by_cases q : i = j
      · rw [if_pos q, q, h1 72 (by decide)]
      · rw [if_neg q]; exact h2 i (by omega)
theorem sp_copA (hK : zKok K) (kk : ∀ M, (∀ c, c ≠ 73 → M c = M0 c) → (∀ i, i < 478 → M 73 i = M0 72 i) → F none (X, b, zLay, K, B, M)) : zCall (d + 1) zm_Model_copies [.ref 71, .int 1] (X, b, zLay, K, B, M0) F := by
  refine zb_Model_copiesA_0 ?_
  exact lp_copA hK kk 478 0 M0 (by omega) (fun _ _ => rfl) (fun i hi => absurd hi (Nat.not_lt_zero i))
theorem lp_copB (hK : zKok K) (kk : ∀ M, (∀ c, c ≠ 72 → M c = M0 c) → (∀ i, i < 478 → M 72 i = M0 73 i) → F none (X, b, zLay, K, B, M)) : ∀ (m j : Nat) (M : Nat → Nat → Int32), j + m = 478 → (∀ c, c ≠ 72 → M c = M0 c) → (∀ i, i < j → M 72 i = M0 73 i) → zEx (zCall d) 10 false 0 zc_Model_copies F 2 [.ref 71, .int 0, .int (nI j)] [] (X, b, zLay, K, B, M) := by
  intro m
  induction m with
  | zero =>
    intro j M hj h1 h2
    have hj : j = 478 := by omega
    subst hj
    exact zb_Model_copiesB_2 hK 478 (by omega) (fun _ => kk M h1 h2) (fun q => absurd q (by omega))
  | succ m ih =>
    intro j M hj h1 h2
    refine zb_Model_copiesB_2 hK j (by omega) (fun q => absurd q (by omega)) (fun _ => ih (j + 1) _ (by omega) (fun c hc => ?_) (fun i hi => ?_))
    · rw [zu_oc hc]; exact h1 c hc
    · rw [zu_at]
      by_cases q : i = j
      · rw [if_pos q, q, h1 73 (by decide)]
      · rw [if_neg q]; exact h2 i (by omega)
theorem sp_copB (hK : zKok K) (kk : ∀ M, (∀ c, c ≠ 72 → M c = M0 c) → (∀ i, i < 478 → M 72 i = M0 73 i) → F none (X, b, zLay, K, B, M)) : zCall (d + 1) zm_Model_copies [.ref 71, .int 0] (X, b, zLay, K, B, M0) F := by
  refine zb_Model_copiesB_0 ?_
  exact lp_copB hK kk 478 0 M0 (by omega) (fun _ _ => rfl) (fun i hi => absurd hi (Nat.not_lt_zero i))
end IM
theorem zop_image (X : zX) : zOp zInv X zm_Boats_image zm_Model_image [] := by
  intro d K B M hI
  obtain ⟨hK, hSw, n, n', h⟩ := id hI
  obtain ⟨a1, a2, a3, a4, a5, a6, a7, a8, a9, a10, a11, a12, a13, a14⟩ := id h
  obtain ⟨q0, q1, q2, q3, q4, q5, q6, q7⟩ := id a4
  refine zb_Boats_imageZ_0 (d := d + 190) hK ?_
  generalize hM1 : (zu (zcpy (zcpy (zcpy (zu (zu (zu (zu (zu (zu (zu M 26 0 (M 1 1)) 26 1 (M 1 5)) 26 2 (M 1 9)) 26 3 (M 1 10)) 26 4 (M 13 0)) 26 5 (M 13 5)) 26 6 (M 13 10)) 23 28 0 0 8) 24 29 0 0 24) 25 30 0 0 24) 26 7 (M 0 7)) = M1
  have u1 : ∀ c, c ≠ 26 → c ≠ 28 → c ≠ 29 → c ≠ 30 → M1 c = M c := by
    intro c h1 h2 h3 h4
    rw [← hM1, zu_oc h1, zcp_no h4, zcp_no h3, zcp_no h2, zu_oc h1, zu_oc h1, zu_oc h1, zu_oc h1, zu_oc h1, zu_oc h1, zu_oc h1]
  have k26 : M1 26 0 = M 1 1 ∧ M1 26 1 = M 1 5 ∧ M1 26 2 = M 1 9 ∧ M1 26 3 = M 1 10 ∧ M1 26 4 = M 13 0 ∧ M1 26 5 = M 13 5 ∧ M1 26 6 = M 13 10 ∧ M1 26 7 = M 0 7 := by
    rw [← hM1]
    exact ⟨rfl, rfl, rfl, rfl, rfl, rfl, rfl, rfl⟩
  have k28 : ∀ b, b < 8 → M1 28 b = M 23 b := by
    intro b hb
    rw [← hM1, zu_oc (by decide), zcp_no (by decide), zcp_no (by decide), zcp_at hb]
    rfl
  have k29 : ∀ b, b < 24 → M1 29 b = M 24 b := by
    intro b hb
    rw [← hM1, zu_oc (by decide), zcp_no (by decide), zcp_at hb]
    rfl
  have k30 : ∀ b, b < 24 → M1 30 b = M 25 b := by
    intro b hb
    rw [← hM1, zu_oc (by decide), zcp_at hb]
    rfl
  refine ⟨M 13 5, K, B, M1, rfl, rfl, ?_⟩
  refine zb_Model_imageZ_0 (d := d + 190) ?_
  refine sp_copA (d := d + 198) hK (fun M2 v1 v2 => ?_)
  refine zb_Model_imageZ_5 (d := d + 190) hK ?_
  have w : ∀ c, c ≠ 26 → c ≠ 28 → c ≠ 29 → c ≠ 30 → c ≠ 73 → M2 c = M c := fun c h1 h2 h3 h4 h5 => (v1 c h5).trans (u1 c h1 h2 h3 h4)
  have e72 : M2 72 = M 72 := w 72 (by decide) (by decide) (by decide) (by decide) (by decide)
  have e73 : ∀ j, j < 478 → M2 73 j = M 72 j := fun j hj => by rw [v2 j hj, u1 72 (by decide) (by decide) (by decide) (by decide)]
  refine ⟨K, B, M2, ?_, rfl, hK, hSw, n, n, ?_⟩
  · rw [e72, q5]
  have es : zSame M M2 n := by
    unfold zSame
    rw [w 2 (by decide) (by decide) (by decide) (by decide) (by decide), w 3 (by decide) (by decide) (by decide) (by decide) (by decide), w 4 (by decide) (by decide) (by decide) (by decide) (by decide), w 5 (by decide) (by decide) (by decide) (by decide) (by decide), w 6 (by decide) (by decide) (by decide) (by decide) (by decide), w 7 (by decide) (by decide) (by decide) (by decide) (by decide), w 8 (by decide) (by decide) (by decide) (by decide) (by decide), w 14 (by decide) (by decide) (by decide) (by decide) (by decide), w 15 (by decide) (by decide) (by decide) (by decide) (by decide), w 16 (by decide) (by decide) (by decide) (by decide) (by decide), w 17 (by decide) (by decide) (by decide) (by decide) (by decide), w 18 (by decide) (by decide) (by decide) (by decide) (by decide), w 19 (by decide) (by decide) (by decide) (by decide) (by decide), w 20 (by decide) (by decide) (by decide) (by decide) (by decide), w 21 (by decide) (by decide) (by decide) (by decide) (by decide)]
    exact ⟨fun _ _ => rfl, fun _ _ => ⟨rfl, rfl, rfl⟩, fun _ _ => ⟨rfl, rfl, rfl⟩, fun _ _ => ⟨rfl, rfl, rfl, rfl⟩, fun _ _ => ⟨rfl, rfl, rfl, rfl⟩⟩
  refine ⟨by rw [e72]; exact a1, zCs_ext (fun j hj => e73 j (by omega)) a1, ⟨Nat.le_refl _, Nat.le_refl _, Nat.le_refl _, Nat.le_refl _, Nat.le_refl _, Nat.le_refl _, Nat.le_refl _⟩, ?_, ?_, ?_, ?_, ?_, ?_, ?_, ?_, ?_, ?_, ?_⟩
  · unfold zCc
    rw [e72, w 1 (by decide) (by decide) (by decide) (by decide) (by decide), w 13 (by decide) (by decide) (by decide) (by decide) (by decide), w 0 (by decide) (by decide) (by decide) (by decide) (by decide)]
    exact a4
  · obtain ⟨z0, z1, z2, z3, z4, z5, z6, z7⟩ := k26
    unfold zCi
    rw [v1 26 (by decide), e73 0 (by decide), e73 1 (by decide), e73 2 (by decide), e73 3 (by decide), e73 4 (by decide), e73 5 (by decide), e73 6 (by decide), e73 7 (by decide)]
    exact ⟨z0.trans q0, z1.trans q1, z2.trans q2, z3.trans q3, z4.trans q4, z5.trans q5, z6.trans q6, z7.trans q7⟩
  · rw [e72]; exact zRw_self a6 es (fun _ _ => rfl)
  · exact zRw_self a6 es (fun j hj => e73 j (zUsed_lt a1 hj))
  · exact zLt_cp a8 (fun b _ => by rw [w 23 (by decide) (by decide) (by decide) (by decide) (by decide)]) (fun b _ => by rw [w 24 (by decide) (by decide) (by decide) (by decide) (by decide)]) (fun b _ => by rw [w 25 (by decide) (by decide) (by decide) (by decide) (by decide)]) (fun j _ _ => by rw [e72])
  · exact zLt_cp a8 (fun b hb => by rw [v1 28 (by decide)]; exact k28 b hb) (fun b hb => by rw [v1 29 (by decide)]; exact k29 b hb) (fun b hb => by rw [v1 30 (by decide)]; exact k30 b hb) (fun j _ hj => e73 j hj)
  · unfold zTp
    rw [w 31 (by decide) (by decide) (by decide) (by decide) (by decide), w 71 (by decide) (by decide) (by decide) (by decide) (by decide), w 32 (by decide) (by decide) (by decide) (by decide) (by decide), w 74 (by decide) (by decide) (by decide) (by decide) (by decide)]
    exact a10
  · rw [w 31 (by decide) (by decide) (by decide) (by decide) (by decide), w 71 (by decide) (by decide) (by decide) (by decide) (by decide)]
    exact a11
  · exact zTab_w (fun c h1 h2 => w c (by omega) (by omega) (by omega) (by omega) (by omega)) a12
  · exact fun t ht => zTx_same (fun c hc => w c (by omega) (by omega) (by omega) (by omega) (by omega)) (a13 t ht)
  · unfold zNr
    rw [w 34 (by decide) (by decide) (by decide) (by decide) (by decide)]
    exact a14
theorem zop_back (X : zX) : zOp zInv X zm_Boats_back zm_Model_back [] := by
  intro d K B M hI
  obtain ⟨hK, hSw, n, n', h⟩ := id hI
  obtain ⟨a1, a2, a3, a4, a5, a6, a7, a8, a9, a10, a11, a12, a13, a14⟩ := id h
  obtain ⟨q0, q1, q2, q3, q4, q5, q6, q7⟩ := id a5
  refine zb_Boats_backZ_0 (d := d + 190) hK ?_
  generalize hM1 : (zu (zcpy (zcpy (zcpy (zu (zu (zu (zu (zu (zu (zu (zu M 1 1 (M 26 0)) 1 5 (M 26 1)) 1 9 (M 26 2)) 1 10 (M 26 3)) 1 11 1) 13 0 (M 26 4)) 13 5 (M 26 5)) 13 10 (M 26 6)) 28 23 0 0 8) 29 24 0 0 24) 30 25 0 0 24) 0 7 (M 26 7)) = M1
  have u1 : ∀ c, c ≠ 0 → c ≠ 1 → c ≠ 13 → c ≠ 23 → c ≠ 24 → c ≠ 25 → M1 c = M c := by
    intro c h0 h1 h2 h3 h4 h5
    rw [← hM1, zu_oc h0, zcp_no h5, zcp_no h4, zcp_no h3, zu_oc h2, zu_oc h2, zu_oc h2, zu_oc h1, zu_oc h1, zu_oc h1, zu_oc h1, zu_oc h1]
  have kc : (M1 1 1 = M 26 0 ∧ M1 1 5 = M 26 1 ∧ M1 1 9 = M 26 2 ∧ M1 1 10 = M 26 3 ∧ M1 13 0 = M 26 4 ∧ M1 13 5 = M 26 5 ∧ M1 13 10 = M 26 6 ∧ M1 0 7 = M 26 7) ∧ M1 1 11 = 1 := by
    rw [← hM1]
    exact ⟨⟨rfl, rfl, rfl, rfl, rfl, rfl, rfl, rfl⟩, rfl⟩
  have k23 : ∀ b, b < 8 → M1 23 b = M 28 b := by
    intro b hb
    rw [← hM1, zu_oc (by decide), zcp_no (by decide), zcp_no (by decide), zcp_at hb]
    rfl
  have k24 : ∀ b, b < 24 → M1 24 b = M 29 b := by
    intro b hb
    rw [← hM1, zu_oc (by decide), zcp_no (by decide), zcp_at hb]
    rfl
  have k25 : ∀ b, b < 24 → M1 25 b = M 30 b := by
    intro b hb
    rw [← hM1, zu_oc (by decide), zcp_at hb]
    rfl
  refine ⟨M 26 5, K, B, M1, rfl, rfl, ?_⟩
  refine zb_Model_backZ_0 (d := d + 190) ?_
  refine sp_copB (d := d + 198) hK (fun M2 v1 v2 => ?_)
  refine zb_Model_backZ_5 (d := d + 190) hK ?_
  have w : ∀ c, c ≠ 0 → c ≠ 1 → c ≠ 13 → c ≠ 23 → c ≠ 24 → c ≠ 25 → c ≠ 72 → M2 c = M c := fun c h0 h1 h2 h3 h4 h5 h6 => (v1 c h6).trans (u1 c h0 h1 h2 h3 h4 h5)
  have e73 : M2 73 = M 73 := w 73 (by decide) (by decide) (by decide) (by decide) (by decide) (by decide) (by decide)
  have e72 : ∀ j, j < 478 → M2 72 j = M 73 j := fun j hj => by rw [v2 j hj, u1 73 (by decide) (by decide) (by decide) (by decide) (by decide) (by decide)]
  refine ⟨K, B, M2, ?_, rfl, hK, hSw, n', n', ?_⟩
  · rw [e72 5 (by decide), q5]
  have es : zSame M M2 n' := by
    unfold zSame
    rw [w 2 (by decide) (by decide) (by decide) (by decide) (by decide) (by decide) (by decide), w 3 (by decide) (by decide) (by decide) (by decide) (by decide) (by decide) (by decide), w 4 (by decide) (by decide) (by decide) (by decide) (by decide) (by decide) (by decide), w 5 (by decide) (by decide) (by decide) (by decide) (by decide) (by decide) (by decide), w 6 (by decide) (by decide) (by decide) (by decide) (by decide) (by decide) (by decide), w 7 (by decide) (by decide) (by decide) (by decide) (by decide) (by decide) (by decide), w 8 (by decide) (by decide) (by decide) (by decide) (by decide) (by decide) (by decide), w 14 (by decide) (by decide) (by decide) (by decide) (by decide) (by decide) (by decide), w 15 (by decide) (by decide) (by decide) (by decide) (by decide) (by decide) (by decide), w 16 (by decide) (by decide) (by decide) (by decide) (by decide) (by decide) (by decide), w 17 (by decide) (by decide) (by decide) (by decide) (by decide) (by decide) (by decide), w 18 (by decide) (by decide) (by decide) (by decide) (by decide) (by decide) (by decide), w 19 (by decide) (by decide) (by decide) (by decide) (by decide) (by decide) (by decide), w 20 (by decide) (by decide) (by decide) (by decide) (by decide) (by decide) (by decide), w 21 (by decide) (by decide) (by decide) (by decide) (by decide) (by decide) (by decide)]
    exact ⟨fun _ _ => rfl, fun _ _ => ⟨rfl, rfl, rfl⟩, fun _ _ => ⟨rfl, rfl, rfl⟩, fun _ _ => ⟨rfl, rfl, rfl, rfl⟩, fun _ _ => ⟨rfl, rfl, rfl, rfl⟩⟩
  refine ⟨zCs_ext (fun j hj => e72 j (by omega)) a2, by rw [e73]; exact a2, ⟨Nat.le_refl _, Nat.le_refl _, Nat.le_refl _, Nat.le_refl _, Nat.le_refl _, Nat.le_refl _, Nat.le_refl _⟩, ?_, ?_, ?_, ?_, ?_, ?_, ?_, ?_, ?_, ?_, ?_⟩
  · obtain ⟨⟨z0, z1, z2, z3, z4, z5, z6, z7⟩, -⟩ := kc
    unfold zCc
    rw [v1 1 (by decide), v1 13 (by decide), v1 0 (by decide), e72 0 (by decide), e72 1 (by decide), e72 2 (by decide), e72 3 (by decide), e72 4 (by decide), e72 5 (by decide), e72 6 (by decide), e72 7 (by decide)]
    exact ⟨z0.trans q0, z1.trans q1, z2.trans q2, z3.trans q3, z4.trans q4, z5.trans q5, z6.trans q6, z7.trans q7⟩
  · unfold zCi
    rw [e73, w 26 (by decide) (by decide) (by decide) (by decide) (by decide) (by decide) (by decide)]
    exact a5
  · exact zRw_self a7 es (fun j hj => e72 j (zUsed_lt a2 hj))
  · rw [e73]; exact zRw_self a7 es (fun _ _ => rfl)
  · exact zLt_cp a9 (fun b hb => by rw [v1 23 (by decide)]; exact k23 b hb) (fun b hb => by rw [v1 24 (by decide)]; exact k24 b hb) (fun b hb => by rw [v1 25 (by decide)]; exact k25 b hb) (fun j _ hj => e72 j hj)
  · exact zLt_cp a9 (fun b _ => by rw [w 28 (by decide) (by decide) (by decide) (by decide) (by decide) (by decide) (by decide)]) (fun b _ => by rw [w 29 (by decide) (by decide) (by decide) (by decide) (by decide) (by decide) (by decide)]) (fun b _ => by rw [w 30 (by decide) (by decide) (by decide) (by decide) (by decide) (by decide) (by decide)]) (fun j _ _ => by rw [e73])
  · unfold zTp
    rw [w 31 (by decide) (by decide) (by decide) (by decide) (by decide) (by decide) (by decide), w 71 (by decide) (by decide) (by decide) (by decide) (by decide) (by decide) (by decide), w 32 (by decide) (by decide) (by decide) (by decide) (by decide) (by decide) (by decide), w 74 (by decide) (by decide) (by decide) (by decide) (by decide) (by decide) (by decide)]
    exact a10
  · rw [w 31 (by decide) (by decide) (by decide) (by decide) (by decide) (by decide) (by decide), w 71 (by decide) (by decide) (by decide) (by decide) (by decide) (by decide) (by decide)]
    exact a11
  · exact Or.inl (by rw [v1 1 (by decide)]; exact kc.2)
  · have l7 := a3.2.2.2.2.2.2
    exact fun t ht => zTx_same (fun c hc => w c (by omega) (by omega) (by omega) (by omega) (by omega) (by omega) (by omega)) (a13 t (by omega))
  · unfold zNr
    rw [w 34 (by decide) (by decide) (by decide) (by decide) (by decide) (by decide) (by decide)]
    exact a14
