/-! ===== way ===== -/
theorem zop_way (X : zX) (a0 a1 a2 : Int32) : zOp zInv X zm_Boats_way zm_Model_way [.int a0, .int a1, .int a2] := by
  intro d K B M hI
  obtain ⟨hK, hSw, n, n', h⟩ := id hI
  obtain ⟨⟨⟨c0, c1, c2, c3, c4, c5, c6, c7⟩, b0, b1, b2, b3, b4, b5, b6, b7⟩, -, -, ⟨q0, q1, q2, q3, q4, q5, q6, q7⟩, -⟩ := id h
  have e1 : M 1 5 = nI (n 1) := q1.trans c1
  have t0 : (M 1 1).toInt = n 0 := by rw [q0.trans c0, znI (by omega)]
  have u0 : (M 72 0).toInt = n 0 := by rw [c0, znI (by omega)]
  have v0 : (M 72 0 - 1).toInt = (n 0 : Int) - 1 := by rw [c0, zsub1 (by omega)]
  have t1 : (M 1 5).toInt = n 1 := by rw [q1.trans c1, znI (by omega)]
  have u1 : (M 72 1).toInt = n 1 := by rw [c1, znI (by omega)]
  have v1 : (M 72 1 - 1).toInt = (n 1 : Int) - 1 := by rw [c1, zsub1 (by omega)]
  have t2 : (M 1 9).toInt = n 2 := by rw [q2.trans c2, znI (by omega)]
  have u2 : (M 72 2).toInt = n 2 := by rw [c2, znI (by omega)]
  have v2 : (M 72 2 - 1).toInt = (n 2 : Int) - 1 := by rw [c2, zsub1 (by omega)]
  have t4 : (M 13 0).toInt = n 4 := by rw [q4.trans c4, znI (by omega)]
  have u4 : (M 72 4).toInt = n 4 := by rw [c4, znI (by omega)]
  have v4 : (M 72 4 - 1).toInt = (n 4 : Int) - 1 := by rw [c4, zsub1 (by omega)]
  have t5 : (M 13 5).toInt = n 5 := by rw [q5.trans c5, znI (by omega)]
  have u5 : (M 72 5).toInt = n 5 := by rw [c5, znI (by omega)]
  have v5 : (M 72 5 - 1).toInt = (n 5 : Int) - 1 := by rw [c5, zsub1 (by omega)]
  have t6 : (M 13 10).toInt = n 6 := by rw [q6.trans c6, znI (by omega)]
  have u6 : (M 72 6).toInt = n 6 := by rw [c6, znI (by omega)]
  have v6 : (M 72 6 - 1).toInt = (n 6 : Int) - 1 := by rw [c6, zsub1 (by omega)]
  by_cases hv : 0 ≤ a0.toInt ∧ a0.toInt < n 0 ∧ 0 ≤ a1.toInt ∧ a1.toInt < n 0 ∧ a0.toInt ≠ a1.toInt ∧ 1 ≤ a2.toInt ∧ a2.toInt ≤ 30 ∧ n 1 < 15
  · have hcl : (M 1 5).toNatClampNeg = n 1 := by rw [e1, nI_clamp (by omega)]
    refine zb_Boats_way_0 (d := d + 198) hK _ _ _ (fun g0 => (by exfalso; clear hI h hSw hK; simp only [zlt, zle, zeq, zl0, zlm, zl1, zl8, zl9, zl10, zl15, zl20, zl30, zl59, zl60, t0, u0, v0, t1, u1, v1, t2, u2, v2, t4, u4, v4, t5, u5, v5, t6, u6, v6] at *; omega)) (fun g0 g1 => (by exfalso; clear hI h hSw hK; simp only [zlt, zle, zeq, zl0, zlm, zl1, zl8, zl9, zl10, zl15, zl20, zl30, zl59, zl60, t0, u0, v0, t1, u1, v1, t2, u2, v2, t4, u4, v4, t5, u5, v5, t6, u6, v6] at *; omega)) (fun g0 g1 g2 => (by exfalso; clear hI h hSw hK; simp only [zlt, zle, zeq, zl0, zlm, zl1, zl8, zl9, zl10, zl15, zl20, zl30, zl59, zl60, t0, u0, v0, t1, u1, v1, t2, u2, v2, t4, u4, v4, t5, u5, v5, t6, u6, v6] at *; omega)) (fun g0 g1 g2 g3 => (by exfalso; clear hI h hSw hK; simp only [zlt, zle, zeq, zl0, zlm, zl1, zl8, zl9, zl10, zl15, zl20, zl30, zl59, zl60, t0, u0, v0, t1, u1, v1, t2, u2, v2, t4, u4, v4, t5, u5, v5, t6, u6, v6] at *; omega)) (fun g0 g1 g2 g3 g4 => (by exfalso; clear hI h hSw hK; simp only [zlt, zle, zeq, zl0, zlm, zl1, zl8, zl9, zl10, zl15, zl20, zl30, zl59, zl60, t0, u0, v0, t1, u1, v1, t2, u2, v2, t4, u4, v4, t5, u5, v5, t6, u6, v6] at *; omega)) (fun g0 g1 g2 g3 g4 g5 => by rw [e1]; exact vp_in_nI (by omega) (by omega)) (fun g0 g1 g2 g3 g4 g5 => by rw [e1]; exact vp_in_nI (by omega) (by omega)) (fun g0 g1 g2 g3 g4 g5 => by rw [e1]; exact vp_in_nI (by omega) (by omega)) (fun g0 g1 g2 g3 g4 g5 => ?_) (fun g0 g1 g2 g3 g4 g5 => (by exfalso; clear hI h hSw hK; simp only [zlt, zle, zeq, zl0, zlm, zl1, zl8, zl9, zl10, zl15, zl20, zl30, zl59, zl60, t0, u0, v0, t1, u1, v1, t2, u2, v2, t4, u4, v4, t5, u5, v5, t6, u6, v6] at *; omega))
    rw [hcl]
    generalize hM1 : (zu (zu (zu (zu (zu M 3 (n 1) a0) 4 (n 1) a1) 5 (n 1) a2) 1 11 1) 1 5 (M 1 5 + 1)) = M1
    have e72 : M1 72 = M 72 := by rw [← hM1]; rfl
    have f3 : ∀ i, M1 3 i = if i = n 1 then a0 else M 3 i := fun i => by rw [← hM1]; exact zu_at M 3 (n 1) i a0
    have f4 : ∀ i, M1 4 i = if i = n 1 then a1 else M 4 i := fun i => by rw [← hM1]; exact zu_at _ 4 (n 1) i a1
    have f5 : ∀ i, M1 5 i = if i = n 1 then a2 else M 5 i := fun i => by rw [← hM1]; exact zu_at _ 5 (n 1) i a2
    have fc : ∀ i, M1 1 i = if i = 5 then nI (n 1 + 1) else if i = 11 then 1 else M 1 i := by
      intro i
      rw [← hM1, zu_at, e1, nI_1, zu_at]
      rfl
    have fo : ∀ c, c ≠ 3 → c ≠ 4 → c ≠ 5 → c ≠ 1 → M1 c = M c := by
      intro c x3 x4 x5 x1
      rw [← hM1]
      simp [zu, x3, x4, x5, x1]
    have c1k : M1 72 1 = nI (n 1) := by rw [e72]; exact c1
    refine ⟨_, K, B, M1, rfl, rfl, ?_⟩
    have hb1 : (20 + 3 * M1 72 1) = nI (20 + 3 * n 1) := by rw [c1k, show (20 : Int32) = nI 20 from rfl, show (3 : Int32) = nI 3 from rfl, pk_mul, nI_add]
    have hb1_1 : (20 + 3 * M1 72 1) + 1 = nI (21 + 3 * n 1) := by rw [hb1, show (1 : Int32) = nI 1 from rfl, nI_add]; congr 1; omega
    have hb1_2 : (20 + 3 * M1 72 1) + 2 = nI (22 + 3 * n 1) := by rw [hb1, show (2 : Int32) = nI 2 from rfl, nI_add]; congr 1; omega
    refine zb_Model_way_0 (d := d + 197) hK _ _ _ (fun g0 => ?_) (fun g0 g1 => ?_) (fun g0 g1 g2 => ?_) (fun g0 g1 g2 g3 => ?_) (fun g0 g1 g2 g3 g4 => by rw [hb1]; exact vp_in_nI (by omega) (by omega)) (fun g0 g1 g2 g3 g4 => by rw [hb1_1]; exact vp_in_nI (by omega) (by omega)) (fun g0 g1 g2 g3 g4 => by rw [hb1_2]; exact vp_in_nI (by omega) (by omega)) (fun g0 g1 g2 g3 g4 => ?_) (fun g0 g1 g2 g3 g4 => ?_)
    · exfalso; clear hM1 fo fc hI h hSw hK; simp only [e72] at *; simp only [zlt, zle, zeq, zl0, zlm, zl1, zl8, zl9, zl10, zl15, zl20, zl30, zl59, zl60, t0, u0, v0, t1, u1, v1, t2, u2, v2, t4, u4, v4, t5, u5, v5, t6, u6, v6] at *; omega
    · exfalso; clear hM1 fo fc hI h hSw hK; simp only [e72] at *; simp only [zlt, zle, zeq, zl0, zlm, zl1, zl8, zl9, zl10, zl15, zl20, zl30, zl59, zl60, t0, u0, v0, t1, u1, v1, t2, u2, v2, t4, u4, v4, t5, u5, v5, t6, u6, v6] at *; omega
    · exfalso; clear hM1 fo fc hI h hSw hK; simp only [e72] at *; simp only [zlt, zle, zeq, zl0, zlm, zl1, zl8, zl9, zl10, zl15, zl20, zl30, zl59, zl60, t0, u0, v0, t1, u1, v1, t2, u2, v2, t4, u4, v4, t5, u5, v5, t6, u6, v6] at *; omega
    · exfalso; clear hM1 fo fc hI h hSw hK; simp only [e72] at *; simp only [zlt, zle, zeq, zl0, zlm, zl1, zl8, zl9, zl10, zl15, zl20, zl30, zl59, zl60, t0, u0, v0, t1, u1, v1, t2, u2, v2, t4, u4, v4, t5, u5, v5, t6, u6, v6] at *; omega
    · generalize hM2 : (zu (zu (zu (zu M1 72 (20 + 3 * M1 72 1).toNatClampNeg a0) 72 ((20 + 3 * M1 72 1) + 1).toNatClampNeg a1) 72 ((20 + 3 * M1 72 1) + 2).toNatClampNeg a2) 72 1 ((zu (zu (zu M1 72 (20 + 3 * M1 72 1).toNatClampNeg a0) 72 ((20 + 3 * M1 72 1) + 1).toNatClampNeg a1) 72 ((20 + 3 * M1 72 1) + 2).toNatClampNeg a2) 72 1 + 1)) = M2
      have f72 : ∀ j, M2 72 j = if j = 1 then nI (n 1 + 1) else if j = 22 + 3 * n 1 then a2 else if j = 21 + 3 * n 1 then a1 else if j = 20 + 3 * n 1 then a0 else M 72 j := by
        intro j
        rw [← hM2]
        rw [hb1_2, hb1_1, hb1]
        rw [nI_clamp (n := 20 + 3 * n 1) (by omega), nI_clamp (n := 21 + 3 * n 1) (by omega), nI_clamp (n := 22 + 3 * n 1) (by omega)]
        simp only [zu_at]
        rw [if_neg (show ¬ 1 = 22 + 3 * n 1 by omega), if_neg (show ¬ 1 = 21 + 3 * n 1 by omega), if_neg (show ¬ 1 = 20 + 3 * n 1 by omega), c1k, e72, nI_1]
      have fo2 : ∀ c, c ≠ 72 → M2 c = M1 c := by
        intro c x72
        rw [← hM2]
        simp [zu, x72]
      refine ⟨K, B, M2, ?_, rfl, hK, hSw, fun k => if k = 1 then n 1 + 1 else n k, n', ?_⟩
      · have e0 : M2 72 1 = nI (n 1 + 1) := by rw [f72, if_pos rfl]
        have e3 : (zu (zu (zu M1 72 (20 + 3 * M1 72 1).toNatClampNeg a0) 72 ((20 + 3 * M1 72 1) + 1).toNatClampNeg a1) 72 ((20 + 3 * M1 72 1) + 2).toNatClampNeg a2) 72 1 + 1 = M2 72 1 := by rw [← hM2, zu_yes]
        rw [e3, e0, e1, nI_pred]
      · refine zIn_add h ⟨fun i _ => ?_, fun i _ => ?_, fun i _ => ?_, fun i _ => ?_, fun i _ => ?_⟩ (fun j hj => ?_) (fun j hj _ => ?_) ?_ ?_ ?_ (fun i hi hi2 => ?_) (fun i hi hi2 => ?_) (fun i hi hi2 => ?_) (fun i hi hi2 => ?_) (fun i hi hi2 => ?_) (fun c hc hc2 => by rw [fo2 c hc2, fo c (by omega) (by omega) (by omega) (by omega)]) ?_
        · rw [fo2 2 (by decide), fo 2 (by decide) (by decide) (by decide) (by decide)]
        · rename_i hi; rw [fo2 3 (by decide), f3, if_neg (by omega), fo2 4 (by decide), f4, if_neg (by omega), fo2 5 (by decide), f5, if_neg (by omega)]; exact ⟨rfl, rfl, rfl⟩
        · rw [fo2 6 (by decide), fo 6 (by decide) (by decide) (by decide) (by decide), fo2 7 (by decide), fo 7 (by decide) (by decide) (by decide) (by decide), fo2 8 (by decide), fo 8 (by decide) (by decide) (by decide) (by decide)]; exact ⟨rfl, rfl, rfl⟩
        · rw [fo2 14 (by decide), fo 14 (by decide) (by decide) (by decide) (by decide), fo2 15 (by decide), fo 15 (by decide) (by decide) (by decide) (by decide), fo2 16 (by decide), fo 16 (by decide) (by decide) (by decide) (by decide), fo2 17 (by decide), fo 17 (by decide) (by decide) (by decide) (by decide)]; exact ⟨rfl, rfl, rfl, rfl⟩
        · rw [fo2 18 (by decide), fo 18 (by decide) (by decide) (by decide) (by decide), fo2 19 (by decide), fo 19 (by decide) (by decide) (by decide) (by decide), fo2 20 (by decide), fo 20 (by decide) (by decide) (by decide) (by decide), fo2 21 (by decide), fo 21 (by decide) (by decide) (by decide) (by decide)]; exact ⟨rfl, rfl, rfl, rfl⟩
        · unfold zUsed at hj
          rw [f72, if_neg (by omega), if_neg (by omega), if_neg (by omega), if_neg (by omega)]
        · rw [f72, if_neg (by omega), if_neg (by omega), if_neg (by omega), if_neg (by omega)]
        · simp only [zCs, f72]
          refine ⟨⟨by rw [if_neg (by omega), if_neg (by omega), if_neg (by omega), if_neg (by omega)]; exact c0, by simp, by rw [if_neg (by omega), if_neg (by omega), if_neg (by omega), if_neg (by omega)]; exact c2, by rw [if_neg (by omega), if_neg (by omega), if_neg (by omega), if_neg (by omega)]; exact c3, by rw [if_neg (by omega), if_neg (by omega), if_neg (by omega), if_neg (by omega)]; exact c4, by rw [if_neg (by omega), if_neg (by omega), if_neg (by omega), if_neg (by omega)]; exact c5, by rw [if_neg (by omega), if_neg (by omega), if_neg (by omega), if_neg (by omega)]; exact c6, by rw [if_neg (by omega), if_neg (by omega), if_neg (by omega), if_neg (by omega)]; exact c7⟩, ?_⟩
          simp
          omega
        · exact ⟨by rw [fo2 1 (by decide), fc, f72, if_neg (by decide), if_neg (by decide), if_neg (by omega), if_neg (by omega), if_neg (by omega), if_neg (by omega)]; exact q0, by rw [fo2 1 (by decide), fc, f72, if_pos rfl, if_pos rfl], by rw [fo2 1 (by decide), fc, f72, if_neg (by decide), if_neg (by decide), if_neg (by omega), if_neg (by omega), if_neg (by omega), if_neg (by omega)]; exact q2, by rw [fo2 1 (by decide), fc, f72, if_neg (by decide), if_neg (by decide), if_neg (by omega), if_neg (by omega), if_neg (by omega), if_neg (by omega)]; exact q3, by rw [fo2 13 (by decide), fo 13 (by decide) (by decide) (by decide) (by decide), f72, if_neg (by omega), if_neg (by omega), if_neg (by omega), if_neg (by omega)]; exact q4, by rw [fo2 13 (by decide), fo 13 (by decide) (by decide) (by decide) (by decide), f72, if_neg (by omega), if_neg (by omega), if_neg (by omega), if_neg (by omega)]; exact q5, by rw [fo2 13 (by decide), fo 13 (by decide) (by decide) (by decide) (by decide), f72, if_neg (by omega), if_neg (by omega), if_neg (by omega), if_neg (by omega)]; exact q6, by rw [fo2 0 (by decide), fo 0 (by decide) (by decide) (by decide) (by decide), f72, if_neg (by omega), if_neg (by omega), if_neg (by omega), if_neg (by omega)]; exact q7⟩
        · simp
        · simp at hi2; omega
        · have hi3 : i = n 1 := by simp at hi2; omega
          subst hi3
          unfold zRy
          rw [fo2 3 (by decide), f3, if_pos rfl, fo2 4 (by decide), f4, if_pos rfl, fo2 5 (by decide), f5, if_pos rfl]
          rw [f72 (20 + 3 * n 1), if_neg (by omega), if_neg (by omega), if_neg (by omega), if_pos rfl, f72 (21 + 3 * n 1), if_neg (by omega), if_neg (by omega), if_pos rfl, f72 (22 + 3 * n 1), if_neg (by omega), if_pos rfl]
          obtain ⟨p, hp, ep⟩ := znat (x := a0) (n := n 0) (by omega) (by omega) (by omega); obtain ⟨q, hq, eq⟩ := znat (x := a1) (n := n 0) (by omega) (by omega) (by omega); obtain ⟨m, hm, em⟩ := znat (x := a2) (n := 31) (by omega) (by omega) (by decide); refine ⟨rfl, rfl, rfl, p, q, m, by simpa using hp, by simpa using hq, fun e => hv.2.2.2.2.1 (by rw [ep, eq, e]), ?_, by omega, ep, eq, em⟩; have := hv.2.2.2.2.2.1; rw [em, znI (by omega)] at this; omega
        · simp at hi2; omega
        · simp at hi2; omega
        · simp at hi2; omega
        · exact Or.inl (by rw [fo2 1 (by decide), fc]; rfl)
    · exfalso; clear hM1 fo fc hI h hSw hK; simp only [e72] at *; simp only [zlt, zle, zeq, zl0, zlm, zl1, zl8, zl9, zl10, zl15, zl20, zl30, zl59, zl60, t0, u0, v0, t1, u1, v1, t2, u2, v2, t4, u4, v4, t5, u5, v5, t6, u6, v6] at *; omega
  · have hno : ∃ (x : Int32) (K1 : Nat → Nat → Option Nat) (B1 : Nat → Nat → Int64) (M1 : Nat → Nat → Int32), (some (Value.int (-1)) : Option Value) = some (.int x) ∧ ((X, (0, 0), zLay, K, B, M) : zS) = (X, (0, 0), zLay, K1, B1, M1) ∧ zCall (d + 200) zm_Model_way (.ref 71 :: [.int a0, .int a1, .int a2]) (X, (0, 0), zLay, K1, B1, M1) (fun v' S2 => ∃ (K2 : Nat → Nat → Option Nat) (B2 : Nat → Nat → Int64) (M2 : Nat → Nat → Int32), v' = some (.int x) ∧ S2 = (X, (0, 0), zLay, K2, B2, M2) ∧ zInv K2 B2 M2) := by
      refine ⟨-1, K, B, M, rfl, rfl, ?_⟩
      exact zb_Model_way_0 (d := d + 197) hK _ _ _ (fun g0 => ⟨K, B, M, rfl, rfl, hI⟩) (fun g0 g1 => ⟨K, B, M, rfl, rfl, hI⟩) (fun g0 g1 g2 => ⟨K, B, M, rfl, rfl, hI⟩) (fun g0 g1 g2 g3 => ⟨K, B, M, rfl, rfl, hI⟩) (fun g0 g1 g2 g3 g4 => (by exfalso; clear hI h hSw hK; simp only [zlt, zle, zeq, zl0, zlm, zl1, zl8, zl9, zl10, zl15, zl20, zl30, zl59, zl60, t0, u0, v0, t1, u1, v1, t2, u2, v2, t4, u4, v4, t5, u5, v5, t6, u6, v6] at *; omega)) (fun g0 g1 g2 g3 g4 => (by exfalso; clear hI h hSw hK; simp only [zlt, zle, zeq, zl0, zlm, zl1, zl8, zl9, zl10, zl15, zl20, zl30, zl59, zl60, t0, u0, v0, t1, u1, v1, t2, u2, v2, t4, u4, v4, t5, u5, v5, t6, u6, v6] at *; omega)) (fun g0 g1 g2 g3 g4 => (by exfalso; clear hI h hSw hK; simp only [zlt, zle, zeq, zl0, zlm, zl1, zl8, zl9, zl10, zl15, zl20, zl30, zl59, zl60, t0, u0, v0, t1, u1, v1, t2, u2, v2, t4, u4, v4, t5, u5, v5, t6, u6, v6] at *; omega)) (fun g0 g1 g2 g3 g4 => (by exfalso; clear hI h hSw hK; simp only [zlt, zle, zeq, zl0, zlm, zl1, zl8, zl9, zl10, zl15, zl20, zl30, zl59, zl60, t0, u0, v0, t1, u1, v1, t2, u2, v2, t4, u4, v4, t5, u5, v5, t6, u6, v6] at *; omega)) (fun g0 g1 g2 g3 g4 => ⟨K, B, M, rfl, rfl, hI⟩)
    exact zb_Boats_way_0 (d := d + 198) hK _ _ _ (fun g0 => hno) (fun g0 g1 => hno) (fun g0 g1 g2 => hno) (fun g0 g1 g2 g3 => hno) (fun g0 g1 g2 g3 g4 => hno) (fun g0 g1 g2 g3 g4 g5 => (by exfalso; clear hI h hSw hK; simp only [zlt, zle, zeq, zl0, zlm, zl1, zl8, zl9, zl10, zl15, zl20, zl30, zl59, zl60, t0, u0, v0, t1, u1, v1, t2, u2, v2, t4, u4, v4, t5, u5, v5, t6, u6, v6] at *; omega)) (fun g0 g1 g2 g3 g4 g5 => (by exfalso; clear hI h hSw hK; simp only [zlt, zle, zeq, zl0, zlm, zl1, zl8, zl9, zl10, zl15, zl20, zl30, zl59, zl60, t0, u0, v0, t1, u1, v1, t2, u2, v2, t4, u4, v4, t5, u5, v5, t6, u6, v6] at *; omega)) (fun g0 g1 g2 g3 g4 g5 => (by exfalso; clear hI h hSw hK; simp only [zlt, zle, zeq, zl0, zlm, zl1, zl8, zl9, zl10, zl15, zl20, zl30, zl59, zl60, t0, u0, v0, t1, u1, v1, t2, u2, v2, t4, u4, v4, t5, u5, v5, t6, u6, v6] at *; omega)) (fun g0 g1 g2 g3 g4 g5 => (by exfalso; clear hI h hSw hK; simp only [zlt, zle, zeq, zl0, zlm, zl1, zl8, zl9, zl10, zl15, zl20, zl30, zl59, zl60, t0, u0, v0, t1, u1, v1, t2, u2, v2, t4, u4, v4, t5, u5, v5, t6, u6, v6] at *; omega)) (fun g0 g1 g2 g3 g4 g5 => hno)
/-! ===== shut ===== -/
theorem zop_shut (X : zX) (a0 a1 a2 : Int32) : zOp zInv X zm_Boats_shut zm_Model_shut [.int a0, .int a1, .int a2] := by
  intro d K B M hI
  obtain ⟨hK, hSw, n, n', h⟩ := id hI
  obtain ⟨⟨⟨c0, c1, c2, c3, c4, c5, c6, c7⟩, b0, b1, b2, b3, b4, b5, b6, b7⟩, -, -, ⟨q0, q1, q2, q3, q4, q5, q6, q7⟩, -⟩ := id h
  have e1 : M 1 9 = nI (n 2) := q2.trans c2
  have t0 : (M 1 1).toInt = n 0 := by rw [q0.trans c0, znI (by omega)]
  have u0 : (M 72 0).toInt = n 0 := by rw [c0, znI (by omega)]
  have v0 : (M 72 0 - 1).toInt = (n 0 : Int) - 1 := by rw [c0, zsub1 (by omega)]
  have t1 : (M 1 5).toInt = n 1 := by rw [q1.trans c1, znI (by omega)]
  have u1 : (M 72 1).toInt = n 1 := by rw [c1, znI (by omega)]
  have v1 : (M 72 1 - 1).toInt = (n 1 : Int) - 1 := by rw [c1, zsub1 (by omega)]
  have t2 : (M 1 9).toInt = n 2 := by rw [q2.trans c2, znI (by omega)]
  have u2 : (M 72 2).toInt = n 2 := by rw [c2, znI (by omega)]
  have v2 : (M 72 2 - 1).toInt = (n 2 : Int) - 1 := by rw [c2, zsub1 (by omega)]
  have t4 : (M 13 0).toInt = n 4 := by rw [q4.trans c4, znI (by omega)]
  have u4 : (M 72 4).toInt = n 4 := by rw [c4, znI (by omega)]
  have v4 : (M 72 4 - 1).toInt = (n 4 : Int) - 1 := by rw [c4, zsub1 (by omega)]
  have t5 : (M 13 5).toInt = n 5 := by rw [q5.trans c5, znI (by omega)]
  have u5 : (M 72 5).toInt = n 5 := by rw [c5, znI (by omega)]
  have v5 : (M 72 5 - 1).toInt = (n 5 : Int) - 1 := by rw [c5, zsub1 (by omega)]
  have t6 : (M 13 10).toInt = n 6 := by rw [q6.trans c6, znI (by omega)]
  have u6 : (M 72 6).toInt = n 6 := by rw [c6, znI (by omega)]
  have v6 : (M 72 6 - 1).toInt = (n 6 : Int) - 1 := by rw [c6, zsub1 (by omega)]
  by_cases hv : 0 ≤ a0.toInt ∧ a0.toInt < n 1 ∧ 0 ≤ a1.toInt ∧ a1.toInt ≤ a2.toInt ∧ a2.toInt < 60 ∧ n 2 < 10
  · have hcl : (M 1 9).toNatClampNeg = n 2 := by rw [e1, nI_clamp (by omega)]
    refine zb_Boats_shut_0 (d := d + 197) hK _ _ _ (fun g0 => (by exfalso; clear hI h hSw hK; simp only [zlt, zle, zeq, zl0, zlm, zl1, zl8, zl9, zl10, zl15, zl20, zl30, zl59, zl60, t0, u0, v0, t1, u1, v1, t2, u2, v2, t4, u4, v4, t5, u5, v5, t6, u6, v6] at *; omega)) (fun g0 g1 => (by exfalso; clear hI h hSw hK; simp only [zlt, zle, zeq, zl0, zlm, zl1, zl8, zl9, zl10, zl15, zl20, zl30, zl59, zl60, t0, u0, v0, t1, u1, v1, t2, u2, v2, t4, u4, v4, t5, u5, v5, t6, u6, v6] at *; omega)) (fun g0 g1 g2 => (by exfalso; clear hI h hSw hK; simp only [zlt, zle, zeq, zl0, zlm, zl1, zl8, zl9, zl10, zl15, zl20, zl30, zl59, zl60, t0, u0, v0, t1, u1, v1, t2, u2, v2, t4, u4, v4, t5, u5, v5, t6, u6, v6] at *; omega)) (fun g0 g1 g2 g3 => by rw [e1]; exact vp_in_nI (by omega) (by omega)) (fun g0 g1 g2 g3 => by rw [e1]; exact vp_in_nI (by omega) (by omega)) (fun g0 g1 g2 g3 => by rw [e1]; exact vp_in_nI (by omega) (by omega)) (fun g0 g1 g2 g3 => ?_) (fun g0 g1 g2 g3 => (by exfalso; clear hI h hSw hK; simp only [zlt, zle, zeq, zl0, zlm, zl1, zl8, zl9, zl10, zl15, zl20, zl30, zl59, zl60, t0, u0, v0, t1, u1, v1, t2, u2, v2, t4, u4, v4, t5, u5, v5, t6, u6, v6] at *; omega))
    rw [hcl]
    generalize hM1 : (zu (zu (zu (zu (zu M 6 (n 2) a0) 7 (n 2) a1) 8 (n 2) a2) 1 11 1) 1 9 (M 1 9 + 1)) = M1
    have e72 : M1 72 = M 72 := by rw [← hM1]; rfl
    have f6 : ∀ i, M1 6 i = if i = n 2 then a0 else M 6 i := fun i => by rw [← hM1]; exact zu_at M 6 (n 2) i a0
    have f7 : ∀ i, M1 7 i = if i = n 2 then a1 else M 7 i := fun i => by rw [← hM1]; exact zu_at _ 7 (n 2) i a1
    have f8 : ∀ i, M1 8 i = if i = n 2 then a2 else M 8 i := fun i => by rw [← hM1]; exact zu_at _ 8 (n 2) i a2
    have fc : ∀ i, M1 1 i = if i = 9 then nI (n 2 + 1) else if i = 11 then 1 else M 1 i := by
      intro i
      rw [← hM1, zu_at, e1, nI_1, zu_at]
      rfl
    have fo : ∀ c, c ≠ 6 → c ≠ 7 → c ≠ 8 → c ≠ 1 → M1 c = M c := by
      intro c x6 x7 x8 x1
      rw [← hM1]
      simp [zu, x6, x7, x8, x1]
    have c1k : M1 72 2 = nI (n 2) := by rw [e72]; exact c2
    refine ⟨_, K, B, M1, rfl, rfl, ?_⟩
    have hb2 : (70 + 3 * M1 72 2) = nI (70 + 3 * n 2) := by rw [c1k, show (70 : Int32) = nI 70 from rfl, show (3 : Int32) = nI 3 from rfl, pk_mul, nI_add]
    have hb2_1 : (70 + 3 * M1 72 2) + 1 = nI (71 + 3 * n 2) := by rw [hb2, show (1 : Int32) = nI 1 from rfl, nI_add]; congr 1; omega
    have hb2_2 : (70 + 3 * M1 72 2) + 2 = nI (72 + 3 * n 2) := by rw [hb2, show (2 : Int32) = nI 2 from rfl, nI_add]; congr 1; omega
    refine zb_Model_shut_0 (d := d + 197) hK _ _ _ (fun g0 => ?_) (fun g0 g1 => ?_) (fun g0 g1 g2 => ?_) (fun g0 g1 g2 g3 => by rw [hb2]; exact vp_in_nI (by omega) (by omega)) (fun g0 g1 g2 g3 => by rw [hb2_1]; exact vp_in_nI (by omega) (by omega)) (fun g0 g1 g2 g3 => by rw [hb2_2]; exact vp_in_nI (by omega) (by omega)) (fun g0 g1 g2 g3 => ?_) (fun g0 g1 g2 g3 => ?_)
    · exfalso; clear hM1 fo fc hI h hSw hK; simp only [e72] at *; simp only [zlt, zle, zeq, zl0, zlm, zl1, zl8, zl9, zl10, zl15, zl20, zl30, zl59, zl60, t0, u0, v0, t1, u1, v1, t2, u2, v2, t4, u4, v4, t5, u5, v5, t6, u6, v6] at *; omega
    · exfalso; clear hM1 fo fc hI h hSw hK; simp only [e72] at *; simp only [zlt, zle, zeq, zl0, zlm, zl1, zl8, zl9, zl10, zl15, zl20, zl30, zl59, zl60, t0, u0, v0, t1, u1, v1, t2, u2, v2, t4, u4, v4, t5, u5, v5, t6, u6, v6] at *; omega
    · exfalso; clear hM1 fo fc hI h hSw hK; simp only [e72] at *; simp only [zlt, zle, zeq, zl0, zlm, zl1, zl8, zl9, zl10, zl15, zl20, zl30, zl59, zl60, t0, u0, v0, t1, u1, v1, t2, u2, v2, t4, u4, v4, t5, u5, v5, t6, u6, v6] at *; omega
    · generalize hM2 : (zu (zu (zu (zu M1 72 (70 + 3 * M1 72 2).toNatClampNeg a0) 72 ((70 + 3 * M1 72 2) + 1).toNatClampNeg a1) 72 ((70 + 3 * M1 72 2) + 2).toNatClampNeg a2) 72 2 ((zu (zu (zu M1 72 (70 + 3 * M1 72 2).toNatClampNeg a0) 72 ((70 + 3 * M1 72 2) + 1).toNatClampNeg a1) 72 ((70 + 3 * M1 72 2) + 2).toNatClampNeg a2) 72 2 + 1)) = M2
      have f72 : ∀ j, M2 72 j = if j = 2 then nI (n 2 + 1) else if j = 72 + 3 * n 2 then a2 else if j = 71 + 3 * n 2 then a1 else if j = 70 + 3 * n 2 then a0 else M 72 j := by
        intro j
        rw [← hM2]
        rw [hb2_2, hb2_1, hb2]
        rw [nI_clamp (n := 70 + 3 * n 2) (by omega), nI_clamp (n := 71 + 3 * n 2) (by omega), nI_clamp (n := 72 + 3 * n 2) (by omega)]
        simp only [zu_at]
        rw [if_neg (show ¬ 2 = 72 + 3 * n 2 by omega), if_neg (show ¬ 2 = 71 + 3 * n 2 by omega), if_neg (show ¬ 2 = 70 + 3 * n 2 by omega), c1k, e72, nI_1]
      have fo2 : ∀ c, c ≠ 72 → M2 c = M1 c := by
        intro c x72
        rw [← hM2]
        simp [zu, x72]
      refine ⟨K, B, M2, ?_, rfl, hK, hSw, fun k => if k = 2 then n 2 + 1 else n k, n', ?_⟩
      · have e0 : M2 72 2 = nI (n 2 + 1) := by rw [f72, if_pos rfl]
        have e3 : (zu (zu (zu M1 72 (70 + 3 * M1 72 2).toNatClampNeg a0) 72 ((70 + 3 * M1 72 2) + 1).toNatClampNeg a1) 72 ((70 + 3 * M1 72 2) + 2).toNatClampNeg a2) 72 2 + 1 = M2 72 2 := by rw [← hM2, zu_yes]
        rw [e3, e0, e1, nI_1]
      · refine zIn_add h ⟨fun i _ => ?_, fun i _ => ?_, fun i _ => ?_, fun i _ => ?_, fun i _ => ?_⟩ (fun j hj => ?_) (fun j hj _ => ?_) ?_ ?_ ?_ (fun i hi hi2 => ?_) (fun i hi hi2 => ?_) (fun i hi hi2 => ?_) (fun i hi hi2 => ?_) (fun i hi hi2 => ?_) (fun c hc hc2 => by rw [fo2 c hc2, fo c (by omega) (by omega) (by omega) (by omega)]) ?_
        · rw [fo2 2 (by decide), fo 2 (by decide) (by decide) (by decide) (by decide)]
        · rw [fo2 3 (by decide), fo 3 (by decide) (by decide) (by decide) (by decide), fo2 4 (by decide), fo 4 (by decide) (by decide) (by decide) (by decide), fo2 5 (by decide), fo 5 (by decide) (by decide) (by decide) (by decide)]; exact ⟨rfl, rfl, rfl⟩
        · rename_i hi; rw [fo2 6 (by decide), f6, if_neg (by omega), fo2 7 (by decide), f7, if_neg (by omega), fo2 8 (by decide), f8, if_neg (by omega)]; exact ⟨rfl, rfl, rfl⟩
        · rw [fo2 14 (by decide), fo 14 (by decide) (by decide) (by decide) (by decide), fo2 15 (by decide), fo 15 (by decide) (by decide) (by decide) (by decide), fo2 16 (by decide), fo 16 (by decide) (by decide) (by decide) (by decide), fo2 17 (by decide), fo 17 (by decide) (by decide) (by decide) (by decide)]; exact ⟨rfl, rfl, rfl, rfl⟩
        · rw [fo2 18 (by decide), fo 18 (by decide) (by decide) (by decide) (by decide), fo2 19 (by decide), fo 19 (by decide) (by decide) (by decide) (by decide), fo2 20 (by decide), fo 20 (by decide) (by decide) (by decide) (by decide), fo2 21 (by decide), fo 21 (by decide) (by decide) (by decide) (by decide)]; exact ⟨rfl, rfl, rfl, rfl⟩
        · unfold zUsed at hj
          rw [f72, if_neg (by omega), if_neg (by omega), if_neg (by omega), if_neg (by omega)]
        · rw [f72, if_neg (by omega), if_neg (by omega), if_neg (by omega), if_neg (by omega)]
        · simp only [zCs, f72]
          refine ⟨⟨by rw [if_neg (by omega), if_neg (by omega), if_neg (by omega), if_neg (by omega)]; exact c0, by rw [if_neg (by omega), if_neg (by omega), if_neg (by omega), if_neg (by omega)]; exact c1, by simp, by rw [if_neg (by omega), if_neg (by omega), if_neg (by omega), if_neg (by omega)]; exact c3, by rw [if_neg (by omega), if_neg (by omega), if_neg (by omega), if_neg (by omega)]; exact c4, by rw [if_neg (by omega), if_neg (by omega), if_neg (by omega), if_neg (by omega)]; exact c5, by rw [if_neg (by omega), if_neg (by omega), if_neg (by omega), if_neg (by omega)]; exact c6, by rw [if_neg (by omega), if_neg (by omega), if_neg (by omega), if_neg (by omega)]; exact c7⟩, ?_⟩
          simp
          omega
        · exact ⟨by rw [fo2 1 (by decide), fc, f72, if_neg (by decide), if_neg (by decide), if_neg (by omega), if_neg (by omega), if_neg (by omega), if_neg (by omega)]; exact q0, by rw [fo2 1 (by decide), fc, f72, if_neg (by decide), if_neg (by decide), if_neg (by omega), if_neg (by omega), if_neg (by omega), if_neg (by omega)]; exact q1, by rw [fo2 1 (by decide), fc, f72, if_pos rfl, if_pos rfl], by rw [fo2 1 (by decide), fc, f72, if_neg (by decide), if_neg (by decide), if_neg (by omega), if_neg (by omega), if_neg (by omega), if_neg (by omega)]; exact q3, by rw [fo2 13 (by decide), fo 13 (by decide) (by decide) (by decide) (by decide), f72, if_neg (by omega), if_neg (by omega), if_neg (by omega), if_neg (by omega)]; exact q4, by rw [fo2 13 (by decide), fo 13 (by decide) (by decide) (by decide) (by decide), f72, if_neg (by omega), if_neg (by omega), if_neg (by omega), if_neg (by omega)]; exact q5, by rw [fo2 13 (by decide), fo 13 (by decide) (by decide) (by decide) (by decide), f72, if_neg (by omega), if_neg (by omega), if_neg (by omega), if_neg (by omega)]; exact q6, by rw [fo2 0 (by decide), fo 0 (by decide) (by decide) (by decide) (by decide), f72, if_neg (by omega), if_neg (by omega), if_neg (by omega), if_neg (by omega)]; exact q7⟩
        · simp
        · simp at hi2; omega
        · simp at hi2; omega
        · have hi3 : i = n 2 := by simp at hi2; omega
          subst hi3
          unfold zRs
          rw [fo2 6 (by decide), f6, if_pos rfl, fo2 7 (by decide), f7, if_pos rfl, fo2 8 (by decide), f8, if_pos rfl]
          rw [f72 (70 + 3 * n 2), if_neg (by omega), if_neg (by omega), if_neg (by omega), if_pos rfl, f72 (71 + 3 * n 2), if_neg (by omega), if_neg (by omega), if_pos rfl, f72 (72 + 3 * n 2), if_neg (by omega), if_pos rfl]
          obtain ⟨p, hp, ep⟩ := znat (x := a0) (n := n 1) (by omega) (by omega) (by omega); obtain ⟨q, hq, eq⟩ := znat (x := a1) (n := 60) (by omega) (by omega) (by decide); obtain ⟨m, hm, em⟩ := znat (x := a2) (n := 60) (by omega) (by omega) (by decide); refine ⟨rfl, rfl, rfl, p, q, m, by simpa using hp, ?_, hm, ep, eq, em⟩; have := hv.2.2.2.1; rw [eq, em, znI (by omega), znI (by omega)] at this; omega
        · simp at hi2; omega
        · simp at hi2; omega
        · exact Or.inl (by rw [fo2 1 (by decide), fc]; rfl)
    · exfalso; clear hM1 fo fc hI h hSw hK; simp only [e72] at *; simp only [zlt, zle, zeq, zl0, zlm, zl1, zl8, zl9, zl10, zl15, zl20, zl30, zl59, zl60, t0, u0, v0, t1, u1, v1, t2, u2, v2, t4, u4, v4, t5, u5, v5, t6, u6, v6] at *; omega
  · have hno : ∃ (x : Int32) (K1 : Nat → Nat → Option Nat) (B1 : Nat → Nat → Int64) (M1 : Nat → Nat → Int32), (some (Value.int (-1)) : Option Value) = some (.int x) ∧ ((X, (0, 0), zLay, K, B, M) : zS) = (X, (0, 0), zLay, K1, B1, M1) ∧ zCall (d + 200) zm_Model_shut (.ref 71 :: [.int a0, .int a1, .int a2]) (X, (0, 0), zLay, K1, B1, M1) (fun v' S2 => ∃ (K2 : Nat → Nat → Option Nat) (B2 : Nat → Nat → Int64) (M2 : Nat → Nat → Int32), v' = some (.int x) ∧ S2 = (X, (0, 0), zLay, K2, B2, M2) ∧ zInv K2 B2 M2) := by
      refine ⟨-1, K, B, M, rfl, rfl, ?_⟩
      exact zb_Model_shut_0 (d := d + 197) hK _ _ _ (fun g0 => ⟨K, B, M, rfl, rfl, hI⟩) (fun g0 g1 => ⟨K, B, M, rfl, rfl, hI⟩) (fun g0 g1 g2 => ⟨K, B, M, rfl, rfl, hI⟩) (fun g0 g1 g2 g3 => (by exfalso; clear hI h hSw hK; simp only [zlt, zle, zeq, zl0, zlm, zl1, zl8, zl9, zl10, zl15, zl20, zl30, zl59, zl60, t0, u0, v0, t1, u1, v1, t2, u2, v2, t4, u4, v4, t5, u5, v5, t6, u6, v6] at *; omega)) (fun g0 g1 g2 g3 => (by exfalso; clear hI h hSw hK; simp only [zlt, zle, zeq, zl0, zlm, zl1, zl8, zl9, zl10, zl15, zl20, zl30, zl59, zl60, t0, u0, v0, t1, u1, v1, t2, u2, v2, t4, u4, v4, t5, u5, v5, t6, u6, v6] at *; omega)) (fun g0 g1 g2 g3 => (by exfalso; clear hI h hSw hK; simp only [zlt, zle, zeq, zl0, zlm, zl1, zl8, zl9, zl10, zl15, zl20, zl30, zl59, zl60, t0, u0, v0, t1, u1, v1, t2, u2, v2, t4, u4, v4, t5, u5, v5, t6, u6, v6] at *; omega)) (fun g0 g1 g2 g3 => (by exfalso; clear hI h hSw hK; simp only [zlt, zle, zeq, zl0, zlm, zl1, zl8, zl9, zl10, zl15, zl20, zl30, zl59, zl60, t0, u0, v0, t1, u1, v1, t2, u2, v2, t4, u4, v4, t5, u5, v5, t6, u6, v6] at *; omega)) (fun g0 g1 g2 g3 => ⟨K, B, M, rfl, rfl, hI⟩)
    exact zb_Boats_shut_0 (d := d + 197) hK _ _ _ (fun g0 => hno) (fun g0 g1 => hno) (fun g0 g1 g2 => hno) (fun g0 g1 g2 g3 => (by exfalso; clear hI h hSw hK; simp only [zlt, zle, zeq, zl0, zlm, zl1, zl8, zl9, zl10, zl15, zl20, zl30, zl59, zl60, t0, u0, v0, t1, u1, v1, t2, u2, v2, t4, u4, v4, t5, u5, v5, t6, u6, v6] at *; omega)) (fun g0 g1 g2 g3 => (by exfalso; clear hI h hSw hK; simp only [zlt, zle, zeq, zl0, zlm, zl1, zl8, zl9, zl10, zl15, zl20, zl30, zl59, zl60, t0, u0, v0, t1, u1, v1, t2, u2, v2, t4, u4, v4, t5, u5, v5, t6, u6, v6] at *; omega)) (fun g0 g1 g2 g3 => (by exfalso; clear hI h hSw hK; simp only [zlt, zle, zeq, zl0, zlm, zl1, zl8, zl9, zl10, zl15, zl20, zl30, zl59, zl60, t0, u0, v0, t1, u1, v1, t2, u2, v2, t4, u4, v4, t5, u5, v5, t6, u6, v6] at *; omega)) (fun g0 g1 g2 g3 => (by exfalso; clear hI h hSw hK; simp only [zlt, zle, zeq, zl0, zlm, zl1, zl8, zl9, zl10, zl15, zl20, zl30, zl59, zl60, t0, u0, v0, t1, u1, v1, t2, u2, v2, t4, u4, v4, t5, u5, v5, t6, u6, v6] at *; omega)) (fun g0 g1 g2 g3 => hno)
/-! ===== seen ===== -/
theorem zop_seen (X : zX) (a0 a1 a2 a3 : Int32) : zOp zInv X zm_Boats_seen zm_Model_seen [.int a0, .int a1, .int a2, .int a3] := by
  intro d K B M hI
  obtain ⟨hK, hSw, n, n', h⟩ := id hI
  obtain ⟨⟨⟨c0, c1, c2, c3, c4, c5, c6, c7⟩, b0, b1, b2, b3, b4, b5, b6, b7⟩, -, -, ⟨q0, q1, q2, q3, q4, q5, q6, q7⟩, -⟩ := id h
  have e1 : M 13 5 = nI (n 5) := q5.trans c5
  have t0 : (M 1 1).toInt = n 0 := by rw [q0.trans c0, znI (by omega)]
  have u0 : (M 72 0).toInt = n 0 := by rw [c0, znI (by omega)]
  have v0 : (M 72 0 - 1).toInt = (n 0 : Int) - 1 := by rw [c0, zsub1 (by omega)]
  have t1 : (M 1 5).toInt = n 1 := by rw [q1.trans c1, znI (by omega)]
  have u1 : (M 72 1).toInt = n 1 := by rw [c1, znI (by omega)]
  have v1 : (M 72 1 - 1).toInt = (n 1 : Int) - 1 := by rw [c1, zsub1 (by omega)]
  have t2 : (M 1 9).toInt = n 2 := by rw [q2.trans c2, znI (by omega)]
  have u2 : (M 72 2).toInt = n 2 := by rw [c2, znI (by omega)]
  have v2 : (M 72 2 - 1).toInt = (n 2 : Int) - 1 := by rw [c2, zsub1 (by omega)]
  have t4 : (M 13 0).toInt = n 4 := by rw [q4.trans c4, znI (by omega)]
  have u4 : (M 72 4).toInt = n 4 := by rw [c4, znI (by omega)]
  have v4 : (M 72 4 - 1).toInt = (n 4 : Int) - 1 := by rw [c4, zsub1 (by omega)]
  have t5 : (M 13 5).toInt = n 5 := by rw [q5.trans c5, znI (by omega)]
  have u5 : (M 72 5).toInt = n 5 := by rw [c5, znI (by omega)]
  have v5 : (M 72 5 - 1).toInt = (n 5 : Int) - 1 := by rw [c5, zsub1 (by omega)]
  have t6 : (M 13 10).toInt = n 6 := by rw [q6.trans c6, znI (by omega)]
  have u6 : (M 72 6).toInt = n 6 := by rw [c6, znI (by omega)]
  have v6 : (M 72 6 - 1).toInt = (n 6 : Int) - 1 := by rw [c6, zsub1 (by omega)]
  by_cases hv : 0 ≤ a0.toInt ∧ a0.toInt < n 4 ∧ 0 ≤ a1.toInt ∧ a1.toInt < n 0 ∧ 0 ≤ a2.toInt ∧ a2.toInt ≤ a3.toInt ∧ a3.toInt < 60 ∧ n 5 < 60
  · have hcl : (M 13 5).toNatClampNeg = n 5 := by rw [e1, nI_clamp (by omega)]
    refine zb_Boats_seen_0 (d := d + 197) hK _ _ _ _ (fun g0 => (by exfalso; clear hI h hSw hK; simp only [zlt, zle, zeq, zl0, zlm, zl1, zl8, zl9, zl10, zl15, zl20, zl30, zl59, zl60, t0, u0, v0, t1, u1, v1, t2, u2, v2, t4, u4, v4, t5, u5, v5, t6, u6, v6] at *; omega)) (fun g0 g1 => (by exfalso; clear hI h hSw hK; simp only [zlt, zle, zeq, zl0, zlm, zl1, zl8, zl9, zl10, zl15, zl20, zl30, zl59, zl60, t0, u0, v0, t1, u1, v1, t2, u2, v2, t4, u4, v4, t5, u5, v5, t6, u6, v6] at *; omega)) (fun g0 g1 g2 => (by exfalso; clear hI h hSw hK; simp only [zlt, zle, zeq, zl0, zlm, zl1, zl8, zl9, zl10, zl15, zl20, zl30, zl59, zl60, t0, u0, v0, t1, u1, v1, t2, u2, v2, t4, u4, v4, t5, u5, v5, t6, u6, v6] at *; omega)) (fun g0 g1 g2 g3 => by rw [e1]; exact vp_in_nI (by omega) (by omega)) (fun g0 g1 g2 g3 => by rw [e1]; exact vp_in_nI (by omega) (by omega)) (fun g0 g1 g2 g3 => by rw [e1]; exact vp_in_nI (by omega) (by omega)) (fun g0 g1 g2 g3 => by rw [e1]; exact vp_in_nI (by omega) (by omega)) (fun g0 g1 g2 g3 => ?_) (fun g0 g1 g2 g3 => (by exfalso; clear hI h hSw hK; simp only [zlt, zle, zeq, zl0, zlm, zl1, zl8, zl9, zl10, zl15, zl20, zl30, zl59, zl60, t0, u0, v0, t1, u1, v1, t2, u2, v2, t4, u4, v4, t5, u5, v5, t6, u6, v6] at *; omega))
    rw [hcl]
    generalize hM1 : (zu (zu (zu (zu (zu M 14 (n 5) a0) 15 (n 5) a1) 16 (n 5) a2) 17 (n 5) a3) 13 5 (M 13 5 + 1)) = M1
    have e72 : M1 72 = M 72 := by rw [← hM1]; rfl
    have f14 : ∀ i, M1 14 i = if i = n 5 then a0 else M 14 i := fun i => by rw [← hM1]; exact zu_at M 14 (n 5) i a0
    have f15 : ∀ i, M1 15 i = if i = n 5 then a1 else M 15 i := fun i => by rw [← hM1]; exact zu_at _ 15 (n 5) i a1
    have f16 : ∀ i, M1 16 i = if i = n 5 then a2 else M 16 i := fun i => by rw [← hM1]; exact zu_at _ 16 (n 5) i a2
    have f17 : ∀ i, M1 17 i = if i = n 5 then a3 else M 17 i := fun i => by rw [← hM1]; exact zu_at _ 17 (n 5) i a3
    have fc : ∀ i, M1 13 i = if i = 5 then nI (n 5 + 1) else M 13 i := by
      intro i
      rw [← hM1, zu_at, e1, nI_1]
      rfl
    have fo : ∀ c, c ≠ 14 → c ≠ 15 → c ≠ 16 → c ≠ 17 → c ≠ 13 → M1 c = M c := by
      intro c x14 x15 x16 x17 x13
      rw [← hM1]
      simp [zu, x14, x15, x16, x17, x13]
    have c1k : M1 72 5 = nI (n 5) := by rw [e72]; exact c5
    refine ⟨_, K, B, M1, rfl, rfl, ?_⟩
    have hb5 : (100 + 4 * M1 72 5) = nI (100 + 4 * n 5) := by rw [c1k, show (100 : Int32) = nI 100 from rfl, show (4 : Int32) = nI 4 from rfl, pk_mul, nI_add]
    have hb5_1 : (100 + 4 * M1 72 5) + 1 = nI (101 + 4 * n 5) := by rw [hb5, show (1 : Int32) = nI 1 from rfl, nI_add]; congr 1; omega
    have hb5_2 : (100 + 4 * M1 72 5) + 2 = nI (102 + 4 * n 5) := by rw [hb5, show (2 : Int32) = nI 2 from rfl, nI_add]; congr 1; omega
    have hb5_3 : (100 + 4 * M1 72 5) + 3 = nI (103 + 4 * n 5) := by rw [hb5, show (3 : Int32) = nI 3 from rfl, nI_add]; congr 1; omega
    refine zb_Model_seen_0 (d := d + 197) hK _ _ _ _ (fun g0 => ?_) (fun g0 g1 => ?_) (fun g0 g1 g2 => ?_) (fun g0 g1 g2 g3 => ?_) (fun g0 g1 g2 g3 g4 => by rw [hb5]; exact vp_in_nI (by omega) (by omega)) (fun g0 g1 g2 g3 g4 => by rw [hb5_1]; exact vp_in_nI (by omega) (by omega)) (fun g0 g1 g2 g3 g4 => by rw [hb5_2]; exact vp_in_nI (by omega) (by omega)) (fun g0 g1 g2 g3 g4 => by rw [hb5_3]; exact vp_in_nI (by omega) (by omega)) (fun g0 g1 g2 g3 g4 => ?_) (fun g0 g1 g2 g3 g4 => ?_)
    · exfalso; clear hM1 fo fc hI h hSw hK; simp only [e72] at *; simp only [zlt, zle, zeq, zl0, zlm, zl1, zl8, zl9, zl10, zl15, zl20, zl30, zl59, zl60, t0, u0, v0, t1, u1, v1, t2, u2, v2, t4, u4, v4, t5, u5, v5, t6, u6, v6] at *; omega
    · exfalso; clear hM1 fo fc hI h hSw hK; simp only [e72] at *; simp only [zlt, zle, zeq, zl0, zlm, zl1, zl8, zl9, zl10, zl15, zl20, zl30, zl59, zl60, t0, u0, v0, t1, u1, v1, t2, u2, v2, t4, u4, v4, t5, u5, v5, t6, u6, v6] at *; omega
    · exfalso; clear hM1 fo fc hI h hSw hK; simp only [e72] at *; simp only [zlt, zle, zeq, zl0, zlm, zl1, zl8, zl9, zl10, zl15, zl20, zl30, zl59, zl60, t0, u0, v0, t1, u1, v1, t2, u2, v2, t4, u4, v4, t5, u5, v5, t6, u6, v6] at *; omega
    · exfalso; clear hM1 fo fc hI h hSw hK; simp only [e72] at *; simp only [zlt, zle, zeq, zl0, zlm, zl1, zl8, zl9, zl10, zl15, zl20, zl30, zl59, zl60, t0, u0, v0, t1, u1, v1, t2, u2, v2, t4, u4, v4, t5, u5, v5, t6, u6, v6] at *; omega
    · generalize hM2 : (zu (zu (zu (zu (zu M1 72 (100 + 4 * M1 72 5).toNatClampNeg a0) 72 ((100 + 4 * M1 72 5) + 1).toNatClampNeg a1) 72 ((100 + 4 * M1 72 5) + 2).toNatClampNeg a2) 72 ((100 + 4 * M1 72 5) + 3).toNatClampNeg a3) 72 5 ((zu (zu (zu (zu M1 72 (100 + 4 * M1 72 5).toNatClampNeg a0) 72 ((100 + 4 * M1 72 5) + 1).toNatClampNeg a1) 72 ((100 + 4 * M1 72 5) + 2).toNatClampNeg a2) 72 ((100 + 4 * M1 72 5) + 3).toNatClampNeg a3) 72 5 + 1)) = M2
      have f72 : ∀ j, M2 72 j = if j = 5 then nI (n 5 + 1) else if j = 103 + 4 * n 5 then a3 else if j = 102 + 4 * n 5 then a2 else if j = 101 + 4 * n 5 then a1 else if j = 100 + 4 * n 5 then a0 else M 72 j := by
        intro j
        rw [← hM2]
        rw [hb5_3, hb5_2, hb5_1, hb5]
        rw [nI_clamp (n := 100 + 4 * n 5) (by omega), nI_clamp (n := 101 + 4 * n 5) (by omega), nI_clamp (n := 102 + 4 * n 5) (by omega), nI_clamp (n := 103 + 4 * n 5) (by omega)]
        simp only [zu_at]
        rw [if_neg (show ¬ 5 = 103 + 4 * n 5 by omega), if_neg (show ¬ 5 = 102 + 4 * n 5 by omega), if_neg (show ¬ 5 = 101 + 4 * n 5 by omega), if_neg (show ¬ 5 = 100 + 4 * n 5 by omega), c1k, e72, nI_1]
      have fo2 : ∀ c, c ≠ 72 → M2 c = M1 c := by
        intro c x72
        rw [← hM2]
        simp [zu, x72]
      refine ⟨K, B, M2, ?_, rfl, hK, hSw, fun k => if k = 5 then n 5 + 1 else n k, n', ?_⟩
      · have e0 : M2 72 5 = nI (n 5 + 1) := by rw [f72, if_pos rfl]
        have e3 : (zu (zu (zu (zu M1 72 (100 + 4 * M1 72 5).toNatClampNeg a0) 72 ((100 + 4 * M1 72 5) + 1).toNatClampNeg a1) 72 ((100 + 4 * M1 72 5) + 2).toNatClampNeg a2) 72 ((100 + 4 * M1 72 5) + 3).toNatClampNeg a3) 72 5 + 1 = M2 72 5 := by rw [← hM2, zu_yes]
        rw [e3, e0, e1, nI_1]
      · refine zIn_add h ⟨fun i _ => ?_, fun i _ => ?_, fun i _ => ?_, fun i _ => ?_, fun i _ => ?_⟩ (fun j hj => ?_) (fun j hj _ => ?_) ?_ ?_ ?_ (fun i hi hi2 => ?_) (fun i hi hi2 => ?_) (fun i hi hi2 => ?_) (fun i hi hi2 => ?_) (fun i hi hi2 => ?_) (fun c hc hc2 => by rw [fo2 c hc2, fo c (by omega) (by omega) (by omega) (by omega) (by omega)]) ?_
        · rw [fo2 2 (by decide), fo 2 (by decide) (by decide) (by decide) (by decide) (by decide)]
        · rw [fo2 3 (by decide), fo 3 (by decide) (by decide) (by decide) (by decide) (by decide), fo2 4 (by decide), fo 4 (by decide) (by decide) (by decide) (by decide) (by decide), fo2 5 (by decide), fo 5 (by decide) (by decide) (by decide) (by decide) (by decide)]; exact ⟨rfl, rfl, rfl⟩
        · rw [fo2 6 (by decide), fo 6 (by decide) (by decide) (by decide) (by decide) (by decide), fo2 7 (by decide), fo 7 (by decide) (by decide) (by decide) (by decide) (by decide), fo2 8 (by decide), fo 8 (by decide) (by decide) (by decide) (by decide) (by decide)]; exact ⟨rfl, rfl, rfl⟩
        · rename_i hi; rw [fo2 14 (by decide), f14, if_neg (by omega), fo2 15 (by decide), f15, if_neg (by omega), fo2 16 (by decide), f16, if_neg (by omega), fo2 17 (by decide), f17, if_neg (by omega)]; exact ⟨rfl, rfl, rfl, rfl⟩
        · rw [fo2 18 (by decide), fo 18 (by decide) (by decide) (by decide) (by decide) (by decide), fo2 19 (by decide), fo 19 (by decide) (by decide) (by decide) (by decide) (by decide), fo2 20 (by decide), fo 20 (by decide) (by decide) (by decide) (by decide) (by decide), fo2 21 (by decide), fo 21 (by decide) (by decide) (by decide) (by decide) (by decide)]; exact ⟨rfl, rfl, rfl, rfl⟩
        · unfold zUsed at hj
          rw [f72, if_neg (by omega), if_neg (by omega), if_neg (by omega), if_neg (by omega), if_neg (by omega)]
        · rw [f72, if_neg (by omega), if_neg (by omega), if_neg (by omega), if_neg (by omega), if_neg (by omega)]
        · simp only [zCs, f72]
          refine ⟨⟨by rw [if_neg (by omega), if_neg (by omega), if_neg (by omega), if_neg (by omega), if_neg (by omega)]; exact c0, by rw [if_neg (by omega), if_neg (by omega), if_neg (by omega), if_neg (by omega), if_neg (by omega)]; exact c1, by rw [if_neg (by omega), if_neg (by omega), if_neg (by omega), if_neg (by omega), if_neg (by omega)]; exact c2, by rw [if_neg (by omega), if_neg (by omega), if_neg (by omega), if_neg (by omega), if_neg (by omega)]; exact c3, by rw [if_neg (by omega), if_neg (by omega), if_neg (by omega), if_neg (by omega), if_neg (by omega)]; exact c4, by simp, by rw [if_neg (by omega), if_neg (by omega), if_neg (by omega), if_neg (by omega), if_neg (by omega)]; exact c6, by rw [if_neg (by omega), if_neg (by omega), if_neg (by omega), if_neg (by omega), if_neg (by omega)]; exact c7⟩, ?_⟩
          simp
          omega
        · exact ⟨by rw [fo2 1 (by decide), fo 1 (by decide) (by decide) (by decide) (by decide) (by decide), f72, if_neg (by omega), if_neg (by omega), if_neg (by omega), if_neg (by omega), if_neg (by omega)]; exact q0, by rw [fo2 1 (by decide), fo 1 (by decide) (by decide) (by decide) (by decide) (by decide), f72, if_neg (by omega), if_neg (by omega), if_neg (by omega), if_neg (by omega), if_neg (by omega)]; exact q1, by rw [fo2 1 (by decide), fo 1 (by decide) (by decide) (by decide) (by decide) (by decide), f72, if_neg (by omega), if_neg (by omega), if_neg (by omega), if_neg (by omega), if_neg (by omega)]; exact q2, by rw [fo2 1 (by decide), fo 1 (by decide) (by decide) (by decide) (by decide) (by decide), f72, if_neg (by omega), if_neg (by omega), if_neg (by omega), if_neg (by omega), if_neg (by omega)]; exact q3, by rw [fo2 13 (by decide), fc, f72, if_neg (by decide), if_neg (by omega), if_neg (by omega), if_neg (by omega), if_neg (by omega), if_neg (by omega)]; exact q4, by rw [fo2 13 (by decide), fc, f72, if_pos rfl, if_pos rfl], by rw [fo2 13 (by decide), fc, f72, if_neg (by decide), if_neg (by omega), if_neg (by omega), if_neg (by omega), if_neg (by omega), if_neg (by omega)]; exact q6, by rw [fo2 0 (by decide), fo 0 (by decide) (by decide) (by decide) (by decide) (by decide), f72, if_neg (by omega), if_neg (by omega), if_neg (by omega), if_neg (by omega), if_neg (by omega)]; exact q7⟩
        · simp
        · simp at hi2; omega
        · simp at hi2; omega
        · simp at hi2; omega
        · have hi3 : i = n 5 := by simp at hi2; omega
          subst hi3
          unfold zRn
          rw [fo2 14 (by decide), f14, if_pos rfl, fo2 15 (by decide), f15, if_pos rfl, fo2 16 (by decide), f16, if_pos rfl, fo2 17 (by decide), f17, if_pos rfl]
          rw [f72 (100 + 4 * n 5), if_neg (by omega), if_neg (by omega), if_neg (by omega), if_neg (by omega), if_pos rfl, f72 (101 + 4 * n 5), if_neg (by omega), if_neg (by omega), if_neg (by omega), if_pos rfl, f72 (102 + 4 * n 5), if_neg (by omega), if_neg (by omega), if_pos rfl, f72 (103 + 4 * n 5), if_neg (by omega), if_pos rfl]
          obtain ⟨p, hp, ep⟩ := znat (x := a0) (n := n 4) (by omega) (by omega) (by omega); obtain ⟨q, hq, eq⟩ := znat (x := a1) (n := n 0) (by omega) (by omega) (by omega); obtain ⟨m, hm, em⟩ := znat (x := a2) (n := 60) (by omega) (by omega) (by decide); obtain ⟨t, ht, et⟩ := znat (x := a3) (n := 60) (by omega) (by omega) (by decide); refine ⟨rfl, rfl, rfl, rfl, p, q, m, t, by simpa using hp, by simpa using hq, ?_, ht, ep, eq, em, et⟩; have := hv.2.2.2.2.2.1; rw [em, et, znI (by omega), znI (by omega)] at this; omega
        · simp at hi2; omega
        · have ez : ∀ c, 1 ≤ c → c ≤ 12 → M2 c = M c := fun c y1 y2 => by rw [fo2 c (by omega), fo c (by omega) (by omega) (by omega) (by omega) (by omega)]
          obtain ⟨-, -, -, -, -, -, -, -, -, -, -, hT, -⟩ := h
          unfold zTab
          rw [ez 1 (by decide) (by decide)]
          exact hT.imp id (fun z => ⟨z.1, zTabOk_same ez z.2⟩)
    · exfalso; clear hM1 fo fc hI h hSw hK; simp only [e72] at *; simp only [zlt, zle, zeq, zl0, zlm, zl1, zl8, zl9, zl10, zl15, zl20, zl30, zl59, zl60, t0, u0, v0, t1, u1, v1, t2, u2, v2, t4, u4, v4, t5, u5, v5, t6, u6, v6] at *; omega
  · have hno : ∃ (x : Int32) (K1 : Nat → Nat → Option Nat) (B1 : Nat → Nat → Int64) (M1 : Nat → Nat → Int32), (some (Value.int (-1)) : Option Value) = some (.int x) ∧ ((X, (0, 0), zLay, K, B, M) : zS) = (X, (0, 0), zLay, K1, B1, M1) ∧ zCall (d + 200) zm_Model_seen (.ref 71 :: [.int a0, .int a1, .int a2, .int a3]) (X, (0, 0), zLay, K1, B1, M1) (fun v' S2 => ∃ (K2 : Nat → Nat → Option Nat) (B2 : Nat → Nat → Int64) (M2 : Nat → Nat → Int32), v' = some (.int x) ∧ S2 = (X, (0, 0), zLay, K2, B2, M2) ∧ zInv K2 B2 M2) := by
      refine ⟨-1, K, B, M, rfl, rfl, ?_⟩
      exact zb_Model_seen_0 (d := d + 197) hK _ _ _ _ (fun g0 => ⟨K, B, M, rfl, rfl, hI⟩) (fun g0 g1 => ⟨K, B, M, rfl, rfl, hI⟩) (fun g0 g1 g2 => ⟨K, B, M, rfl, rfl, hI⟩) (fun g0 g1 g2 g3 => ⟨K, B, M, rfl, rfl, hI⟩) (fun g0 g1 g2 g3 g4 => (by exfalso; clear hI h hSw hK; simp only [zlt, zle, zeq, zl0, zlm, zl1, zl8, zl9, zl10, zl15, zl20, zl30, zl59, zl60, t0, u0, v0, t1, u1, v1, t2, u2, v2, t4, u4, v4, t5, u5, v5, t6, u6, v6] at *; omega)) (fun g0 g1 g2 g3 g4 => (by exfalso; clear hI h hSw hK; simp only [zlt, zle, zeq, zl0, zlm, zl1, zl8, zl9, zl10, zl15, zl20, zl30, zl59, zl60, t0, u0, v0, t1, u1, v1, t2, u2, v2, t4, u4, v4, t5, u5, v5, t6, u6, v6] at *; omega)) (fun g0 g1 g2 g3 g4 => (by exfalso; clear hI h hSw hK; simp only [zlt, zle, zeq, zl0, zlm, zl1, zl8, zl9, zl10, zl15, zl20, zl30, zl59, zl60, t0, u0, v0, t1, u1, v1, t2, u2, v2, t4, u4, v4, t5, u5, v5, t6, u6, v6] at *; omega)) (fun g0 g1 g2 g3 g4 => (by exfalso; clear hI h hSw hK; simp only [zlt, zle, zeq, zl0, zlm, zl1, zl8, zl9, zl10, zl15, zl20, zl30, zl59, zl60, t0, u0, v0, t1, u1, v1, t2, u2, v2, t4, u4, v4, t5, u5, v5, t6, u6, v6] at *; omega)) (fun g0 g1 g2 g3 g4 => (by exfalso; clear hI h hSw hK; simp only [zlt, zle, zeq, zl0, zlm, zl1, zl8, zl9, zl10, zl15, zl20, zl30, zl59, zl60, t0, u0, v0, t1, u1, v1, t2, u2, v2, t4, u4, v4, t5, u5, v5, t6, u6, v6] at *; omega)) (fun g0 g1 g2 g3 g4 => ⟨K, B, M, rfl, rfl, hI⟩)
    exact zb_Boats_seen_0 (d := d + 197) hK _ _ _ _ (fun g0 => hno) (fun g0 g1 => hno) (fun g0 g1 g2 => hno) (fun g0 g1 g2 g3 => (by exfalso; clear hI h hSw hK; simp only [zlt, zle, zeq, zl0, zlm, zl1, zl8, zl9, zl10, zl15, zl20, zl30, zl59, zl60, t0, u0, v0, t1, u1, v1, t2, u2, v2, t4, u4, v4, t5, u5, v5, t6, u6, v6] at *; omega)) (fun g0 g1 g2 g3 => (by exfalso; clear hI h hSw hK; simp only [zlt, zle, zeq, zl0, zlm, zl1, zl8, zl9, zl10, zl15, zl20, zl30, zl59, zl60, t0, u0, v0, t1, u1, v1, t2, u2, v2, t4, u4, v4, t5, u5, v5, t6, u6, v6] at *; omega)) (fun g0 g1 g2 g3 => (by exfalso; clear hI h hSw hK; simp only [zlt, zle, zeq, zl0, zlm, zl1, zl8, zl9, zl10, zl15, zl20, zl30, zl59, zl60, t0, u0, v0, t1, u1, v1, t2, u2, v2, t4, u4, v4, t5, u5, v5, t6, u6, v6] at *; omega)) (fun g0 g1 g2 g3 => (by exfalso; clear hI h hSw hK; simp only [zlt, zle, zeq, zl0, zlm, zl1, zl8, zl9, zl10, zl15, zl20, zl30, zl59, zl60, t0, u0, v0, t1, u1, v1, t2, u2, v2, t4, u4, v4, t5, u5, v5, t6, u6, v6] at *; omega)) (fun g0 g1 g2 g3 => (by exfalso; clear hI h hSw hK; simp only [zlt, zle, zeq, zl0, zlm, zl1, zl8, zl9, zl10, zl15, zl20, zl30, zl59, zl60, t0, u0, v0, t1, u1, v1, t2, u2, v2, t4, u4, v4, t5, u5, v5, t6, u6, v6] at *; omega)) (fun g0 g1 g2 g3 => hno)
/-! ===== excuse ===== -/
theorem zop_excuse (X : zX) (a0 a1 a2 a3 : Int32) : zOp zInv X zm_Boats_excuse zm_Model_excuse [.int a0, .int a1, .int a2, .int a3] := by
  intro d K B M hI
  obtain ⟨hK, hSw, n, n', h⟩ := id hI
  obtain ⟨⟨⟨c0, c1, c2, c3, c4, c5, c6, c7⟩, b0, b1, b2, b3, b4, b5, b6, b7⟩, -, -, ⟨q0, q1, q2, q3, q4, q5, q6, q7⟩, -⟩ := id h
  have e1 : M 13 10 = nI (n 6) := q6.trans c6
  have t0 : (M 1 1).toInt = n 0 := by rw [q0.trans c0, znI (by omega)]
  have u0 : (M 72 0).toInt = n 0 := by rw [c0, znI (by omega)]
  have v0 : (M 72 0 - 1).toInt = (n 0 : Int) - 1 := by rw [c0, zsub1 (by omega)]
  have t1 : (M 1 5).toInt = n 1 := by rw [q1.trans c1, znI (by omega)]
  have u1 : (M 72 1).toInt = n 1 := by rw [c1, znI (by omega)]
  have v1 : (M 72 1 - 1).toInt = (n 1 : Int) - 1 := by rw [c1, zsub1 (by omega)]
  have t2 : (M 1 9).toInt = n 2 := by rw [q2.trans c2, znI (by omega)]
  have u2 : (M 72 2).toInt = n 2 := by rw [c2, znI (by omega)]
  have v2 : (M 72 2 - 1).toInt = (n 2 : Int) - 1 := by rw [c2, zsub1 (by omega)]
  have t4 : (M 13 0).toInt = n 4 := by rw [q4.trans c4, znI (by omega)]
  have u4 : (M 72 4).toInt = n 4 := by rw [c4, znI (by omega)]
  have v4 : (M 72 4 - 1).toInt = (n 4 : Int) - 1 := by rw [c4, zsub1 (by omega)]
  have t5 : (M 13 5).toInt = n 5 := by rw [q5.trans c5, znI (by omega)]
  have u5 : (M 72 5).toInt = n 5 := by rw [c5, znI (by omega)]
  have v5 : (M 72 5 - 1).toInt = (n 5 : Int) - 1 := by rw [c5, zsub1 (by omega)]
  have t6 : (M 13 10).toInt = n 6 := by rw [q6.trans c6, znI (by omega)]
  have u6 : (M 72 6).toInt = n 6 := by rw [c6, znI (by omega)]
  have v6 : (M 72 6 - 1).toInt = (n 6 : Int) - 1 := by rw [c6, zsub1 (by omega)]
  by_cases hv : 0 ≤ a0.toInt ∧ a0.toInt < n 4 ∧ 0 ≤ a1.toInt ∧ a1.toInt ≤ a2.toInt ∧ a2.toInt < 60 ∧ 0 ≤ a3.toInt ∧ a3.toInt < 60 ∧ n 6 < 20
  · have hcl : (M 13 10).toNatClampNeg = n 6 := by rw [e1, nI_clamp (by omega)]
    refine zb_Boats_excuse_0 (d := d + 197) hK _ _ _ _ (fun g0 => (by exfalso; clear hI h hSw hK; simp only [zlt, zle, zeq, zl0, zlm, zl1, zl8, zl9, zl10, zl15, zl20, zl30, zl59, zl60, t0, u0, v0, t1, u1, v1, t2, u2, v2, t4, u4, v4, t5, u5, v5, t6, u6, v6] at *; omega)) (fun g0 g1 => (by exfalso; clear hI h hSw hK; simp only [zlt, zle, zeq, zl0, zlm, zl1, zl8, zl9, zl10, zl15, zl20, zl30, zl59, zl60, t0, u0, v0, t1, u1, v1, t2, u2, v2, t4, u4, v4, t5, u5, v5, t6, u6, v6] at *; omega)) (fun g0 g1 g2 => (by exfalso; clear hI h hSw hK; simp only [zlt, zle, zeq, zl0, zlm, zl1, zl8, zl9, zl10, zl15, zl20, zl30, zl59, zl60, t0, u0, v0, t1, u1, v1, t2, u2, v2, t4, u4, v4, t5, u5, v5, t6, u6, v6] at *; omega)) (fun g0 g1 g2 g3 => by rw [e1]; exact vp_in_nI (by omega) (by omega)) (fun g0 g1 g2 g3 => by rw [e1]; exact vp_in_nI (by omega) (by omega)) (fun g0 g1 g2 g3 => by rw [e1]; exact vp_in_nI (by omega) (by omega)) (fun g0 g1 g2 g3 => by rw [e1]; exact vp_in_nI (by omega) (by omega)) (fun g0 g1 g2 g3 => ?_) (fun g0 g1 g2 g3 => (by exfalso; clear hI h hSw hK; simp only [zlt, zle, zeq, zl0, zlm, zl1, zl8, zl9, zl10, zl15, zl20, zl30, zl59, zl60, t0, u0, v0, t1, u1, v1, t2, u2, v2, t4, u4, v4, t5, u5, v5, t6, u6, v6] at *; omega))
    rw [hcl]
    generalize hM1 : (zu (zu (zu (zu (zu M 18 (n 6) a0) 19 (n 6) a1) 20 (n 6) a2) 21 (n 6) a3) 13 10 (M 13 10 + 1)) = M1
    have e72 : M1 72 = M 72 := by rw [← hM1]; rfl
    have f18 : ∀ i, M1 18 i = if i = n 6 then a0 else M 18 i := fun i => by rw [← hM1]; exact zu_at M 18 (n 6) i a0
    have f19 : ∀ i, M1 19 i = if i = n 6 then a1 else M 19 i := fun i => by rw [← hM1]; exact zu_at _ 19 (n 6) i a1
    have f20 : ∀ i, M1 20 i = if i = n 6 then a2 else M 20 i := fun i => by rw [← hM1]; exact zu_at _ 20 (n 6) i a2
    have f21 : ∀ i, M1 21 i = if i = n 6 then a3 else M 21 i := fun i => by rw [← hM1]; exact zu_at _ 21 (n 6) i a3
    have fc : ∀ i, M1 13 i = if i = 10 then nI (n 6 + 1) else M 13 i := by
      intro i
      rw [← hM1, zu_at, e1, nI_1]
      rfl
    have fo : ∀ c, c ≠ 18 → c ≠ 19 → c ≠ 20 → c ≠ 21 → c ≠ 13 → M1 c = M c := by
      intro c x18 x19 x20 x21 x13
      rw [← hM1]
      simp [zu, x18, x19, x20, x21, x13]
    have c1k : M1 72 6 = nI (n 6) := by rw [e72]; exact c6
    refine ⟨_, K, B, M1, rfl, rfl, ?_⟩
    have hb6 : (340 + 4 * M1 72 6) = nI (340 + 4 * n 6) := by rw [c1k, show (340 : Int32) = nI 340 from rfl, show (4 : Int32) = nI 4 from rfl, pk_mul, nI_add]
    have hb6_1 : (340 + 4 * M1 72 6) + 1 = nI (341 + 4 * n 6) := by rw [hb6, show (1 : Int32) = nI 1 from rfl, nI_add]; congr 1; omega
    have hb6_2 : (340 + 4 * M1 72 6) + 2 = nI (342 + 4 * n 6) := by rw [hb6, show (2 : Int32) = nI 2 from rfl, nI_add]; congr 1; omega
    have hb6_3 : (340 + 4 * M1 72 6) + 3 = nI (343 + 4 * n 6) := by rw [hb6, show (3 : Int32) = nI 3 from rfl, nI_add]; congr 1; omega
    refine zb_Model_excuse_0 (d := d + 197) hK _ _ _ _ (fun g0 => ?_) (fun g0 g1 => ?_) (fun g0 g1 g2 => ?_) (fun g0 g1 g2 g3 => ?_) (fun g0 g1 g2 g3 g4 => by rw [hb6]; exact vp_in_nI (by omega) (by omega)) (fun g0 g1 g2 g3 g4 => by rw [hb6_1]; exact vp_in_nI (by omega) (by omega)) (fun g0 g1 g2 g3 g4 => by rw [hb6_2]; exact vp_in_nI (by omega) (by omega)) (fun g0 g1 g2 g3 g4 => by rw [hb6_3]; exact vp_in_nI (by omega) (by omega)) (fun g0 g1 g2 g3 g4 => ?_) (fun g0 g1 g2 g3 g4 => ?_)
    · exfalso; clear hM1 fo fc hI h hSw hK; simp only [e72] at *; simp only [zlt, zle, zeq, zl0, zlm, zl1, zl8, zl9, zl10, zl15, zl20, zl30, zl59, zl60, t0, u0, v0, t1, u1, v1, t2, u2, v2, t4, u4, v4, t5, u5, v5, t6, u6, v6] at *; omega
    · exfalso; clear hM1 fo fc hI h hSw hK; simp only [e72] at *; simp only [zlt, zle, zeq, zl0, zlm, zl1, zl8, zl9, zl10, zl15, zl20, zl30, zl59, zl60, t0, u0, v0, t1, u1, v1, t2, u2, v2, t4, u4, v4, t5, u5, v5, t6, u6, v6] at *; omega
    · exfalso; clear hM1 fo fc hI h hSw hK; simp only [e72] at *; simp only [zlt, zle, zeq, zl0, zlm, zl1, zl8, zl9, zl10, zl15, zl20, zl30, zl59, zl60, t0, u0, v0, t1, u1, v1, t2, u2, v2, t4, u4, v4, t5, u5, v5, t6, u6, v6] at *; omega
    · exfalso; clear hM1 fo fc hI h hSw hK; simp only [e72] at *; simp only [zlt, zle, zeq, zl0, zlm, zl1, zl8, zl9, zl10, zl15, zl20, zl30, zl59, zl60, t0, u0, v0, t1, u1, v1, t2, u2, v2, t4, u4, v4, t5, u5, v5, t6, u6, v6] at *; omega
    · generalize hM2 : (zu (zu (zu (zu (zu M1 72 (340 + 4 * M1 72 6).toNatClampNeg a0) 72 ((340 + 4 * M1 72 6) + 1).toNatClampNeg a1) 72 ((340 + 4 * M1 72 6) + 2).toNatClampNeg a2) 72 ((340 + 4 * M1 72 6) + 3).toNatClampNeg a3) 72 6 ((zu (zu (zu (zu M1 72 (340 + 4 * M1 72 6).toNatClampNeg a0) 72 ((340 + 4 * M1 72 6) + 1).toNatClampNeg a1) 72 ((340 + 4 * M1 72 6) + 2).toNatClampNeg a2) 72 ((340 + 4 * M1 72 6) + 3).toNatClampNeg a3) 72 6 + 1)) = M2
      have f72 : ∀ j, M2 72 j = if j = 6 then nI (n 6 + 1) else if j = 343 + 4 * n 6 then a3 else if j = 342 + 4 * n 6 then a2 else if j = 341 + 4 * n 6 then a1 else if j = 340 + 4 * n 6 then a0 else M 72 j := by
        intro j
        rw [← hM2]
        rw [hb6_3, hb6_2, hb6_1, hb6]
        rw [nI_clamp (n := 340 + 4 * n 6) (by omega), nI_clamp (n := 341 + 4 * n 6) (by omega), nI_clamp (n := 342 + 4 * n 6) (by omega), nI_clamp (n := 343 + 4 * n 6) (by omega)]
        simp only [zu_at]
        rw [if_neg (show ¬ 6 = 343 + 4 * n 6 by omega), if_neg (show ¬ 6 = 342 + 4 * n 6 by omega), if_neg (show ¬ 6 = 341 + 4 * n 6 by omega), if_neg (show ¬ 6 = 340 + 4 * n 6 by omega), c1k, e72, nI_1]
      have fo2 : ∀ c, c ≠ 72 → M2 c = M1 c := by
        intro c x72
        rw [← hM2]
        simp [zu, x72]
      refine ⟨K, B, M2, ?_, rfl, hK, hSw, fun k => if k = 6 then n 6 + 1 else n k, n', ?_⟩
      · have e0 : M2 72 6 = nI (n 6 + 1) := by rw [f72, if_pos rfl]
        have e3 : (zu (zu (zu (zu M1 72 (340 + 4 * M1 72 6).toNatClampNeg a0) 72 ((340 + 4 * M1 72 6) + 1).toNatClampNeg a1) 72 ((340 + 4 * M1 72 6) + 2).toNatClampNeg a2) 72 ((340 + 4 * M1 72 6) + 3).toNatClampNeg a3) 72 6 + 1 = M2 72 6 := by rw [← hM2, zu_yes]
        rw [e3, e0, e1, nI_1]
      · refine zIn_add h ⟨fun i _ => ?_, fun i _ => ?_, fun i _ => ?_, fun i _ => ?_, fun i _ => ?_⟩ (fun j hj => ?_) (fun j hj _ => ?_) ?_ ?_ ?_ (fun i hi hi2 => ?_) (fun i hi hi2 => ?_) (fun i hi hi2 => ?_) (fun i hi hi2 => ?_) (fun i hi hi2 => ?_) (fun c hc hc2 => by rw [fo2 c hc2, fo c (by omega) (by omega) (by omega) (by omega) (by omega)]) ?_
        · rw [fo2 2 (by decide), fo 2 (by decide) (by decide) (by decide) (by decide) (by decide)]
        · rw [fo2 3 (by decide), fo 3 (by decide) (by decide) (by decide) (by decide) (by decide), fo2 4 (by decide), fo 4 (by decide) (by decide) (by decide) (by decide) (by decide), fo2 5 (by decide), fo 5 (by decide) (by decide) (by decide) (by decide) (by decide)]; exact ⟨rfl, rfl, rfl⟩
        · rw [fo2 6 (by decide), fo 6 (by decide) (by decide) (by decide) (by decide) (by decide), fo2 7 (by decide), fo 7 (by decide) (by decide) (by decide) (by decide) (by decide), fo2 8 (by decide), fo 8 (by decide) (by decide) (by decide) (by decide) (by decide)]; exact ⟨rfl, rfl, rfl⟩
        · rw [fo2 14 (by decide), fo 14 (by decide) (by decide) (by decide) (by decide) (by decide), fo2 15 (by decide), fo 15 (by decide) (by decide) (by decide) (by decide) (by decide), fo2 16 (by decide), fo 16 (by decide) (by decide) (by decide) (by decide) (by decide), fo2 17 (by decide), fo 17 (by decide) (by decide) (by decide) (by decide) (by decide)]; exact ⟨rfl, rfl, rfl, rfl⟩
        · rename_i hi; rw [fo2 18 (by decide), f18, if_neg (by omega), fo2 19 (by decide), f19, if_neg (by omega), fo2 20 (by decide), f20, if_neg (by omega), fo2 21 (by decide), f21, if_neg (by omega)]; exact ⟨rfl, rfl, rfl, rfl⟩
        · unfold zUsed at hj
          rw [f72, if_neg (by omega), if_neg (by omega), if_neg (by omega), if_neg (by omega), if_neg (by omega)]
        · rw [f72, if_neg (by omega), if_neg (by omega), if_neg (by omega), if_neg (by omega), if_neg (by omega)]
        · simp only [zCs, f72]
          refine ⟨⟨by rw [if_neg (by omega), if_neg (by omega), if_neg (by omega), if_neg (by omega), if_neg (by omega)]; exact c0, by rw [if_neg (by omega), if_neg (by omega), if_neg (by omega), if_neg (by omega), if_neg (by omega)]; exact c1, by rw [if_neg (by omega), if_neg (by omega), if_neg (by omega), if_neg (by omega), if_neg (by omega)]; exact c2, by rw [if_neg (by omega), if_neg (by omega), if_neg (by omega), if_neg (by omega), if_neg (by omega)]; exact c3, by rw [if_neg (by omega), if_neg (by omega), if_neg (by omega), if_neg (by omega), if_neg (by omega)]; exact c4, by rw [if_neg (by omega), if_neg (by omega), if_neg (by omega), if_neg (by omega), if_neg (by omega)]; exact c5, by simp, by rw [if_neg (by omega), if_neg (by omega), if_neg (by omega), if_neg (by omega), if_neg (by omega)]; exact c7⟩, ?_⟩
          simp
          omega
        · exact ⟨by rw [fo2 1 (by decide), fo 1 (by decide) (by decide) (by decide) (by decide) (by decide), f72, if_neg (by omega), if_neg (by omega), if_neg (by omega), if_neg (by omega), if_neg (by omega)]; exact q0, by rw [fo2 1 (by decide), fo 1 (by decide) (by decide) (by decide) (by decide) (by decide), f72, if_neg (by omega), if_neg (by omega), if_neg (by omega), if_neg (by omega), if_neg (by omega)]; exact q1, by rw [fo2 1 (by decide), fo 1 (by decide) (by decide) (by decide) (by decide) (by decide), f72, if_neg (by omega), if_neg (by omega), if_neg (by omega), if_neg (by omega), if_neg (by omega)]; exact q2, by rw [fo2 1 (by decide), fo 1 (by decide) (by decide) (by decide) (by decide) (by decide), f72, if_neg (by omega), if_neg (by omega), if_neg (by omega), if_neg (by omega), if_neg (by omega)]; exact q3, by rw [fo2 13 (by decide), fc, f72, if_neg (by decide), if_neg (by omega), if_neg (by omega), if_neg (by omega), if_neg (by omega), if_neg (by omega)]; exact q4, by rw [fo2 13 (by decide), fc, f72, if_neg (by decide), if_neg (by omega), if_neg (by omega), if_neg (by omega), if_neg (by omega), if_neg (by omega)]; exact q5, by rw [fo2 13 (by decide), fc, f72, if_pos rfl, if_pos rfl], by rw [fo2 0 (by decide), fo 0 (by decide) (by decide) (by decide) (by decide) (by decide), f72, if_neg (by omega), if_neg (by omega), if_neg (by omega), if_neg (by omega), if_neg (by omega)]; exact q7⟩
        · simp
        · simp at hi2; omega
        · simp at hi2; omega
        · simp at hi2; omega
        · simp at hi2; omega
        · have hi3 : i = n 6 := by simp at hi2; omega
          subst hi3
          unfold zRe
          rw [fo2 18 (by decide), f18, if_pos rfl, fo2 19 (by decide), f19, if_pos rfl, fo2 20 (by decide), f20, if_pos rfl, fo2 21 (by decide), f21, if_pos rfl]
          rw [f72 (340 + 4 * n 6), if_neg (by omega), if_neg (by omega), if_neg (by omega), if_neg (by omega), if_pos rfl, f72 (341 + 4 * n 6), if_neg (by omega), if_neg (by omega), if_neg (by omega), if_pos rfl, f72 (342 + 4 * n 6), if_neg (by omega), if_neg (by omega), if_pos rfl, f72 (343 + 4 * n 6), if_neg (by omega), if_pos rfl]
          obtain ⟨p, hp, ep⟩ := znat (x := a0) (n := n 4) (by omega) (by omega) (by omega); obtain ⟨q, hq, eq⟩ := znat (x := a1) (n := 60) (by omega) (by omega) (by decide); obtain ⟨m, hm, em⟩ := znat (x := a2) (n := 60) (by omega) (by omega) (by decide); obtain ⟨t, ht, et⟩ := znat (x := a3) (n := 60) (by omega) (by omega) (by decide); refine ⟨rfl, rfl, rfl, rfl, p, q, m, t, by simpa using hp, ?_, hm, ht, ep, eq, em, et⟩; have := hv.2.2.2.1; rw [eq, em, znI (by omega), znI (by omega)] at this; omega
        · have ez : ∀ c, 1 ≤ c → c ≤ 12 → M2 c = M c := fun c y1 y2 => by rw [fo2 c (by omega), fo c (by omega) (by omega) (by omega) (by omega) (by omega)]
          obtain ⟨-, -, -, -, -, -, -, -, -, -, -, hT, -⟩ := h
          unfold zTab
          rw [ez 1 (by decide) (by decide)]
          exact hT.imp id (fun z => ⟨z.1, zTabOk_same ez z.2⟩)
    · exfalso; clear hM1 fo fc hI h hSw hK; simp only [e72] at *; simp only [zlt, zle, zeq, zl0, zlm, zl1, zl8, zl9, zl10, zl15, zl20, zl30, zl59, zl60, t0, u0, v0, t1, u1, v1, t2, u2, v2, t4, u4, v4, t5, u5, v5, t6, u6, v6] at *; omega
  · have hno : ∃ (x : Int32) (K1 : Nat → Nat → Option Nat) (B1 : Nat → Nat → Int64) (M1 : Nat → Nat → Int32), (some (Value.int (-1)) : Option Value) = some (.int x) ∧ ((X, (0, 0), zLay, K, B, M) : zS) = (X, (0, 0), zLay, K1, B1, M1) ∧ zCall (d + 200) zm_Model_excuse (.ref 71 :: [.int a0, .int a1, .int a2, .int a3]) (X, (0, 0), zLay, K1, B1, M1) (fun v' S2 => ∃ (K2 : Nat → Nat → Option Nat) (B2 : Nat → Nat → Int64) (M2 : Nat → Nat → Int32), v' = some (.int x) ∧ S2 = (X, (0, 0), zLay, K2, B2, M2) ∧ zInv K2 B2 M2) := by
      refine ⟨-1, K, B, M, rfl, rfl, ?_⟩
      exact zb_Model_excuse_0 (d := d + 197) hK _ _ _ _ (fun g0 => ⟨K, B, M, rfl, rfl, hI⟩) (fun g0 g1 => ⟨K, B, M, rfl, rfl, hI⟩) (fun g0 g1 g2 => ⟨K, B, M, rfl, rfl, hI⟩) (fun g0 g1 g2 g3 => ⟨K, B, M, rfl, rfl, hI⟩) (fun g0 g1 g2 g3 g4 => (by exfalso; clear hI h hSw hK; simp only [zlt, zle, zeq, zl0, zlm, zl1, zl8, zl9, zl10, zl15, zl20, zl30, zl59, zl60, t0, u0, v0, t1, u1, v1, t2, u2, v2, t4, u4, v4, t5, u5, v5, t6, u6, v6] at *; omega)) (fun g0 g1 g2 g3 g4 => (by exfalso; clear hI h hSw hK; simp only [zlt, zle, zeq, zl0, zlm, zl1, zl8, zl9, zl10, zl15, zl20, zl30, zl59, zl60, t0, u0, v0, t1, u1, v1, t2, u2, v2, t4, u4, v4, t5, u5, v5, t6, u6, v6] at *; omega)) (fun g0 g1 g2 g3 g4 => (by exfalso; clear hI h hSw hK; simp only [zlt, zle, zeq, zl0, zlm, zl1, zl8, zl9, zl10, zl15, zl20, zl30, zl59, zl60, t0, u0, v0, t1, u1, v1, t2, u2, v2, t4, u4, v4, t5, u5, v5, t6, u6, v6] at *; omega)) (fun g0 g1 g2 g3 g4 => (by exfalso; clear hI h hSw hK; simp only [zlt, zle, zeq, zl0, zlm, zl1, zl8, zl9, zl10, zl15, zl20, zl30, zl59, zl60, t0, u0, v0, t1, u1, v1, t2, u2, v2, t4, u4, v4, t5, u5, v5, t6, u6, v6] at *; omega)) (fun g0 g1 g2 g3 g4 => (by exfalso; clear hI h hSw hK; simp only [zlt, zle, zeq, zl0, zlm, zl1, zl8, zl9, zl10, zl15, zl20, zl30, zl59, zl60, t0, u0, v0, t1, u1, v1, t2, u2, v2, t4, u4, v4, t5, u5, v5, t6, u6, v6] at *; omega)) (fun g0 g1 g2 g3 g4 => ⟨K, B, M, rfl, rfl, hI⟩)
    exact zb_Boats_excuse_0 (d := d + 197) hK _ _ _ _ (fun g0 => hno) (fun g0 g1 => hno) (fun g0 g1 g2 => hno) (fun g0 g1 g2 g3 => (by exfalso; clear hI h hSw hK; simp only [zlt, zle, zeq, zl0, zlm, zl1, zl8, zl9, zl10, zl15, zl20, zl30, zl59, zl60, t0, u0, v0, t1, u1, v1, t2, u2, v2, t4, u4, v4, t5, u5, v5, t6, u6, v6] at *; omega)) (fun g0 g1 g2 g3 => (by exfalso; clear hI h hSw hK; simp only [zlt, zle, zeq, zl0, zlm, zl1, zl8, zl9, zl10, zl15, zl20, zl30, zl59, zl60, t0, u0, v0, t1, u1, v1, t2, u2, v2, t4, u4, v4, t5, u5, v5, t6, u6, v6] at *; omega)) (fun g0 g1 g2 g3 => (by exfalso; clear hI h hSw hK; simp only [zlt, zle, zeq, zl0, zlm, zl1, zl8, zl9, zl10, zl15, zl20, zl30, zl59, zl60, t0, u0, v0, t1, u1, v1, t2, u2, v2, t4, u4, v4, t5, u5, v5, t6, u6, v6] at *; omega)) (fun g0 g1 g2 g3 => (by exfalso; clear hI h hSw hK; simp only [zlt, zle, zeq, zl0, zlm, zl1, zl8, zl9, zl10, zl15, zl20, zl30, zl59, zl60, t0, u0, v0, t1, u1, v1, t2, u2, v2, t4, u4, v4, t5, u5, v5, t6, u6, v6] at *; omega)) (fun g0 g1 g2 g3 => (by exfalso; clear hI h hSw hK; simp only [zlt, zle, zeq, zl0, zlm, zl1, zl8, zl9, zl10, zl15, zl20, zl30, zl59, zl60, t0, u0, v0, t1, u1, v1, t2, u2, v2, t4, u4, v4, t5, u5, v5, t6, u6, v6] at *; omega)) (fun g0 g1 g2 g3 => hno)
