/-! ===== place ===== -/
theorem zop_place (X : zX) (a0 : Int32) : zOp zInv X zm_Boats_place zm_Model_place [.int a0] := by
  intro d K B M hI
  obtain ⟨hK, hSw, n, n', h⟩ := id hI
  obtain ⟨⟨⟨c0, c1, c2, c3, c4, c5, c6, c7⟩, b0, b1, b2, b3, b4, b5, b6, b7⟩, -, -, ⟨q0, q1, q2, q3, q4, q5, q6, q7⟩, -⟩ := id h
  have e1 : M 1 1 = nI (n 0) := q0.trans c0
  have t1 : (M 1 1).toInt = n 0 := by rw [e1, znI (by omega)]
  have t2 : (M 72 0).toInt = n 0 := by rw [c0, znI (by omega)]
  by_cases hv : 0 ≤ a0.toInt ∧ a0.toInt < 10 ∧ n 0 < 10
  · obtain ⟨p, hp, rfl⟩ := znat (x := a0) (n := 10) hv.1 hv.2.1 (by decide)
    have hcl : (M 1 1).toNatClampNeg = n 0 := by rw [e1, nI_clamp (by omega)]
    have hcl2 : (10 + M 72 0).toNatClampNeg = 10 + n 0 := by rw [c0, show (10 : Int32) = nI 10 from rfl, nI_add, nI_clamp (by omega)]
    refine zb_Boats_place_0 (d := d + 198) hK _ (fun g => ?_) (fun g g2 => ?_) (fun _ _ _ => by rw [e1]; exact vp_in_nI hv.2.2 (by omega)) (fun _ _ _ => ?_) (fun _ _ g => ?_)
    · exfalso; simp only [zlt, zl0] at g; omega
    · exfalso; simp only [zle, zl10] at g2; omega
    · refine ⟨_, K, B, _, rfl, rfl, ?_⟩
      refine zb_Model_place_0 (d := d + 198) hK _ (fun g => ?_) (fun _ _ => ?_) (fun _ _ => ?_) (fun _ g => ?_)
      · exact absurd ⟨by simp only [zle, zl0]; omega, by simp only [zle, zl9]; omega⟩ g
      · show vp_in (10 + M 72 0) 478
        rw [c0, show (10 : Int32) = nI 10 from rfl, nI_add]
        exact vp_in_nI (by omega) (by omega)
      · rw [hcl]
        generalize hM2 : (zu (zu (zu (zu (zu M 2 (n 0) (nI p)) 1 11 1) 1 1 (M 1 1 + 1)) 72 (10 + (zu (zu (zu M 2 (n 0) (nI p)) 1 11 1) 1 1 (M 1 1 + 1)) 72 0).toNatClampNeg (nI p)) 72 0 ((zu (zu (zu (zu M 2 (n 0) (nI p)) 1 11 1) 1 1 (M 1 1 + 1)) 72 (10 + (zu (zu (zu M 2 (n 0) (nI p)) 1 11 1) 1 1 (M 1 1 + 1)) 72 0).toNatClampNeg (nI p)) 72 0 + 1)) = M2
        have f72 : ∀ j, M2 72 j = if j = 0 then nI (n 0 + 1) else if j = 10 + n 0 then nI p else M 72 j := by
          intro j
          rw [← hM2]
          have e : (10 + (zu (zu (zu M 2 (n 0) (nI p)) 1 11 1) 1 1 (M 1 1 + 1)) 72 0).toNatClampNeg = 10 + n 0 := hcl2
          rw [e, zu_at, zu_at, zu_at]
          have e0 : (zu (zu (zu M 2 (n 0) (nI p)) 1 11 1) 1 1 (M 1 1 + 1)) 72 = M 72 := rfl
          rw [e0, if_neg (show ¬ 0 = 10 + n 0 by omega), c0, nI_1]
        have f2 : ∀ i, M2 2 i = if i = n 0 then nI p else M 2 i := by
          intro i
          rw [← hM2]
          exact zu_at M 2 (n 0) i (nI p)
        have f1 : ∀ i, M2 1 i = if i = 1 then nI (n 0 + 1) else if i = 11 then 1 else M 1 i := by
          intro i
          rw [← hM2]
          show zu (zu (zu M 2 (n 0) (nI p)) 1 11 1) 1 1 (M 1 1 + 1) 1 i = _
          rw [zu_at, zu_at, e1, nI_1]
          rfl
        have fo : ∀ c, c ≠ 1 → c ≠ 2 → c ≠ 72 → M2 c = M c := by
          intro c h1 h2 h3
          rw [← hM2]
          simp [zu, h1, h2, h3]
        refine ⟨K, B, M2, ?_, rfl, hK, hSw, fun k => if k = 0 then n 0 + 1 else n k, n', ?_⟩
        · have e : (10 + (zu (zu (zu M 2 (n 0) (nI p)) 1 11 1) 1 1 (M 1 1 + 1)) 72 0).toNatClampNeg = 10 + n 0 := hcl2
          rw [e, zu_at, if_neg (show ¬ 0 = 10 + n 0 by omega)]
          show some (Value.int (M 72 0 + 1 - 1)) = some (Value.int (M 1 1))
          rw [c0, e1, nI_1, nI_pred]
        · refine zIn_add h ⟨fun i hi => ?_, fun i _ => ?_, fun i _ => ?_, fun i _ => ?_, fun i _ => ?_⟩ (fun j hj => ?_) (fun j hj _ => ?_) ?_ ?_ ?_ (fun i hi hi2 => ?_) (fun i hi hi2 => ?_) (fun i hi hi2 => ?_) (fun i hi hi2 => ?_) (fun i hi hi2 => ?_) (fun c hc hc2 => fo c (by omega) (by omega) hc2) (Or.inl ?_)
          · rw [f2, if_neg (by omega)]
          · rw [fo 3 (by decide) (by decide) (by decide), fo 4 (by decide) (by decide) (by decide), fo 5 (by decide) (by decide) (by decide)]; exact ⟨rfl, rfl, rfl⟩
          · rw [fo 6 (by decide) (by decide) (by decide), fo 7 (by decide) (by decide) (by decide), fo 8 (by decide) (by decide) (by decide)]; exact ⟨rfl, rfl, rfl⟩
          · rw [fo 14 (by decide) (by decide) (by decide), fo 15 (by decide) (by decide) (by decide), fo 16 (by decide) (by decide) (by decide), fo 17 (by decide) (by decide) (by decide)]; exact ⟨rfl, rfl, rfl, rfl⟩
          · rw [fo 18 (by decide) (by decide) (by decide), fo 19 (by decide) (by decide) (by decide), fo 20 (by decide) (by decide) (by decide), fo 21 (by decide) (by decide) (by decide)]; exact ⟨rfl, rfl, rfl, rfl⟩
          · unfold zUsed at hj
            rw [f72, if_neg (by omega), if_neg (by omega)]
          · rw [f72, if_neg (by omega), if_neg (by omega)]
          · simp only [zCs, f72]
            simp
            refine ⟨⟨?_, ?_, ?_, ?_, ?_, ?_, ?_⟩, by omega, b1, b2, b3, b4, b5, b6, b7⟩ <;> (rw [if_neg (by omega)]; assumption)
          · simp only [zCc, f72, f1, fo 13 (by decide) (by decide) (by decide), fo 0 (by decide) (by decide) (by decide)]
            simp
            refine ⟨?_, ?_, ?_, ?_, ?_, ?_, ?_⟩ <;> (rw [if_neg (by omega)]; assumption)
          · simp
          · have hi3 : i = n 0 := by simp at hi2; omega
            subst hi3
            unfold zRp
            rw [f2, f72, if_pos rfl, if_neg (by omega), if_pos rfl]
            exact ⟨rfl, p, hp, rfl⟩
          · simp at hi2; omega
          · simp at hi2; omega
          · simp at hi2; omega
          · simp at hi2; omega
          · rw [f1]; rfl
      · exfalso
        have : (M 72 0) = 10 := g
        simp only [zeq, zl10] at this; omega
    · exfalso; simp only [zlt, zl10] at g; omega
  · have hno : ∃ (x : Int32) (K1 : Nat → Nat → Option Nat) (B1 : Nat → Nat → Int64) (M1 : Nat → Nat → Int32), (some (Value.int (-1)) : Option Value) = some (.int x) ∧ ((X, (0, 0), zLay, K, B, M) : zS) = (X, (0, 0), zLay, K1, B1, M1) ∧ zCall (d + 200) zm_Model_place (.ref 71 :: [.int a0]) (X, (0, 0), zLay, K1, B1, M1) (fun v' S2 => ∃ (K2 : Nat → Nat → Option Nat) (B2 : Nat → Nat → Int64) (M2 : Nat → Nat → Int32), v' = some (.int x) ∧ S2 = (X, (0, 0), zLay, K2, B2, M2) ∧ zInv K2 B2 M2) := by
      refine ⟨-1, K, B, M, rfl, rfl, ?_⟩
      refine zb_Model_place_0 (d := d + 198) hK _ (fun _ => ⟨K, B, M, rfl, rfl, hI⟩) (fun g g2 => ?_) (fun g g2 => ?_) (fun _ _ => ⟨K, B, M, rfl, rfl, hI⟩)
      · exfalso; simp only [zle, zeq, zl0, zl9, zl10] at g g2; omega
      · exfalso; simp only [zle, zeq, zl0, zl9, zl10] at g g2; omega
    refine zb_Boats_place_0 (d := d + 198) hK _ (fun _ => hno) (fun _ _ => hno) (fun g1 g2 g3 => ?_) (fun g1 g2 g3 => ?_) (fun _ _ _ => hno)
    · exfalso; simp only [zlt, zle, zl0, zl10] at g1 g2 g3; omega
    · exfalso; simp only [zlt, zle, zl0, zl10] at g1 g2 g3; omega
