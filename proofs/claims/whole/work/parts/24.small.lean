/-! ===== small questions of the class and of the reference ===== -/
theorem zb_Boats_isPlace_0 {d : Nat} {F : Option Value → zS → Prop} {X : zX} {b : Nat × Nat} {K : Nat → Nat → Option Nat} {B : Nat → Nat → Int64} {M : Nat → Nat → Int32} (hK : zKok K)  (p : Int32) 
    (k1 : (p < (0 : Int32)) → F (some (.int 0)) (X, b, zLay, K, B, M))
    (k2 : (¬ p < (0 : Int32)) → ((M 1 1) ≤ p) → F (some (.int 0)) (X, b, zLay, K, B, M))
    (k3 : (¬ p < (0 : Int32)) → (¬ (M 1 1) ≤ p) → F (some (.int 1)) (X, b, zLay, K, B, M)) :
    zCall (d + 1) zm_Boats_isPlace [.ref 0, .int p] (X, b, zLay, K, B, M) F :=
  zc_of [.ref 0, .int p] (rfl : zinfL[zm_Boats_isPlace]? = _) rfl rfl (
  zr_iload_n 1 rfl rfl rfl <| zr_if 4 rfl rfl (fun c1_0 => zr_iconst 20 rfl rfl <| zr_zreturn rfl rfl (Or.inl rfl) (k1 c1_0)) (fun c1_0 => zr_iload_n 5 rfl rfl rfl <| zr_aload_n 6 rfl rfl rfl <| zr_getr 9 rfl rfl rfl rfl rfl (hK 0 0 1 rfl) <| zr_geti 12 rfl rfl rfl rfl rfl <| zr_ic 15 rfl rfl (fun c12_1 => zr_iconst 20 rfl rfl <| zr_zreturn rfl rfl (Or.inl rfl) (k2 c1_0 c12_1)) (fun c12_1 => zr_iconst 16 rfl rfl <| zr_goto rfl <| zr_zreturn rfl rfl (Or.inr rfl) (k3 c1_0 c12_1))))
theorem zb_Boats_isBoat_0 {d : Nat} {F : Option Value → zS → Prop} {X : zX} {b : Nat × Nat} {K : Nat → Nat → Option Nat} {B : Nat → Nat → Int64} {M : Nat → Nat → Int32} (hK : zKok K)  (p : Int32) 
    (k1 : (p < (0 : Int32)) → F (some (.int 0)) (X, b, zLay, K, B, M))
    (k2 : (¬ p < (0 : Int32)) → ((M 13 0) ≤ p) → F (some (.int 0)) (X, b, zLay, K, B, M))
    (k3 : (¬ p < (0 : Int32)) → (¬ (M 13 0) ≤ p) → F (some (.int 1)) (X, b, zLay, K, B, M)) :
    zCall (d + 1) zm_Boats_isBoat [.ref 0, .int p] (X, b, zLay, K, B, M) F :=
  zc_of [.ref 0, .int p] (rfl : zinfL[zm_Boats_isBoat]? = _) rfl rfl (
  zr_iload_n 1 rfl rfl rfl <| zr_if 4 rfl rfl (fun c1_0 => zr_iconst 20 rfl rfl <| zr_zreturn rfl rfl (Or.inl rfl) (k1 c1_0)) (fun c1_0 => zr_iload_n 5 rfl rfl rfl <| zr_aload_n 6 rfl rfl rfl <| zr_getr 9 rfl rfl rfl rfl rfl (hK 0 1 13 rfl) <| zr_geti 12 rfl rfl rfl rfl rfl <| zr_ic 15 rfl rfl (fun c12_1 => zr_iconst 20 rfl rfl <| zr_zreturn rfl rfl (Or.inl rfl) (k2 c1_0 c12_1)) (fun c12_1 => zr_iconst 16 rfl rfl <| zr_goto rfl <| zr_zreturn rfl rfl (Or.inr rfl) (k3 c1_0 c12_1))))
theorem zb_Boats_isRule_0 {d : Nat} {F : Option Value → zS → Prop} {X : zX} {b : Nat × Nat} {K : Nat → Nat → Option Nat} {B : Nat → Nat → Int64} {M : Nat → Nat → Int32}  (p : Int32) 
    (k1 : (p < (-1 : Int32)) → F (some (.int 0)) (X, b, zLay, K, B, M))
    (k2 : (¬ p < (-1 : Int32)) → ((M 0 7) ≤ p) → F (some (.int 0)) (X, b, zLay, K, B, M))
    (k3 : (¬ p < (-1 : Int32)) → (¬ (M 0 7) ≤ p) → F (some (.int 1)) (X, b, zLay, K, B, M)) :
    zCall (d + 1) zm_Boats_isRule [.ref 0, .int p] (X, b, zLay, K, B, M) F :=
  zc_of [.ref 0, .int p] (rfl : zinfL[zm_Boats_isRule]? = _) rfl rfl (
  zr_iload_n 1 rfl rfl rfl <| zr_iconst 2 rfl rfl <| zr_ic 5 rfl rfl (fun c2_0 => zr_iconst 18 rfl rfl <| zr_zreturn rfl rfl (Or.inl rfl) (k1 c2_0)) (fun c2_0 => zr_iload_n 6 rfl rfl rfl <| zr_aload_n 7 rfl rfl rfl <| zr_geti 10 rfl rfl rfl rfl rfl <| zr_ic 13 rfl rfl (fun c10_1 => zr_iconst 18 rfl rfl <| zr_zreturn rfl rfl (Or.inl rfl) (k2 c2_0 c10_1)) (fun c10_1 => zr_iconst 14 rfl rfl <| zr_goto rfl <| zr_zreturn rfl rfl (Or.inr rfl) (k3 c2_0 c10_1))))
theorem zb_Boats_isDay_0 {d : Nat} {F : Option Value → zS → Prop} {X : zX} {b : Nat × Nat} {K : Nat → Nat → Option Nat} {B : Nat → Nat → Int64} {M : Nat → Nat → Int32}  (p : Int32) 
    (k1 : (p < (0 : Int32)) → F (some (.int 0)) (X, b, zLay, K, B, M))
    (k2 : (¬ p < (0 : Int32)) → ((60 : Int32) ≤ p) → F (some (.int 0)) (X, b, zLay, K, B, M))
    (k3 : (¬ p < (0 : Int32)) → (¬ (60 : Int32) ≤ p) → F (some (.int 1)) (X, b, zLay, K, B, M)) :
    zCall (d + 1) zm_Boats_isDay [.int p] (X, b, zLay, K, B, M) F :=
  zc_of [.int p] (rfl : zinfL[zm_Boats_isDay]? = _) rfl rfl (
  zr_iload_n 1 rfl rfl rfl <| zr_if 4 rfl rfl (fun c1_0 => zr_iconst 15 rfl rfl <| zr_zreturn rfl rfl (Or.inl rfl) (k1 c1_0)) (fun c1_0 => zr_iload_n 5 rfl rfl rfl <| zr_bipush 7 rfl rfl <| zr_ic 10 rfl rfl (fun c7_1 => zr_iconst 15 rfl rfl <| zr_zreturn rfl rfl (Or.inl rfl) (k2 c1_0 c7_1)) (fun c7_1 => zr_iconst 11 rfl rfl <| zr_goto rfl <| zr_zreturn rfl rfl (Or.inr rfl) (k3 c1_0 c7_1))))
theorem zb_Boats_isZeroOrOne_0 {d : Nat} {F : Option Value → zS → Prop} {X : zX} {b : Nat × Nat} {K : Nat → Nat → Option Nat} {B : Nat → Nat → Int64} {M : Nat → Nat → Int32}  (p : Int32) 
    (k1 : (p = (0 : Int32)) → F (some (.int 1)) (X, b, zLay, K, B, M))
    (k2 : (¬ p = (0 : Int32)) → (¬ p = (1 : Int32)) → F (some (.int 0)) (X, b, zLay, K, B, M))
    (k3 : (¬ p = (0 : Int32)) → (p = (1 : Int32)) → F (some (.int 1)) (X, b, zLay, K, B, M)) :
    zCall (d + 1) zm_Boats_isZeroOrOne [.int p] (X, b, zLay, K, B, M) F :=
  zc_of [.int p] (rfl : zinfL[zm_Boats_isZeroOrOne]? = _) rfl rfl (
  zr_iload_n 1 rfl rfl rfl <| zr_if 4 rfl rfl (fun c1_0 => zr_iconst 10 rfl rfl <| zr_goto rfl <| zr_zreturn rfl rfl (Or.inr rfl) (k1 c1_0)) (fun c1_0 => zr_iload_n 5 rfl rfl rfl <| zr_iconst 6 rfl rfl <| zr_ic 9 rfl rfl (fun c6_1 => zr_iconst 14 rfl rfl <| zr_zreturn rfl rfl (Or.inl rfl) (k2 c1_0 c6_1)) (fun c6_1 => zr_iconst 10 rfl rfl <| zr_goto rfl <| zr_zreturn rfl rfl (Or.inr rfl) (k3 c1_0 (Decidable.not_not.mp c6_1)))))
theorem zb_Model_in_0 {d : Nat} {F : Option Value → zS → Prop} {X : zX} {b : Nat × Nat} {K : Nat → Nat → Option Nat} {B : Nat → Nat → Int64} {M : Nat → Nat → Int32}  (v : Int32) (lo : Int32) (hi : Int32) 
    (k1 : (v < lo) → F (some (.int 0)) (X, b, zLay, K, B, M))
    (k2 : (¬ v < lo) → (hi < v) → F (some (.int 0)) (X, b, zLay, K, B, M))
    (k3 : (¬ v < lo) → (¬ hi < v) → F (some (.int 1)) (X, b, zLay, K, B, M)) :
    zCall (d + 1) zm_Model_in [.int v, .int lo, .int hi] (X, b, zLay, K, B, M) F :=
  zc_of [.int v, .int lo, .int hi] (rfl : zinfL[zm_Model_in]? = _) rfl rfl (
  zr_iload_n 1 rfl rfl rfl <| zr_iload_n 2 rfl rfl rfl <| zr_ic 5 rfl rfl (fun c2_0 => zr_iconst 15 rfl rfl <| zr_zreturn rfl rfl (Or.inl rfl) (k1 c2_0)) (fun c2_0 => zr_iload_n 6 rfl rfl rfl <| zr_iload_n 7 rfl rfl rfl <| zr_ic 10 rfl rfl (fun c7_1 => zr_iconst 15 rfl rfl <| zr_zreturn rfl rfl (Or.inl rfl) (k2 c2_0 c7_1)) (fun c7_1 => zr_iconst 11 rfl rfl <| zr_goto rfl <| zr_zreturn rfl rfl (Or.inr rfl) (k3 c2_0 c7_1))))
theorem sp_isPlace {d : Nat} {F : Option Value → zS → Prop} {X : zX} {b : Nat × Nat} {K : Nat → Nat → Option Nat} {B : Nat → Nat → Int64} {M : Nat → Nat → Int32} (hK : zKok K) {p : Int32} (k : F (some (.int (zbi (decide (0 ≤ p ∧ p < M 1 1))))) (X, b, zLay, K, B, M)) : zCall (d + 1) zm_Boats_isPlace [.ref 0, .int p] (X, b, zLay, K, B, M) F := by
  refine zb_Boats_isPlace_0 hK _ (fun h1 => ?_) (fun h1 h2 => ?_) (fun h1 h2 => ?_)
  · rw [show decide (0 ≤ p ∧ p < M 1 1) = false from decide_eq_false (fun h => absurd h1 (Int32.not_lt.mpr h.1))] at k; exact k
  · rw [show decide (0 ≤ p ∧ p < M 1 1) = false from decide_eq_false (fun h => absurd h2 (Int32.not_le.mpr h.2))] at k; exact k
  · rw [show decide (0 ≤ p ∧ p < M 1 1) = true from decide_eq_true ⟨Int32.not_lt.mp h1, Int32.not_le.mp h2⟩] at k; exact k
theorem sp_isBoat {d : Nat} {F : Option Value → zS → Prop} {X : zX} {b : Nat × Nat} {K : Nat → Nat → Option Nat} {B : Nat → Nat → Int64} {M : Nat → Nat → Int32} (hK : zKok K) {p : Int32} (k : F (some (.int (zbi (decide (0 ≤ p ∧ p < M 13 0))))) (X, b, zLay, K, B, M)) : zCall (d + 1) zm_Boats_isBoat [.ref 0, .int p] (X, b, zLay, K, B, M) F := by
  refine zb_Boats_isBoat_0 hK _ (fun h1 => ?_) (fun h1 h2 => ?_) (fun h1 h2 => ?_)
  · rw [show decide (0 ≤ p ∧ p < M 13 0) = false from decide_eq_false (fun h => absurd h1 (Int32.not_lt.mpr h.1))] at k; exact k
  · rw [show decide (0 ≤ p ∧ p < M 13 0) = false from decide_eq_false (fun h => absurd h2 (Int32.not_le.mpr h.2))] at k; exact k
  · rw [show decide (0 ≤ p ∧ p < M 13 0) = true from decide_eq_true ⟨Int32.not_lt.mp h1, Int32.not_le.mp h2⟩] at k; exact k
theorem sp_isRule {d : Nat} {F : Option Value → zS → Prop} {X : zX} {b : Nat × Nat} {K : Nat → Nat → Option Nat} {B : Nat → Nat → Int64} {M : Nat → Nat → Int32} {p : Int32} (k : F (some (.int (zbi (decide ((-1) ≤ p ∧ p < M 0 7))))) (X, b, zLay, K, B, M)) : zCall (d + 1) zm_Boats_isRule [.ref 0, .int p] (X, b, zLay, K, B, M) F := by
  refine zb_Boats_isRule_0 _ (fun h1 => ?_) (fun h1 h2 => ?_) (fun h1 h2 => ?_)
  · rw [show decide ((-1) ≤ p ∧ p < M 0 7) = false from decide_eq_false (fun h => absurd h1 (Int32.not_lt.mpr h.1))] at k; exact k
  · rw [show decide ((-1) ≤ p ∧ p < M 0 7) = false from decide_eq_false (fun h => absurd h2 (Int32.not_le.mpr h.2))] at k; exact k
  · rw [show decide ((-1) ≤ p ∧ p < M 0 7) = true from decide_eq_true ⟨Int32.not_lt.mp h1, Int32.not_le.mp h2⟩] at k; exact k
theorem sp_isDay {d : Nat} {F : Option Value → zS → Prop} {X : zX} {b : Nat × Nat} {K : Nat → Nat → Option Nat} {B : Nat → Nat → Int64} {M : Nat → Nat → Int32} {p : Int32} (k : F (some (.int (zbi (decide (0 ≤ p ∧ p < 60))))) (X, b, zLay, K, B, M)) : zCall (d + 1) zm_Boats_isDay [.int p] (X, b, zLay, K, B, M) F := by
  refine zb_Boats_isDay_0 _ (fun h1 => ?_) (fun h1 h2 => ?_) (fun h1 h2 => ?_)
  · rw [show decide (0 ≤ p ∧ p < 60) = false from decide_eq_false (fun h => absurd h1 (Int32.not_lt.mpr h.1))] at k; exact k
  · rw [show decide (0 ≤ p ∧ p < 60) = false from decide_eq_false (fun h => absurd h2 (Int32.not_le.mpr h.2))] at k; exact k
  · rw [show decide (0 ≤ p ∧ p < 60) = true from decide_eq_true ⟨Int32.not_lt.mp h1, Int32.not_le.mp h2⟩] at k; exact k
theorem sp_in {d : Nat} {F : Option Value → zS → Prop} {X : zX} {b : Nat × Nat} {K : Nat → Nat → Option Nat} {B : Nat → Nat → Int64} {M : Nat → Nat → Int32} {v lo hi : Int32} (k : F (some (.int (zbi (decide (lo ≤ v ∧ v ≤ hi))))) (X, b, zLay, K, B, M)) : zCall (d + 1) zm_Model_in [.int v, .int lo, .int hi] (X, b, zLay, K, B, M) F := by
  refine zb_Model_in_0 _ _ _ (fun h1 => ?_) (fun h1 h2 => ?_) (fun h1 h2 => ?_)
  · rw [show decide (lo ≤ v ∧ v ≤ hi) = false from decide_eq_false (fun h => absurd h1 (Int32.not_lt.mpr h.1))] at k; exact k
  · rw [show decide (lo ≤ v ∧ v ≤ hi) = false from decide_eq_false (fun h => absurd h2 (Int32.not_lt.mpr h.2))] at k; exact k
  · rw [show decide (lo ≤ v ∧ v ≤ hi) = true from decide_eq_true ⟨Int32.not_lt.mp h1, Int32.not_lt.mp h2⟩] at k; exact k
theorem sp_isZeroOrOne {d : Nat} {F : Option Value → zS → Prop} {X : zX} {b : Nat × Nat} {K : Nat → Nat → Option Nat} {B : Nat → Nat → Int64} {M : Nat → Nat → Int32} {p : Int32} (k : F (some (.int (zbi (decide (p = 0 ∨ p = 1))))) (X, b, zLay, K, B, M)) : zCall (d + 1) zm_Boats_isZeroOrOne [.int p] (X, b, zLay, K, B, M) F := by
  refine zb_Boats_isZeroOrOne_0 _ (fun h1 => ?_) (fun h1 h2 => ?_) (fun h1 h2 => ?_)
  · rw [show decide (p = 0 ∨ p = 1) = true from decide_eq_true (Or.inl h1)] at k; exact k
  · rw [show decide (p = 0 ∨ p = 1) = false from decide_eq_false (fun h => h.elim h1 h2)] at k; exact k
  · rw [show decide (p = 0 ∨ p = 1) = true from decide_eq_true (Or.inr h2)] at k; exact k
theorem zb_Boats_isSpan_0 {d : Nat} {F : Option Value → zS → Prop} {X : zX} {b : Nat × Nat} {K : Nat → Nat → Option Nat} {B : Nat → Nat → Int64} {M : Nat → Nat → Int32}  (f : Int32) (t : Int32) 
    (k1 : (¬ (0 ≤ f ∧ f < 60)) → F (some (.int 0)) (X, b, zLay, K, B, M))
    (k2 : (0 ≤ f ∧ f < 60) → (¬ (0 ≤ t ∧ t < 60)) → F (some (.int 0)) (X, b, zLay, K, B, M))
    (k3 : (0 ≤ f ∧ f < 60) → (0 ≤ t ∧ t < 60) → (t < f) → F (some (.int 0)) (X, b, zLay, K, B, M))
    (k4 : (0 ≤ f ∧ f < 60) → (0 ≤ t ∧ t < 60) → (¬ t < f) → F (some (.int 1)) (X, b, zLay, K, B, M)) :
    zCall (d + 2) zm_Boats_isSpan [.int f, .int t] (X, b, zLay, K, B, M) F :=
  zc_of [.int f, .int t] (rfl : zinfL[zm_Boats_isSpan]? = _) rfl rfl (
  zr_iload_n 1 rfl rfl rfl <| zr_static 4 rfl rfl rfl rfl rfl rfl rfl <| sp_isDay <| zr_if 7 rfl rfl (fun c4_0 => zr_iconst 24 rfl rfl <| zr_zreturn rfl rfl (Or.inl rfl) (k1 (zbi_0 c4_0))) (fun c4_0 => zr_iload_n 8 rfl rfl rfl <| zr_static 11 rfl rfl rfl rfl rfl rfl rfl <| sp_isDay <| zr_if 14 rfl rfl (fun c11_1 => zr_iconst 24 rfl rfl <| zr_zreturn rfl rfl (Or.inl rfl) (k2 (zbi_1 c4_0) (zbi_0 c11_1))) (fun c11_1 => zr_iload_n 15 rfl rfl rfl <| zr_iload_n 16 rfl rfl rfl <| zr_ic 19 rfl rfl (fun c16_2 => zr_iconst 24 rfl rfl <| zr_zreturn rfl rfl (Or.inl rfl) (k3 (zbi_1 c4_0) (zbi_1 c11_1) c16_2)) (fun c16_2 => zr_iconst 20 rfl rfl <| zr_goto rfl <| zr_zreturn rfl rfl (Or.inr rfl) (k4 (zbi_1 c4_0) (zbi_1 c11_1) c16_2)))))
theorem zb_Model_isPlace_0 {d : Nat} {F : Option Value → zS → Prop} {X : zX} {b : Nat × Nat} {K : Nat → Nat → Option Nat} {B : Nat → Nat → Int64} {M : Nat → Nat → Int32} (hK : zKok K)  (p : Int32) 
    (k1 : F (some (.int (zbi (decide ((0 : Int32) ≤ p ∧ p ≤ ((M 72 0) - 1)))))) (X, b, zLay, K, B, M)) :
    zCall (d + 2) zm_Model_isPlace [.ref 71, .int p] (X, b, zLay, K, B, M) F :=
  zc_of [.ref 71, .int p] (rfl : zinfL[zm_Model_isPlace]? = _) rfl rfl (
  zr_iload_n 1 rfl rfl rfl <| zr_iconst 2 rfl rfl <| zr_aload_n 3 rfl rfl rfl <| zr_getr 6 rfl rfl rfl rfl rfl (hK 71 0 72 rfl) <| zr_iconst 7 rfl rfl <| zr_iaload 8 rfl rfl rfl (zvin rfl) <| zr_iconst 9 rfl rfl <| zr_ibin 10 rfl rfl rfl <| zr_static 13 rfl rfl rfl rfl rfl rfl rfl <| sp_in <| zr_zreturn rfl rfl (zbi_01 _) k1)
theorem zb_Model_isBoat_0 {d : Nat} {F : Option Value → zS → Prop} {X : zX} {b : Nat × Nat} {K : Nat → Nat → Option Nat} {B : Nat → Nat → Int64} {M : Nat → Nat → Int32} (hK : zKok K)  (p : Int32) 
    (k1 : F (some (.int (zbi (decide ((0 : Int32) ≤ p ∧ p ≤ ((M 72 4) - 1)))))) (X, b, zLay, K, B, M)) :
    zCall (d + 2) zm_Model_isBoat [.ref 71, .int p] (X, b, zLay, K, B, M) F :=
  zc_of [.ref 71, .int p] (rfl : zinfL[zm_Model_isBoat]? = _) rfl rfl (
  zr_iload_n 1 rfl rfl rfl <| zr_iconst 2 rfl rfl <| zr_aload_n 3 rfl rfl rfl <| zr_getr 6 rfl rfl rfl rfl rfl (hK 71 0 72 rfl) <| zr_iconst 7 rfl rfl <| zr_iaload 8 rfl rfl rfl (zvin rfl) <| zr_iconst 9 rfl rfl <| zr_ibin 10 rfl rfl rfl <| zr_static 13 rfl rfl rfl rfl rfl rfl rfl <| sp_in <| zr_zreturn rfl rfl (zbi_01 _) k1)
theorem zb_Model_isDay_0 {d : Nat} {F : Option Value → zS → Prop} {X : zX} {b : Nat × Nat} {K : Nat → Nat → Option Nat} {B : Nat → Nat → Int64} {M : Nat → Nat → Int32}  (p : Int32) 
    (k1 : F (some (.int (zbi (decide ((0 : Int32) ≤ p ∧ p ≤ (59 : Int32)))))) (X, b, zLay, K, B, M)) :
    zCall (d + 2) zm_Model_isDay [.int p] (X, b, zLay, K, B, M) F :=
  zc_of [.int p] (rfl : zinfL[zm_Model_isDay]? = _) rfl rfl (
  zr_iload_n 1 rfl rfl rfl <| zr_iconst 2 rfl rfl <| zr_bipush 4 rfl rfl <| zr_static 7 rfl rfl rfl rfl rfl rfl rfl <| sp_in <| zr_zreturn rfl rfl (zbi_01 _) k1)
theorem zb_Model_isRule_0 {d : Nat} {F : Option Value → zS → Prop} {X : zX} {b : Nat × Nat} {K : Nat → Nat → Option Nat} {B : Nat → Nat → Int64} {M : Nat → Nat → Int32} (hK : zKok K)  (p : Int32) 
    (k1 : F (some (.int (zbi (decide ((-1 : Int32) ≤ p ∧ p ≤ ((M 72 7) - 1)))))) (X, b, zLay, K, B, M)) :
    zCall (d + 2) zm_Model_isRule [.ref 71, .int p] (X, b, zLay, K, B, M) F :=
  zc_of [.ref 71, .int p] (rfl : zinfL[zm_Model_isRule]? = _) rfl rfl (
  zr_iload_n 1 rfl rfl rfl <| zr_iconst 2 rfl rfl <| zr_aload_n 3 rfl rfl rfl <| zr_getr 6 rfl rfl rfl rfl rfl (hK 71 0 72 rfl) <| zr_bipush 8 rfl rfl <| zr_iaload 9 rfl rfl rfl (zvin rfl) <| zr_iconst 10 rfl rfl <| zr_ibin 11 rfl rfl rfl <| zr_static 14 rfl rfl rfl rfl rfl rfl rfl <| sp_in <| zr_zreturn rfl rfl (zbi_01 _) k1)
theorem sp_MisPlace {d : Nat} {F : Option Value → zS → Prop} {X : zX} {b : Nat × Nat} {K : Nat → Nat → Option Nat} {B : Nat → Nat → Int64} {M : Nat → Nat → Int32} (hK : zKok K) {p : Int32} (k : F (some (.int (zbi (decide (0 ≤ p ∧ p ≤ M 72 0 - 1))))) (X, b, zLay, K, B, M)) : zCall (d + 2) zm_Model_isPlace [.ref 71, .int p] (X, b, zLay, K, B, M) F := by
  exact zb_Model_isPlace_0 hK _ k
theorem sp_MisBoat {d : Nat} {F : Option Value → zS → Prop} {X : zX} {b : Nat × Nat} {K : Nat → Nat → Option Nat} {B : Nat → Nat → Int64} {M : Nat → Nat → Int32} (hK : zKok K) {p : Int32} (k : F (some (.int (zbi (decide (0 ≤ p ∧ p ≤ M 72 4 - 1))))) (X, b, zLay, K, B, M)) : zCall (d + 2) zm_Model_isBoat [.ref 71, .int p] (X, b, zLay, K, B, M) F := by
  exact zb_Model_isBoat_0 hK _ k
theorem sp_MisRule {d : Nat} {F : Option Value → zS → Prop} {X : zX} {b : Nat × Nat} {K : Nat → Nat → Option Nat} {B : Nat → Nat → Int64} {M : Nat → Nat → Int32} (hK : zKok K) {p : Int32} (k : F (some (.int (zbi (decide ((-1) ≤ p ∧ p ≤ M 72 7 - 1))))) (X, b, zLay, K, B, M)) : zCall (d + 2) zm_Model_isRule [.ref 71, .int p] (X, b, zLay, K, B, M) F := by
  exact zb_Model_isRule_0 hK _ k
theorem sp_MisDay {d : Nat} {F : Option Value → zS → Prop} {X : zX} {b : Nat × Nat} {K : Nat → Nat → Option Nat} {B : Nat → Nat → Int64} {M : Nat → Nat → Int32} {p : Int32} (k : F (some (.int (zbi (decide (0 ≤ p ∧ p ≤ 59))))) (X, b, zLay, K, B, M)) : zCall (d + 2) zm_Model_isDay [.int p] (X, b, zLay, K, B, M) F := by
  exact zb_Model_isDay_0 _ k
theorem sp_isSpan {d : Nat} {F : Option Value → zS → Prop} {X : zX} {b : Nat × Nat} {K : Nat → Nat → Option Nat} {B : Nat → Nat → Int64} {M : Nat → Nat → Int32} {f t : Int32} (k : F (some (.int (zbi (decide ((0 ≤ f ∧ f < 60) ∧ (0 ≤ t ∧ t < 60) ∧ f ≤ t))))) (X, b, zLay, K, B, M)) : zCall (d + 2) zm_Boats_isSpan [.int f, .int t] (X, b, zLay, K, B, M) F := by
  refine zb_Boats_isSpan_0 _ _ (fun h1 => ?_) (fun h1 h2 => ?_) (fun h1 h2 h3 => ?_) (fun h1 h2 h3 => ?_)
  · rw [show decide ((0 ≤ f ∧ f < 60) ∧ (0 ≤ t ∧ t < 60) ∧ f ≤ t) = false from decide_eq_false (fun h => h1 h.1)] at k; exact k
  · rw [show decide ((0 ≤ f ∧ f < 60) ∧ (0 ≤ t ∧ t < 60) ∧ f ≤ t) = false from decide_eq_false (fun h => h2 h.2.1)] at k; exact k
  · rw [show decide ((0 ≤ f ∧ f < 60) ∧ (0 ≤ t ∧ t < 60) ∧ f ≤ t) = false from decide_eq_false (fun h => absurd h3 (Int32.not_lt.mpr h.2.2))] at k; exact k
  · rw [show decide ((0 ≤ f ∧ f < 60) ∧ (0 ≤ t ∧ t < 60) ∧ f ≤ t) = true from decide_eq_true ⟨h1, h2, Int32.not_lt.mp h3⟩] at k; exact k
