/-! ===== far: blocks of the operation ===== -/
theorem zb_Boats_farR_0 {d : Nat} {F : Option Value → zS → Prop} {X : zX} {b : Nat × Nat} {K : Nat → Nat → Option Nat} {B : Nat → Nat → Int64} {M : Nat → Nat → Int32}  (a0 : Int32) (a1 : Int32) (a2 : Int32)   
    (k1 : (¬ (a2 = 0 ∨ a2 = 1)) → F (some (.int (-1))) (X, b, zLay, K, B, M))
    (k2 : (a2 = 0 ∨ a2 = 1) → zCall (d + 29) zm_Boats_hasJourneys [.ref 0, .int a0, .int a1] (X, (0, 0), zLay, K, B, M) (zGo (d + 29) 9 false 1 zc_Boats_far F 13 [.ref 0, .int a0, .int a1, .int a2] [] b)) :
    zCall (d + 30) zm_Boats_far [.ref 0, .int a0, .int a1, .int a2] (X, b, zLay, K, B, M) F :=
  zc_of [.ref 0, .int a0, .int a1, .int a2] (rfl : zinfL[zm_Boats_far]? = _) rfl rfl (
  zr_iload_n 1 rfl rfl rfl <| zr_static 4 rfl rfl rfl rfl rfl rfl rfl <| sp_isZeroOrOne <| zr_if 7 rfl rfl (fun h0 => have csfar4_0 : ¬ (a2 = 0 ∨ a2 = 1) := (zbi_0 h0); zr_iconst 17 rfl rfl <| zr_ireturn rfl rfl (k1 csfar4_0)) (fun h0 => have csfar4_0 : a2 = 0 ∨ a2 = 1 := (zbi_1 h0); zr_aload_n 8 rfl rfl rfl <| zr_iload_n 9 rfl rfl rfl <| zr_iload_n 10 rfl rfl rfl <| zr_virt 13 rfl rfl rfl rfl rfl rfl rfl rfl <| (k2 csfar4_0)))
theorem zb_Boats_farN_13 {d : Nat} {F : Option Value → zS → Prop} {X : zX} {b : Nat × Nat} {K : Nat → Nat → Option Nat} {B : Nat → Nat → Int64} {M : Nat → Nat → Int32}   (a0 : Int32) (a1 : Int32) (a2 : Int32)   
    (k1 : F (some (.int (-1))) (X, b, zLay, K, B, M)) :
    zEx (zCall (d + 29)) 9 false 1 zc_Boats_far F 13 [.ref 0, .int a0, .int a1, .int a2] [.int 0] (X, b, zLay, K, B, M) :=
  zr_if 16 rfl rfl (fun h => absurd h (show ¬ (¬ (0 : Int32) = (0 : Int32)) by decide)) (fun _ => zr_iconst 17 rfl rfl <| zr_ireturn rfl rfl k1)
theorem zb_Boats_farP_13 {d : Nat} {F : Option Value → zS → Prop} {X : zX} {b : Nat × Nat} {K : Nat → Nat → Option Nat} {B : Nat → Nat → Int64} {M : Nat → Nat → Int32} (hK : zKok K)   (a0 : Int32) (a1 : Int32) (a2 : Int32)   
    (k1 : (¬ a2 = (0 : Int32)) → zCall (d + 29) zm_Journeys_mostMiles [.ref 41] (X, (0, 0), zLay, K, B, M) (zGo (d + 29) 9 false 1 zc_Boats_far F 39 [.ref 0, .int a0, .int a1, .int a2] [] b))
    (k2 : (a2 = (0 : Int32)) → zCall (d + 29) zm_Journeys_leastMiles [.ref 41] (X, (0, 0), zLay, K, B, M) (zGo (d + 29) 9 false 1 zc_Boats_far F 29 [.ref 0, .int a0, .int a1, .int a2] [] b)) :
    zEx (zCall (d + 29)) 9 false 1 zc_Boats_far F 13 [.ref 0, .int a0, .int a1, .int a2] [.int 1] (X, b, zLay, K, B, M) :=
  zr_if 16 rfl rfl (fun _ => zr_iload_n 19 rfl rfl rfl <| zr_if 22 rfl rfl (fun h0 => have csfar19_0 : ¬ a2 = (0 : Int32) := h0; zr_aload_n 33 rfl rfl rfl <| zr_getr 36 rfl rfl rfl rfl rfl (hK 0 9 41 rfl) <| zr_virt 39 rfl rfl rfl rfl rfl rfl rfl rfl <| (k1 csfar19_0)) (fun h0 => have csfar19_0 : a2 = (0 : Int32) := Decidable.not_not.mp h0; zr_aload_n 23 rfl rfl rfl <| zr_getr 26 rfl rfl rfl rfl rfl (hK 0 9 41 rfl) <| zr_virt 29 rfl rfl rfl rfl rfl rfl rfl rfl <| (k2 csfar19_0))) (fun h => absurd (show ¬ (1 : Int32) = (0 : Int32) by decide) h)
theorem zb_Boats_farP_29 {d : Nat} {F : Option Value → zS → Prop} {X : zX} {b : Nat × Nat} {K : Nat → Nat → Option Nat} {B : Nat → Nat → Int64} {M : Nat → Nat → Int32}   (a0 : Int32) (a1 : Int32) (a2 : Int32) (s0 : Int32)   
    (k1 : F (some (.int s0)) (X, b, zLay, K, B, M)) :
    zEx (zCall (d + 29)) 9 false 1 zc_Boats_far F 29 [.ref 0, .int a0, .int a1, .int a2] [.int s0] (X, b, zLay, K, B, M) :=
  zr_goto rfl <| zr_ireturn rfl rfl k1
theorem zb_Boats_farP_39 {d : Nat} {F : Option Value → zS → Prop} {X : zX} {b : Nat × Nat} {K : Nat → Nat → Option Nat} {B : Nat → Nat → Int64} {M : Nat → Nat → Int32}   (a0 : Int32) (a1 : Int32) (a2 : Int32) (s0 : Int32)   
    (k1 : F (some (.int s0)) (X, b, zLay, K, B, M)) :
    zEx (zCall (d + 29)) 9 false 1 zc_Boats_far F 39 [.ref 0, .int a0, .int a1, .int a2] [.int s0] (X, b, zLay, K, B, M) :=
  zr_ireturn rfl rfl k1
theorem zb_Model_farR_0 {d : Nat} {F : Option Value → zS → Prop} {X : zX} {b : Nat × Nat} {K : Nat → Nat → Option Nat} {B : Nat → Nat → Int64} {M : Nat → Nat → Int32}  (a0 : Int32) (a1 : Int32) (a2 : Int32)   
    (k1 : (¬ ((0 : Int32) ≤ a2 ∧ a2 ≤ (1 : Int32))) → F (some (.int (-1))) (X, b, zLay, K, B, M))
    (k2 : ((0 : Int32) ≤ a2 ∧ a2 ≤ (1 : Int32)) → zCall (d + 29) zm_Model_canAsk [.ref 71, .int a0, .int (-1), .int a1] (X, (0, 0), zLay, K, B, M) (zGo (d + 29) 10 false 1 zc_Model_far F 16 [.ref 71, .int a0, .int a1, .int a2] [] b)) :
    zCall (d + 30) zm_Model_far [.ref 71, .int a0, .int a1, .int a2] (X, b, zLay, K, B, M) F :=
  zc_of [.ref 71, .int a0, .int a1, .int a2] (rfl : zinfL[zm_Model_far]? = _) rfl rfl (
  zr_iload_n 1 rfl rfl rfl <| zr_iconst 2 rfl rfl <| zr_iconst 3 rfl rfl <| zr_static 6 rfl rfl rfl rfl rfl rfl rfl <| sp_in <| zr_if 9 rfl rfl (fun h0 => have clfar6_0 : ¬ ((0 : Int32) ≤ a2 ∧ a2 ≤ (1 : Int32)) := (zbi_0 h0); zr_iconst 37 rfl rfl <| zr_ireturn rfl rfl (k1 clfar6_0)) (fun h0 => have clfar6_0 : (0 : Int32) ≤ a2 ∧ a2 ≤ (1 : Int32) := (zbi_1 h0); zr_aload_n 10 rfl rfl rfl <| zr_iload_n 11 rfl rfl rfl <| zr_iconst 12 rfl rfl <| zr_iload_n 13 rfl rfl rfl <| zr_virt 16 rfl rfl rfl rfl rfl rfl rfl rfl <| (k2 clfar6_0)))
theorem zb_Model_farN_16 {d : Nat} {F : Option Value → zS → Prop} {X : zX} {b : Nat × Nat} {K : Nat → Nat → Option Nat} {B : Nat → Nat → Int64} {M : Nat → Nat → Int32}   (a0 : Int32) (a1 : Int32) (a2 : Int32)   
    (k1 : F (some (.int (-1))) (X, b, zLay, K, B, M)) :
    zEx (zCall (d + 29)) 10 false 1 zc_Model_far F 16 [.ref 71, .int a0, .int a1, .int a2] [.int 0] (X, b, zLay, K, B, M) :=
  zr_if 19 rfl rfl (fun _ => zr_iconst 37 rfl rfl <| zr_ireturn rfl rfl k1) (fun h => absurd (show (0 : Int32) = (0 : Int32) by decide) h)
theorem zb_Model_farP_16 {d : Nat} {F : Option Value → zS → Prop} {X : zX} {b : Nat × Nat} {K : Nat → Nat → Option Nat} {B : Nat → Nat → Int64} {M : Nat → Nat → Int32}   (a0 : Int32) (a1 : Int32) (a2 : Int32)   
    (k1 : (¬ a2 = (1 : Int32)) → zCall (d + 29) zm_Model_farOf [.ref 71, .int 0] (X, (0, 0), zLay, K, B, M) (zGo (d + 29) 10 false 1 zc_Model_far F 33 [.ref 71, .int a0, .int a1, .int a2] [] b))
    (k2 : (a2 = (1 : Int32)) → zCall (d + 29) zm_Model_farOf [.ref 71, .int 1] (X, (0, 0), zLay, K, B, M) (zGo (d + 29) 10 false 1 zc_Model_far F 33 [.ref 71, .int a0, .int a1, .int a2] [] b)) :
    zEx (zCall (d + 29)) 10 false 1 zc_Model_far F 16 [.ref 71, .int a0, .int a1, .int a2] [.int 1] (X, b, zLay, K, B, M) :=
  zr_if 19 rfl rfl (fun h => absurd h (show ¬ ((1 : Int32) = (0 : Int32)) by decide)) (fun _ => zr_aload_n 20 rfl rfl rfl <| zr_iload_n 21 rfl rfl rfl <| zr_iconst 22 rfl rfl <| zr_ic 25 rfl rfl (fun h0 => have clfar22_0 : ¬ a2 = (1 : Int32) := h0; zr_iconst 30 rfl rfl <| zr_virt 33 rfl rfl rfl rfl rfl rfl rfl rfl <| (k1 clfar22_0)) (fun h0 => have clfar22_0 : a2 = (1 : Int32) := Decidable.not_not.mp h0; zr_iconst 26 rfl rfl <| zr_goto rfl <| zr_virt 33 rfl rfl rfl rfl rfl rfl rfl rfl <| (k2 clfar22_0)))
theorem zb_Model_farP_33 {d : Nat} {F : Option Value → zS → Prop} {X : zX} {b : Nat × Nat} {K : Nat → Nat → Option Nat} {B : Nat → Nat → Int64} {M : Nat → Nat → Int32}   (a0 : Int32) (a1 : Int32) (a2 : Int32) (s0 : Int32)   
    (k1 : F (some (.int s0)) (X, b, zLay, K, B, M)) :
    zEx (zCall (d + 29)) 10 false 1 zc_Model_far F 33 [.ref 71, .int a0, .int a1, .int a2] [.int s0] (X, b, zLay, K, B, M) :=
  zr_goto rfl <| zr_ireturn rfl rfl k1
