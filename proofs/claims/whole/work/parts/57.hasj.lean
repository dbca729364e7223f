/-! ===== hasJourneys, canAsk ===== -/
theorem zb_Boats_hasJourneysR_0 {d : Nat} {F : Option Value → zS → Prop} {X : zX} {b : Nat × Nat} {K : Nat → Nat → Option Nat} {B : Nat → Nat → Int64} {M : Nat → Nat → Int32} (hK : zKok K)  (a0 : Int32) (a1 : Int32)   
    (k1 : (¬ (0 ≤ a0 ∧ a0 < (M 13 0))) → F (some (.int 0)) (X, b, zLay, K, B, M))
    (k2 : (0 ≤ a0 ∧ a0 < (M 13 0)) → (0 ≤ a1 ∧ a1 < 60) → zEx (zCall (d + 9)) 9 false 2 zc_Boats_hasJourneys F 17 [.ref 0, .int a0, .int a1] [] (X, b, zLay, K, B, M))
    (k3 : (0 ≤ a0 ∧ a0 < (M 13 0)) → (¬ (0 ≤ a1 ∧ a1 < 60)) → F (some (.int 0)) (X, b, zLay, K, B, M)) :
    zCall (d + 10) zm_Boats_hasJourneys [.ref 0, .int a0, .int a1] (X, b, zLay, K, B, M) F :=
  zc_of [.ref 0, .int a0, .int a1] (rfl : zinfL[zm_Boats_hasJourneys]? = _) rfl rfl (
  zr_aload_n 1 rfl rfl rfl <| zr_iload_n 2 rfl rfl rfl <| zr_virt 5 rfl rfl rfl rfl rfl rfl rfl rfl <| sp_isBoat hK <| zr_if 8 rfl rfl (fun h0 => have cneys5_0 : ¬ (0 ≤ a0 ∧ a0 < (M 13 0)) := (zbi_0 h0); zr_iconst 16 rfl rfl <| zr_zreturn rfl rfl (Or.inl rfl) (k1 cneys5_0)) (fun h0 => have cneys5_0 : 0 ≤ a0 ∧ a0 < (M 13 0) := (zbi_1 h0); zr_iload_n 9 rfl rfl rfl <| zr_static 12 rfl rfl rfl rfl rfl rfl rfl <| sp_isDay <| zr_if 15 rfl rfl (fun h0 => have cneys12_1 : 0 ≤ a1 ∧ a1 < 60 := (zbi_1 h0); (k2 cneys5_0 cneys12_1)) (fun h0 => have cneys12_1 : ¬ (0 ≤ a1 ∧ a1 < 60) := (zbi_0 (Decidable.not_not.mp h0)); zr_iconst 16 rfl rfl <| zr_zreturn rfl rfl (Or.inl rfl) (k3 cneys5_0 cneys12_1))))
theorem zb_Boats_hasJourneys_0 {d : Nat} {F : Option Value → zS → Prop} {X : zX} {b : Nat × Nat} {K : Nat → Nat → Option Nat} {B : Nat → Nat → Int64} {M : Nat → Nat → Int32} (hK : zKok K) {nb : Nat}  (bt : Nat) (k : Nat)   (hnb : M 13 0 = nI nb) (hb8 : nb ≤ 8) (hbt : bt < nb)(hk : k < 60)
    (k1 : zCall (d + 9) zm_Boats_trace [.ref 0, .ref 41, .int (nI bt), .int (nI k), .int 59] (X, (0, 0), zLay, K, B, M) (zGo (d + 9) 9 false 2 zc_Boats_hasJourneys F 29 [.ref 0, .int (nI bt), .int (nI k)] [] b)) :
    zCall (d + 10) zm_Boats_hasJourneys [.ref 0, .int (nI bt), .int (nI k)] (X, b, zLay, K, B, M) F :=
  zc_of [.ref 0, .int (nI bt), .int (nI k)] (rfl : zinfL[zm_Boats_hasJourneys]? = _) rfl rfl (
  zr_aload_n 1 rfl rfl rfl <| zr_iload_n 2 rfl rfl rfl <| zr_virt 5 rfl rfl rfl rfl rfl rfl rfl rfl <| sp_isBoat hK <| zyes (zy_lt hnb (by omega) (by omega)) <| zr_if 8 rfl rfl (fun h => absurd h (show ¬ ((1 : Int32) = (0 : Int32)) by decide)) (fun _ => zr_iload_n 9 rfl rfl rfl <| zr_static 12 rfl rfl rfl rfl rfl rfl rfl <| sp_isDay <| zyes (zy_day (by omega)) <| zr_if 15 rfl rfl (fun _ => zr_aload_n 18 rfl rfl rfl <| zr_aload_n 19 rfl rfl rfl <| zr_getr 22 rfl rfl rfl rfl rfl (hK 0 9 41 rfl) <| zr_iload_n 23 rfl rfl rfl <| zr_iload_n 24 rfl rfl rfl <| zr_bipush 26 rfl rfl <| zr_virt 29 rfl rfl rfl rfl rfl rfl rfl rfl <| k1) (fun h => absurd (show ¬ (1 : Int32) = (0 : Int32) by decide) h)))
theorem zb_Boats_hasJourneys_29 {d : Nat} {F : Option Value → zS → Prop} {X : zX} {b : Nat × Nat} {K : Nat → Nat → Option Nat} {B : Nat → Nat → Int64} {M : Nat → Nat → Int32} (hK : zKok K) {x : Int32}  (bt : Nat) (k : Nat)   (h3 : M 41 3 = x)
    (g1 : x = 0 ∨ x = 1)
    (k2 : F (some (.int x)) (X, b, zLay, K, B, M)) :
    zEx (zCall (d + 9)) 9 false 2 zc_Boats_hasJourneys F 29 [.ref 0, .int (nI bt), .int (nI k)] [] (X, b, zLay, K, B, M) :=
  zr_aload_n 30 rfl rfl rfl <| zr_getr 33 rfl rfl rfl rfl rfl (hK 0 9 41 rfl) <| zr_geti 36 rfl rfl rfl rfl rfl <| zr_cast h3 <| zr_zreturn rfl rfl g1 k2
theorem zb_Model_canAskR_0 {d : Nat} {F : Option Value → zS → Prop} {X : zX} {b : Nat × Nat} {K : Nat → Nat → Option Nat} {B : Nat → Nat → Int64} {M : Nat → Nat → Int32} (hK : zKok K)  (a0 : Int32) (a1 : Int32) (a2 : Int32)   
    (k1 : (¬ (0 ≤ a0 ∧ a0 ≤ (M 72 4) - 1)) → F (some (.int 0)) (X, b, zLay, K, B, M))
    (k2 : (0 ≤ a0 ∧ a0 ≤ (M 72 4) - 1) → (¬ ((-1) ≤ a1 ∧ a1 ≤ (M 72 7) - 1)) → F (some (.int 0)) (X, b, zLay, K, B, M))
    (k3 : (0 ≤ a0 ∧ a0 ≤ (M 72 4) - 1) → ((-1) ≤ a1 ∧ a1 ≤ (M 72 7) - 1) → (¬ (0 ≤ a2 ∧ a2 ≤ 59)) → F (some (.int 0)) (X, b, zLay, K, B, M))
    (k4 : (0 ≤ a0 ∧ a0 ≤ (M 72 4) - 1) → ((-1) ≤ a1 ∧ a1 ≤ (M 72 7) - 1) → (0 ≤ a2 ∧ a2 ≤ 59) → zEx (zCall (d + 9)) 10 false 2 zc_Model_canAsk F 23 [.ref 71, .int a0, .int a1, .int a2] [] (X, b, zLay, K, B, M)) :
    zCall (d + 10) zm_Model_canAsk [.ref 71, .int a0, .int a1, .int a2] (X, b, zLay, K, B, M) F :=
  zc_of [.ref 71, .int a0, .int a1, .int a2] (rfl : zinfL[zm_Model_canAsk]? = _) rfl rfl (
  zr_aload_n 1 rfl rfl rfl <| zr_iload_n 2 rfl rfl rfl <| zr_virt 5 rfl rfl rfl rfl rfl rfl rfl rfl <| sp_MisBoat hK <| zr_if 8 rfl rfl (fun h0 => have cnAsk5_0 : ¬ (0 ≤ a0 ∧ a0 ≤ (M 72 4) - 1) := (zbi_0 h0); zr_iconst 39 rfl rfl <| zr_zreturn rfl rfl (Or.inl rfl) (k1 cnAsk5_0)) (fun h0 => have cnAsk5_0 : 0 ≤ a0 ∧ a0 ≤ (M 72 4) - 1 := (zbi_1 h0); zr_aload_n 9 rfl rfl rfl <| zr_iload_n 10 rfl rfl rfl <| zr_virt 13 rfl rfl rfl rfl rfl rfl rfl rfl <| sp_MisRule hK <| zr_if 16 rfl rfl (fun h0 => have cnAsk13_1 : ¬ ((-1) ≤ a1 ∧ a1 ≤ (M 72 7) - 1) := (zbi_0 h0); zr_iconst 39 rfl rfl <| zr_zreturn rfl rfl (Or.inl rfl) (k2 cnAsk5_0 cnAsk13_1)) (fun h0 => have cnAsk13_1 : (-1) ≤ a1 ∧ a1 ≤ (M 72 7) - 1 := (zbi_1 h0); zr_iload_n 17 rfl rfl rfl <| zr_static 20 rfl rfl rfl rfl rfl rfl rfl <| sp_MisDay <| zr_if 23 rfl rfl (fun h0 => have cnAsk20_2 : ¬ (0 ≤ a2 ∧ a2 ≤ 59) := (zbi_0 h0); zr_iconst 39 rfl rfl <| zr_zreturn rfl rfl (Or.inl rfl) (k3 cnAsk5_0 cnAsk13_1 cnAsk20_2)) (fun h0 => have cnAsk20_2 : 0 ≤ a2 ∧ a2 ≤ 59 := (zbi_1 h0); (k4 cnAsk5_0 cnAsk13_1 cnAsk20_2)))))
theorem zb_Model_canAsk_0 {d : Nat} {F : Option Value → zS → Prop} {X : zX} {b : Nat × Nat} {K : Nat → Nat → Option Nat} {B : Nat → Nat → Int64} {M : Nat → Nat → Int32} (hK : zKok K) {nb : Nat}  (bt : Nat) (ru : Int32) (k : Nat)   (hmb : M 72 4 = nI nb) (hb8 : nb ≤ 8) (hbt : bt < nb)(hk : k < 60) (hru : (-1) ≤ ru ∧ ru ≤ (M 72 7) - 1)
    (k1 : zCall (d + 9) zm_Model_journeys [.ref 71, .int (nI bt), .int (nI k), .int 60] (X, (0, 0), zLay, K, B, M) (zGo (d + 9) 10 false 2 zc_Model_canAsk F 31 [.ref 71, .int (nI bt), .int ru, .int (nI k)] [] b)) :
    zCall (d + 10) zm_Model_canAsk [.ref 71, .int (nI bt), .int ru, .int (nI k)] (X, b, zLay, K, B, M) F :=
  zc_of [.ref 71, .int (nI bt), .int ru, .int (nI k)] (rfl : zinfL[zm_Model_canAsk]? = _) rfl rfl (
  zr_aload_n 1 rfl rfl rfl <| zr_iload_n 2 rfl rfl rfl <| zr_virt 5 rfl rfl rfl rfl rfl rfl rfl rfl <| sp_MisBoat hK <| zyes (zy_le hmb (by omega) (by omega)) <| zr_if 8 rfl rfl (fun h => absurd h (show ¬ ((1 : Int32) = (0 : Int32)) by decide)) (fun _ => zr_aload_n 9 rfl rfl rfl <| zr_iload_n 10 rfl rfl rfl <| zr_virt 13 rfl rfl rfl rfl rfl rfl rfl rfl <| sp_MisRule hK <| zyes (hru) <| zr_if 16 rfl rfl (fun h => absurd h (show ¬ ((1 : Int32) = (0 : Int32)) by decide)) (fun _ => zr_iload_n 17 rfl rfl rfl <| zr_static 20 rfl rfl rfl rfl rfl rfl rfl <| sp_MisDay <| zyes (zy_day9 (by omega)) <| zr_if 23 rfl rfl (fun h => absurd h (show ¬ ((1 : Int32) = (0 : Int32)) by decide)) (fun _ => zr_aload_n 24 rfl rfl rfl <| zr_iload_n 25 rfl rfl rfl <| zr_iload_n 26 rfl rfl rfl <| zr_bipush 28 rfl rfl <| zr_virt 31 rfl rfl rfl rfl rfl rfl rfl rfl <| k1))))
theorem zb_Model_canAsk_31 {d : Nat} {F : Option Value → zS → Prop} {X : zX} {b : Nat × Nat} {K : Nat → Nat → Option Nat} {B : Nat → Nat → Int64} {M : Nat → Nat → Int32}   (bt : Nat) (ru : Int32) (k : Nat) (s0 : Int32)   
    (k1 : (s0 = (0 : Int32)) → F (some (.int 0)) (X, b, zLay, K, B, M))
    (k2 : (¬ s0 = (0 : Int32)) → F (some (.int 1)) (X, b, zLay, K, B, M)) :
    zEx (zCall (d + 9)) 10 false 2 zc_Model_canAsk F 31 [.ref 71, .int (nI bt), .int ru, .int (nI k)] [.int s0] (X, b, zLay, K, B, M) :=
  zr_if 34 rfl rfl (fun h0 => have cnAsk31_0 : s0 = (0 : Int32) := h0; zr_iconst 39 rfl rfl <| zr_zreturn rfl rfl (Or.inl rfl) (k1 cnAsk31_0)) (fun h0 => have cnAsk31_0 : ¬ s0 = (0 : Int32) := h0; zr_iconst 35 rfl rfl <| zr_goto rfl <| zr_zreturn rfl rfl (Or.inr rfl) (k2 cnAsk31_0))
section HJ
variable {d : Nat} {F : Option Value → zS → Prop} {X : zX} {b : Nat × Nat} {K : Nat → Nat → Option Nat} {B : Nat → Nat → Int64} {M : Nat → Nat → Int32} {n n' : Nat → Nat} {bt k : Nat}
theorem sp_hasJ0 (hK : zKok K) {a0 a1 : Int32} (hi : ¬ ((0 ≤ a0 ∧ a0 < M 13 0) ∧ (0 ≤ a1 ∧ a1 < 60))) (kk : F (some (.int 0)) (X, b, zLay, K, B, M)) : zCall (d + 10) zm_Boats_hasJourneys [.ref 0, .int a0, .int a1] (X, b, zLay, K, B, M) F :=
  zb_Boats_hasJourneysR_0 hK a0 a1 (fun _ => kk) (fun h1 h2 => absurd ⟨h1, h2⟩ hi) (fun _ _ => kk)
theorem sp_hasJ (hK : zKok K) (h : zIn M n n') (hbt : bt < n 4) (hk : k < 60) (kk : ∀ M', zJc (M 72) M M' bt k 59 (n 0) (n 1) (n 2) (n 3) (n 5) (zDD (M 72) n) → F (some (.int (zbi (zpos (M 72) bt k 59 (n 0) (n 5) (n 3) (zDD (M 72) n))))) (X, b, zLay, K, B, M')) : zCall (d + 10) zm_Boats_hasJourneys [.ref 0, .int (nI bt), .int (nI k)] (X, b, zLay, K, B, M) F := by
  have hb := h.1.2
  have q4 := h.2.2.2.1.2.2.2.2.1.trans h.1.1.2.2.2.2.1
  refine zb_Boats_hasJourneys_0 hK bt k q4 (by omega) hbt hk ?_
  refine sp_tr (u := 59) hK h ⟨by omega, hk, by omega⟩ (fun M1 j1 => ?_)
  have e := j1.2.2.2.2.2.2.2.2.1
  exact zb_Boats_hasJourneys_29 hK bt k e (zbi_01 _) (kk M1 j1)
theorem sp_canAsk0 (hK : zKok K) {a0 a1 a2 : Int32} (hi : ¬ ((0 ≤ a0 ∧ a0 ≤ M 72 4 - 1) ∧ ((-1) ≤ a1 ∧ a1 ≤ M 72 7 - 1) ∧ (0 ≤ a2 ∧ a2 ≤ 59))) (kk : F (some (.int 0)) (X, b, zLay, K, B, M)) : zCall (d + 10) zm_Model_canAsk [.ref 71, .int a0, .int a1, .int a2] (X, b, zLay, K, B, M) F :=
  zb_Model_canAskR_0 hK a0 a1 a2 (fun _ => kk) (fun _ _ => kk) (fun _ _ _ => kk) (fun h1 h2 h3 => absurd ⟨h1, h2, h3⟩ hi)
theorem sp_canAsk (hK : zKok K) (h : zIn M n n') {ru : Int32} (hbt : bt < n 4) (hru : (-1) ≤ ru ∧ ru ≤ M 72 7 - 1) (hk : k < 60) (kk : ∀ M', zJr M M' bt k 60 (n 0) (n 5) (n 3) (zDD (M 72) n) → F (some (.int (zbi (zpos (M 72) bt k 60 (n 0) (n 5) (n 3) (zDD (M 72) n))))) (X, b, zLay, K, B, M')) : zCall (d + 10) zm_Model_canAsk [.ref 71, .int (nI bt), .int ru, .int (nI k)] (X, b, zLay, K, B, M) F := by
  have hb := h.1.2
  refine zb_Model_canAsk_0 hK bt ru k h.1.1.2.2.2.2.1 (by omega) hbt hk hru ?_
  refine sp_mj (u := 60) hK h ⟨by omega, hk, by omega⟩ (fun M1 j1 => ?_)
  have e := kk M1 j1
  refine zb_Model_canAsk_31 bt ru k _ (fun q => ?_) (fun q => ?_)
  · rw [q] at e; exact e
  · cases hp : zpos (M 72) bt k 60 (n 0) (n 5) (n 3) (zDD (M 72) n)
    · rw [hp] at q; exact absurd rfl q
    · rw [hp] at e; exact e
end HJ
