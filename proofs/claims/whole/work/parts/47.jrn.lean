/-! ===== the reference: journeys ===== -/
theorem zb_Model_journeys_0 {d : Nat} {F : Option Value → zS → Prop} {X : zX} {b : Nat × Nat} {K : Nat → Nat → Option Nat} {B : Nat → Nat → Int64} {M : Nat → Nat → Int32}  (bt : Nat) (k : Nat) (u : Nat)   
    (k1 : zCall (d + 8) zm_Model_laysAllMiles [.ref 71] (X, (0, 0), zLay, K, B, M) (zGo (d + 8) 10 false 2 zc_Model_journeys F 4 [.ref 71, .int (nI bt), .int (nI k), .int (nI u)] [] b)) :
    zCall (d + 9) zm_Model_journeys [.ref 71, .int (nI bt), .int (nI k), .int (nI u)] (X, b, zLay, K, B, M) F :=
  zc_of [.ref 71, .int (nI bt), .int (nI k), .int (nI u)] (rfl : zinfL[zm_Model_journeys]? = _) rfl rfl (
  zr_aload_n 1 rfl rfl rfl <| zr_virt 4 rfl rfl rfl rfl rfl rfl rfl rfl <| k1)
theorem zb_Model_journeys_4 {d : Nat} {F : Option Value → zS → Prop} {X : zX} {b : Nat × Nat} {K : Nat → Nat → Option Nat} {B : Nat → Nat → Int64} {M : Nat → Nat → Int32}  (bt : Nat) (k : Nat) (u : Nat)   
    (k1 : zCall (d + 8) zm_Model_laysSeen [.ref 71, .int (nI bt), .int (nI k), .int (nI u)] (X, (0, 0), zLay, K, B, M) (zGo (d + 8) 10 false 2 zc_Model_journeys F 11 [.ref 71, .int (nI bt), .int (nI k), .int (nI u)] [] b)) :
    zEx (zCall (d + 8)) 10 false 2 zc_Model_journeys F 4 [.ref 71, .int (nI bt), .int (nI k), .int (nI u)] [] (X, b, zLay, K, B, M) :=
  zr_aload_n 5 rfl rfl rfl <| zr_iload_n 6 rfl rfl rfl <| zr_iload_n 7 rfl rfl rfl <| zr_iload_n 8 rfl rfl rfl <| zr_virt 11 rfl rfl rfl rfl rfl rfl rfl rfl <| k1
theorem zb_Model_journeys_11 {d : Nat} {F : Option Value → zS → Prop} {X : zX} {b : Nat × Nat} {K : Nat → Nat → Option Nat} {B : Nat → Nat → Int64} {M : Nat → Nat → Int32}  (bt : Nat) (k : Nat) (u : Nat) (s0 : Int32)   
    (k1 : (s0 = (0 : Int32)) → F (some (.int 0)) (X, b, zLay, K, B, M))
    (k2 : (¬ s0 = (0 : Int32)) → zCall (d + 8) zm_Model_leads [.ref 71] (X, (0, 0), zLay, K, B, M) (zGo (d + 8) 10 false 2 zc_Model_journeys F 18 [.ref 71, .int (nI bt), .int (nI k), .int (nI u)] [] b)) :
    zEx (zCall (d + 8)) 10 false 2 zc_Model_journeys F 11 [.ref 71, .int (nI bt), .int (nI k), .int (nI u)] [.int s0] (X, b, zLay, K, B, M) :=
  zr_if 14 rfl rfl (fun h0 => have cneys11_0 : s0 = (0 : Int32) := h0; zr_iconst 26 rfl rfl <| zr_zreturn rfl rfl (Or.inl rfl) (k1 cneys11_0)) (fun h0 => have cneys11_0 : ¬ s0 = (0 : Int32) := h0; zr_aload_n 15 rfl rfl rfl <| zr_virt 18 rfl rfl rfl rfl rfl rfl rfl rfl <| (k2 cneys11_0))
theorem zb_Model_journeys_18 {d : Nat} {F : Option Value → zS → Prop} {X : zX} {b : Nat × Nat} {K : Nat → Nat → Option Nat} {B : Nat → Nat → Int64} {M : Nat → Nat → Int32}  (bt : Nat) (k : Nat) (u : Nat) (s0 : Int32)   
    (k1 : (s0 = (0 : Int32)) → F (some (.int 0)) (X, b, zLay, K, B, M))
    (k2 : (¬ s0 = (0 : Int32)) → F (some (.int 1)) (X, b, zLay, K, B, M)) :
    zEx (zCall (d + 8)) 10 false 2 zc_Model_journeys F 18 [.ref 71, .int (nI bt), .int (nI k), .int (nI u)] [.int s0] (X, b, zLay, K, B, M) :=
  zr_if 21 rfl rfl (fun h0 => have cneys18_0 : s0 = (0 : Int32) := h0; zr_iconst 26 rfl rfl <| zr_zreturn rfl rfl (Or.inl rfl) (k1 cneys18_0)) (fun h0 => have cneys18_0 : ¬ s0 = (0 : Int32) := h0; zr_iconst 22 rfl rfl <| zr_goto rfl <| zr_zreturn rfl rfl (Or.inr rfl) (k2 cneys18_0))
/-- the reference behind journeys(bt, k, u) -/
def zJr (M0 M : Nat → Nat → Int32) (bt k u np m pc : Nat) (D : Nat → Nat → Nat → Nat) : Prop := (∀ c, c ≠ 71 → c ≠ 87 → c ≠ 88 → c ≠ 89 → c ≠ 90 → M c = M0 c) ∧ (∀ i, i ≠ 33 → i ≠ 34 → M 71 i = M0 71 i) ∧ M 71 33 = zfI (zfi (M0 72) bt k u m) ∧ M 71 34 = zlI (zla (M0 72) bt k u m) ∧ (∀ d, d < 60 → M 88 d = nI (zal (M0 72) np bt k u m d)) ∧ zRf87 M np m pc D ∧ (zfi (M0 72) bt k u m < 60 → (∀ j, j ≤ zla (M0 72) bt k u m - 1 - zfi (M0 72) bt k u m → M 89 (zfi (M0 72) bt k u m + j) = nI (zld (fun d S => zrc np pc (D d) S) (zal (M0 72) np bt k u m) (zfi (M0 72) bt k u m) j)) ∧ (∀ j, j ≤ zla (M0 72) bt k u m - 1 - zfi (M0 72) bt k u m → M 90 (zla (M0 72) bt k u m - 1 - j) = nI (zbk (fun d S => zrc np pc (D d) S) (zal (M0 72) np bt k u m) (zla (M0 72) bt k u m - 1) j)))
/-- whether there is a journey -/
def zpos (A : Nat → Int32) (bt k u np m pc : Nat) (D : Nat → Nat → Nat → Nat) : Bool := Nat.blt (zfi A bt k u m) 60 && !(Nat.beq (zld (fun d S => zrc np pc (D d) S) (zal A np bt k u m) (zfi A bt k u m) (zla A bt k u m - 1 - zfi A bt k u m)) 0)
theorem zbeq_f {a b : Nat} (h : a ≠ b) : Nat.beq a b = false := by
  cases z : Nat.beq a b
  · rfl
  · exact absurd (Nat.eq_of_beq_eq_true z) h
theorem zble_f {a b : Nat} (h : b < a) : Nat.ble a b = false := by
  cases z : Nat.ble a b
  · rfl
  · have := Nat.le_of_ble_eq_true z; omega
theorem zblt_f {a b : Nat} (h : b ≤ a) : Nat.blt a b = false := zble_f (by omega)
theorem zblt_t {a b : Nat} (h : a < b) : Nat.blt a b = true := Nat.ble_eq_true_of_le h
theorem sp_Mjourneys {d : Nat} {F : Option Value → zS → Prop} {X : zX} {b : Nat × Nat} {K : Nat → Nat → Option Nat} {B : Nat → Nat → Int64} {M : Nat → Nat → Int32} {nw ns np m pc bt k u : Nat} {D : Nat → Nat → Nat → Nat} (hK : zKok K) (hC : zCn (M 72) nw ns) (hS : zSn (M 72) np m) (h3 : M 72 3 = nI pc) (hpc : pc ≤ 60) (hD : ∀ dd, D dd = zD (zrd (M 72)) nw ns dd) (ha : bt < 8 ∧ k < 60 ∧ u ≤ 60) (kk : ∀ M', zJr M M' bt k u np m pc D → F (some (.int (zbi (zpos (M 72) bt k u np m pc D)))) (X, b, zLay, K, B, M')) : zCall (d + 9) zm_Model_journeys [.ref 71, .int (nI bt), .int (nI k), .int (nI u)] (X, b, zLay, K, B, M) F := by
  have hB := fun dd => zD_base (s := ns) (d := dd) (zCn_w hC)
  refine zb_Model_journeys_0 bt k u ?_
  refine sp_laysAll (d := d + 4) hK hC (fun M1 f1 r1 => ?_)
  have e72 : M1 72 = M 72 := f1 72 (by decide)
  have hS1 : zSn (M1 72) np m := by rw [e72]; exact hS
  have hR1 : zRf87 M1 np m pc D := ⟨hS1, by rw [e72]; exact h3, hpc, fun dd hd => by rw [hD]; exact r1 dd hd, fun dd x y => by rw [hD]; exact (hB dd).2.2 x y, fun dd x y => by rw [hD]; exact (hB dd).2.1 x y⟩
  refine zb_Model_journeys_4 bt k u ?_
  refine sp_laysSeen (d := d + 7) hK hS1 ha (fun M2 l2 => ?_)
  rw [e72]
  obtain ⟨g1, g2, g3, g4, g5⟩ := id l2
  have fl := zfl (bt := bt) (k := k) (u := u) hS.2.2.2.2
  have hR2 : zRf87 M2 np m pc D := zRf87_same hR1 (g1 72 (by decide) (by decide)) (g1 87 (by decide) (by decide))
  rw [e72] at g3 g4 g5
  refine zb_Model_journeys_11 bt k u _ (fun h => ?_) (fun h => ?_)
  · have hn := zbi_0 h
    have e := kk M2 ⟨fun c h1 h2 h3 h4 h5 => by rw [g1 c h3 h1, f1 c h2], fun i h1 h2 => by rw [g2 i h1 h2, f1 71 (by decide)], g3, g4, g5, hR2, fun q => absurd q hn⟩
    unfold zpos at e
    rw [zblt_f (by omega)] at e
    exact e
  · have hn := zbi_1 h
    have hl := (fl.2.2.2.1 hn).1
    have hL : zLi M2 np m pc (zfi (M 72) bt k u m) (zla (M 72) bt k u m - 1) (zal (M 72) np bt k u m) D := ⟨by rw [g3, zfI_n hn], by rw [g4]; unfold zlI; rw [if_neg (by omega)], ⟨by omega, by omega⟩, g5, hR2, fun e => zal_lt _ _ _ _ _ _ _⟩
    refine sp_leads (d := d + 5) hK hL (fun M3 z1 z2 z3 => ?_)
    have e := kk M3 ⟨fun c h1 h2 h3 h4 h5 => by rw [z1 c h4 h5, g1 c h3 h1, f1 c h2], fun i h1 h2 => by rw [z1 71 (by decide) (by decide), g2 i h1 h2, f1 71 (by decide)], by rw [z1 71 (by decide) (by decide)]; exact g3, by rw [z1 71 (by decide) (by decide)]; exact g4, by rw [z1 88 (by decide) (by decide)]; exact g5, zRf87_same hR2 (z1 72 (by decide) (by decide)) (z1 87 (by decide) (by decide)), fun _ => ⟨z2, z3⟩⟩
    unfold zpos at e
    rw [zblt_t hn, Bool.true_and] at e
    refine zb_Model_journeys_18 bt k u _ (fun h => ?_) (fun h => ?_)
    · have := zbi_0 h
      rw [Decidable.not_not.mp this] at e
      exact e
    · have := zbi_1 h
      rw [zbeq_f this] at e
      exact e
