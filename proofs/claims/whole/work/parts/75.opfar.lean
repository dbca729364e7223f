/-! ===== a boat that is asked of: both sides ===== -/
def zmS (A : Nat → Int32) (n : Nat → Nat) (bt k u : Nat) : Nat → Nat := fun e => zmy A bt k u (n 0) (n 5) (n 3) (zDD A n) e
def zCJ (A : Nat → Int32) (n : Nat → Nat) (bt k u : Nat) (M : Nat → Nat → Int32) : Prop := M 41 1 = nI (zfi A bt k u (n 5)) ∧ M 41 2 = nI (zla A bt k u (n 5) - 1) ∧ (∀ e, e < 60 → M 43 e = nI (zmS A n bt k u e)) ∧ zKx A M (n 0) (n 1) (n 2) (n 3) (n 5) (zDD A n) ∧ (1 ≤ n 3 ∧ n 3 ≤ 60) ∧ n 0 ≤ 10 ∧ zpos A bt k u (n 0) (n 5) (n 3) (zDD A n) = true
def zRJ (A : Nat → Int32) (n : Nat → Nat) (bt k u : Nat) (M : Nat → Nat → Int32) : Prop := M 71 33 = nI (zfi A bt k u (n 5)) ∧ M 71 34 = nI (zla A bt k u (n 5) - 1) ∧ (∀ e, zfi A bt k u (n 5) ≤ e → e ≤ zla A bt k u (n 5) - 1 → M 89 e = nI (zLd A n bt k u e)) ∧ (∀ e, zfi A bt k u (n 5) ≤ e → e ≤ zla A bt k u (n 5) - 1 → M 90 e = nI (zBk A n bt k u e)) ∧ zRf87 M (n 0) (n 5) (n 3) (zDD A n) ∧ zSok A (n 0) (n 5) ∧ n 0 ≤ 10 ∧ zpos A bt k u (n 0) (n 5) (n 3) (zDD A n) = true
theorem zCJ_same {A : Nat → Int32} {n : Nat → Nat} {bt k u : Nat} {M M2 : Nat → Nat → Int32} (h : ∀ c, c ≤ 17 ∨ c = 41 ∨ c = 43 → M2 c = M c) (j : zCJ A n bt k u M) : zCJ A n bt k u M2 := by
  obtain ⟨j1, j2, j3, j4, j5⟩ := j
  exact ⟨by rw [h 41 (by omega)]; exact j1, by rw [h 41 (by omega)]; exact j2, by rw [h 43 (by omega)]; exact j3, zKx_same (fun c hc => h c (Or.inl hc)) j4, j5⟩
theorem zRJ_same {A : Nat → Int32} {n : Nat → Nat} {bt k u : Nat} {M M2 : Nat → Nat → Int32} (h71 : M2 71 33 = M 71 33 ∧ M2 71 34 = M 71 34) (h : ∀ c, c = 72 ∨ c = 87 ∨ c = 89 ∨ c = 90 → M2 c = M c) (j : zRJ A n bt k u M) : zRJ A n bt k u M2 := by
  obtain ⟨j1, j2, j3, j4, j5, j6⟩ := j
  exact ⟨by rw [h71.1]; exact j1, by rw [h71.2]; exact j2, by rw [h 89 (by omega)]; exact j3, by rw [h 90 (by omega)]; exact j4, zRf87_same j5 (h 72 (by omega)) (h 87 (by omega)), j6⟩
theorem zJc_CJ {M M1 : Nat → Nat → Int32} {n n' : Nat → Nat} {bt k : Nat} (h : zIn M n n') (hp : zpos (M 72) bt k 60 (n 0) (n 5) (n 3) (zDD (M 72) n) = true) (j : zJc (M 72) M M1 bt k 59 (n 0) (n 1) (n 2) (n 3) (n 5) (zDD (M 72) n)) : zCJ (M 72) n bt k 60 M1 := by
  obtain ⟨x1, x2, x3, x4, x5, x6⟩ := zJc_n h j
  obtain ⟨f1, f2, f3, f4, f5⟩ := zpos_fg (zIn_sn h).2.2.2.2 hp
  have hb := h.1.2
  exact ⟨by rw [x1, zfI_n f1], by rw [x2, f5], x4, x6, hb.2.2.2.1, hb.1, hp⟩
theorem zJr_RJ {M M1 : Nat → Nat → Int32} {n n' : Nat → Nat} {bt k u : Nat} (h : zIn M n n') (hp : zpos (M 72) bt k u (n 0) (n 5) (n 3) (zDD (M 72) n) = true) (j : zJr M M1 bt k u (n 0) (n 5) (n 3) (zDD (M 72) n)) : zRJ (M 72) n bt k u M1 := by
  have hSo := (zIn_sn h).2.2.2.2
  obtain ⟨f1, f2, f3, f4, f5⟩ := zpos_fg hSo hp
  have q := zJr_fg j hSo f1
  exact ⟨q.1, q.2.1, fun e h1 h2 => (zJr_at j f1 h1 (by omega)).1, fun e h1 h2 => (zJr_at j f1 h1 (by omega)).2, j.2.2.2.2.2.1, hSo, h.1.2.1, hp⟩
/-- its days and places -/
theorem zmS_ok {A : Nat → Int32} {n : Nat → Nat} {bt k u : Nat} (hS : zSok A (n 0) (n 5)) (hD : ∀ d x y, zDD A n d x y = zDD A n d y x) (hb : n 0 ≤ 10) (hp : zpos A bt k u (n 0) (n 5) (n 3) (zDD A n) = true) : (zfi A bt k u (n 5) ≤ zla A bt k u (n 5) - 1 ∧ zla A bt k u (n 5) - 1 < 60) ∧ (∀ e, zmS A n bt k u e < 1024) ∧ (∀ s, zVok s (n 0) (n 3) (zDD A n) (zmS A n bt k u) (zfi A bt k u (n 5)) (zla A bt k u (n 5) - 1)) ∧ (∀ e, zfi A bt k u (n 5) ≤ e → e ≤ zla A bt k u (n 5) - 1 → zLd A n bt k u e &&& zBk A n bt k u e = zmS A n bt k u e) ∧ (∀ e, zfi A bt k u (n 5) ≤ e → e ≤ zla A bt k u (n 5) - 1 → ∃ p, p < n 0 ∧ (zmS A n bt k u e).testBit p = true) ∧ (∀ d p, zfi A bt k u (n 5) ≤ d → d < zla A bt k u (n 5) - 1 → (zmS A n bt k u (d + 1)).testBit p = true → ∃ q, q < n 0 ∧ (zmS A n bt k u d).testBit q = true ∧ zDD A n (d + 1) q p ≤ n 3) := by
  obtain ⟨f1, f2, f3, f4, f5⟩ := zpos_fg hS hp
  have ml : ∀ e, zmS A n bt k u e < 2 ^ (n 0) := fun e => zmy_lt e
  have mi : ∀ e, zfi A bt k u (n 5) ≤ e → e ≤ zla A bt k u (n 5) - 1 → zLd A n bt k u e &&& zBk A n bt k u e = zmS A n bt k u e := fun e h1 h2 => (zmy_in hp h1 h2 f4).symm
  have step : ∀ d p, zfi A bt k u (n 5) ≤ d → d < zla A bt k u (n 5) - 1 → (zmS A n bt k u (d + 1)).testBit p = true → ∃ q, q < n 0 ∧ (zmS A n bt k u d).testBit q = true ∧ zDD A n (d + 1) q p ≤ n 3 := by
    intro d p h1 h2 hb
    rw [← mi (d + 1) (by omega) (by omega), Nat.testBit_and, Bool.and_eq_true] at hb
    have s := zld_s (rc := fun d S => zrc (n 0) (n 3) (zDD A n d) S) (al := zal A (n 0) bt k u (n 5)) (f := zfi A bt k u (n 5)) (d := d) h1
    have i1 := hb.1
    unfold zLd at i1
    rw [s, Nat.testBit_and, Bool.and_eq_true, zrc_bit] at i1
    obtain ⟨i2, i3, q, i4, i5, i6⟩ := i1
    refine ⟨q, i4, ?_, i6⟩
    rw [← mi d h1 (by omega), Nat.testBit_and, Bool.and_eq_true]
    refine ⟨i5, ?_⟩
    unfold zBk
    rw [zbk_s (by omega), Nat.testBit_and, Bool.and_eq_true, zrc_bit]
    refine ⟨?_, i4, p, i3, hb.2, by rw [hD]; exact i6⟩
    have := zld_sub _ _ _ _ q i5
    rw [show zfi A bt k u (n 5) + (d - zfi A bt k u (n 5)) = d by omega] at this
    exact this
  refine ⟨⟨f2, f3⟩, fun e => zp1024 (ml e) hb, fun s => zVok_of step, mi, fun e h1 h2 => ?_, step⟩
  obtain ⟨p, hp'⟩ := zmy_ne hD hS hp (zla A bt k u (n 5) - 1 - e) (by omega)
  rw [show zla A bt k u (n 5) - 1 - (zla A bt k u (n 5) - 1 - e) = e by omega, mi e h1 h2] at hp'
  refine ⟨p, ?_, hp'⟩
  rcases Nat.lt_or_ge p (n 0) with q | q
  · exact q
  · rw [Nat.testBit_lt_two_pow (Nat.lt_of_lt_of_le (ml e) (Nat.pow_le_pow_right (by decide) q))] at hp'
    exact absurd hp' (by decide)
/-- the least (false) and the most (true) miles -/
def zfar (A : Nat → Int32) (n : Nat → Nat) (bt k u : Nat) (s : Bool) : Nat := (zfR s (n 0) (n 3) (zDD A n) (zmS A n bt k u) (zfi A bt k u (n 5)) (zla A bt k u (n 5) - 1)).getD 0
theorem zfar_ex {A : Nat → Int32} {n : Nat → Nat} {bt k u : Nat} (hS : zSok A (n 0) (n 5)) (hD : ∀ d x y, zDD A n d x y = zDD A n d y x) (hb : n 0 ≤ 10) (h3 : n 3 ≤ 60) (hp : zpos A bt k u (n 0) (n 5) (n 3) (zDD A n) = true) (s : Bool) : zfR s (n 0) (n 3) (zDD A n) (zmS A n bt k u) (zfi A bt k u (n 5)) (zla A bt k u (n 5) - 1) = some (zfar A n bt k u s) ∧ zfar A n bt k u s ≤ 9000 := by
  obtain ⟨hfg, hS10, hV, mi, hne, -⟩ := zmS_ok hS hD hb hp
  obtain ⟨p, hp1, hp2⟩ := hne (zla A bt k u (n 5) - 1) hfg.1 (Nat.le_refl _)
  have hs : (zfR s (n 0) (n 3) (zDD A n) (zmS A n bt k u) (zfi A bt k u (n 5)) (zla A bt k u (n 5) - 1)).isSome = true := (zfo_some (n 0)).mpr ⟨p, hp1, hp2⟩
  unfold zfar
  cases e : zfR s (n 0) (n 3) (zDD A n) (zmS A n bt k u) (zfi A bt k u (n 5)) (zla A bt k u (n 5) - 1) with
  | none => rw [e] at hs; cases hs
  | some x =>
    refine ⟨rfl, ?_⟩
    refine zfo_le (b := 9000) (n 0) (fun r hr hc => ?_) x e
    show (zfV s (n 0) (n 3) (zDD A n) (zmS A n bt k u) _ _ r).getD 0 ≤ _
    cases hw : zfV s (n 0) (n 3) (zDD A n) (zmS A n bt k u) (zfi A bt k u (n 5)) (zla A bt k u (n 5) - 1 - zfi A bt k u (n 5)) r with
    | none => exact Nat.zero_le _
    | some w =>
      have := zfV_le h3 _ r w hw
      show w ≤ 9000
      omega
section MM
variable {d : Nat} {F : Option Value → zS → Prop} {X : zX} {b : Nat × Nat} {K : Nat → Nat → Option Nat} {B : Nat → Nat → Int64} {M : Nat → Nat → Int32} {A : Nat → Int32} {n : Nat → Nat} {bt k u : Nat}
theorem sp_mostC (hK : zKok K) (hSw : zSw K) (hj : zCJ A n bt k u M) (kk : ∀ K' M', zKok K' → zSw K' → (∀ c, c ≠ 44 → c ≠ 45 → M' c = M c) → F (some (.int (nI (zfar A n bt k u true)))) (X, b, zLay, K', B, M')) : zCall (d + 9) zm_Journeys_mostMiles [.ref 41] (X, b, zLay, K, B, M) F := by
  obtain ⟨j1, j2, j3, j4, j5, j6, j7⟩ := hj
  obtain ⟨hfg, hS10, hV, mi, hne, -⟩ := zmS_ok j4.2.2.2.2.1 j4.2.2.2.2.2.2.2.2.1 j6 j7
  refine zb_Journeys_mostMiles_0 ?_
  refine sp_furP hK hSw j4 j5.2 (hV true) j1 j2 hfg hS10 j3 (fun K' M' k1 s1 u1 => ?_)
  refine zb_Journeys_mostMiles_5 _ ?_
  rw [(zfar_ex j4.2.2.2.2.1 j4.2.2.2.2.2.2.2.2.1 j6 j5.2 j7 true).1]
  exact kk K' M' k1 s1 u1
theorem sp_leastC (hK : zKok K) (hSw : zSw K) (hj : zCJ A n bt k u M) (kk : ∀ K' M', zKok K' → zSw K' → (∀ c, c ≠ 44 → c ≠ 45 → M' c = M c) → F (some (.int (nI (zfar A n bt k u false)))) (X, b, zLay, K', B, M')) : zCall (d + 9) zm_Journeys_leastMiles [.ref 41] (X, b, zLay, K, B, M) F := by
  obtain ⟨j1, j2, j3, j4, j5, j6, j7⟩ := hj
  obtain ⟨hfg, hS10, hV, mi, hne, -⟩ := zmS_ok j4.2.2.2.2.1 j4.2.2.2.2.2.2.2.2.1 j6 j7
  refine zb_Journeys_leastMiles_0 ?_
  refine sp_furM hK hSw j4 j5.2 (hV false) j1 j2 hfg hS10 j3 (fun K' M' k1 s1 u1 => ?_)
  refine zb_Journeys_leastMiles_5 _ ?_
  have ex := zfar_ex j4.2.2.2.2.1 j4.2.2.2.2.2.2.2.2.1 j6 j5.2 j7 false
  rw [ex.1]
  show F (some (.int (-(nI (zfar A n bt k u false)) * (-1)))) _
  rw [zneg_1 ex.2]
  exact kk K' M' k1 s1 u1
theorem sp_farR1 (hK : zKok K) (hj : zRJ A n bt k u M) (kk : ∀ M', (∀ c, c ≠ 93 → M' c = M c) → F (some (.int (nI (zfar A n bt k u true)))) (X, b, zLay, K, B, M')) : zCall (d + 4) zm_Model_farOf [.ref 71, .int 1] (X, b, zLay, K, B, M) F := by
  obtain ⟨j1, j2, j3, j4, j5, j6, j7, j8⟩ := hj
  obtain ⟨hfg, hS10, hV, mi, hne, -⟩ := zmS_ok j6 j5.2.2.2.2.2 j7 j8
  refine sp_farOfP hK j5 j7 (hV true) j1 j2 hfg j3 j4 mi hS10 (fun M' u1 => ?_)
  rw [(zfar_ex j6 j5.2.2.2.2.2 j7 j5.2.2.1 j8 true).1]
  exact kk M' u1
theorem sp_farR0 (hK : zKok K) (hj : zRJ A n bt k u M) (kk : ∀ M', (∀ c, c ≠ 93 → M' c = M c) → F (some (.int (nI (zfar A n bt k u false)))) (X, b, zLay, K, B, M')) : zCall (d + 4) zm_Model_farOf [.ref 71, .int 0] (X, b, zLay, K, B, M) F := by
  obtain ⟨j1, j2, j3, j4, j5, j6, j7, j8⟩ := hj
  obtain ⟨hfg, hS10, hV, mi, hne, -⟩ := zmS_ok j6 j5.2.2.2.2.2 j7 j8
  refine sp_farOfM hK j5 j7 (hV false) j1 j2 hfg j3 j4 mi hS10 (fun M' u1 => ?_)
  rw [(zfar_ex j6 j5.2.2.2.2.2 j7 j5.2.2.1 j8 false).1]
  exact kk M' u1
end MM
theorem zSc_44 {M M2 : Nat → Nat → Int32} (h : ∀ c, c ≠ 44 → c ≠ 45 → M2 c = M c) : zSc M M2 := zSc_w (fun c hc => h c (fun q => by rw [q] at hc; exact absurd hc (by decide)) (fun q => by rw [q] at hc; exact absurd hc (by decide)))
theorem zSc_93 {M M2 : Nat → Nat → Int32} (h : ∀ c, c ≠ 93 → M2 c = M c) : zSc M M2 := zSc_w (fun c hc => h c (fun q => by rw [q] at hc; exact absurd hc (by decide)))
theorem zop_far (X : zX) (a0 a1 a2 : Int32) : zOp zInv X zm_Boats_far zm_Model_far [.int a0, .int a1, .int a2] := by
  refine zop_of (fun d K B M n n' hK hSw h => ?_)
  have hT := zIn_tab h
  have hb := h.1.2
  by_cases hv : zAsk (M 72) n a0 a1 ∧ (a2 = 0 ∨ a2 = 1)
  · obtain ⟨⟨bt, k, rfl, rfl, h1, hk, hp⟩, hv3⟩ := hv
    refine ⟨nI (zfar (M 72) n bt k 60 (decide (a2 = 1))), fun F kk => ?_, fun K2 B2 M2 hK2 hS2 hs h2' F kk => ?_⟩
    · refine zb_Boats_farR_0 (d := d + 170) _ _ _ (fun q => absurd hv3 q) (fun _ => ?_)
      refine sp_hasJA (d := d + 189) hK h _ _ (fun q => absurd ⟨bt, k, rfl, rfl, h1, hk, hp⟩ q) (fun bt2 k2 M1 e1 e2 l1 l2 p2 j1 => ?_)
      have e1 := (nI_eq (by omega) (by omega)).mp e1
      have e2 := (nI_eq (by omega) (by omega)).mp e2
      subst e1 e2
      obtain ⟨s1, t1⟩ := zJc_sc j1
      have cj := zJc_CJ h hp j1
      refine zb_Boats_farP_13 (d := d + 170) hK _ _ _ (fun q => ?_) (fun q => ?_)
      · refine sp_mostC (d := d + 190) hK hSw cj (fun K3 M3 k3 w3 u3 => ?_)
        refine zb_Boats_farP_39 (d := d + 170) _ _ _ _ ?_
        have e := kk K3 B M3 k3 w3 (zSc_tr s1 (zSc_44 u3)) (zTab_w (fun c _ _ => u3 c (by omega) (by omega)) t1)
        rw [decide_eq_true (show a2 = 1 by rcases hv3 with z | z; exact absurd z q; exact z)] at e
        exact e
      · refine sp_leastC (d := d + 190) hK hSw cj (fun K3 M3 k3 w3 u3 => ?_)
        refine zb_Boats_farP_29 (d := d + 170) _ _ _ _ ?_
        have e := kk K3 B M3 k3 w3 (zSc_tr s1 (zSc_44 u3)) (zTab_w (fun c _ _ => u3 c (by omega) (by omega)) t1)
        rw [decide_eq_false (by rw [q]; decide)] at e
        exact e
    · have e72 : M2 72 = M 72 := hs.1 72 rfl (by decide) (by decide) (by decide) (by decide) (by decide) (by decide)
      have hv3' : (0 : Int32) ≤ a2 ∧ a2 ≤ (1 : Int32) := by
        rcases hv3 with q | q
        · rw [q]; decide
        · rw [q]; decide
      rw [← e72] at hp kk
      refine zb_Model_farR_0 (d := d + 170) _ _ _ (fun q => absurd hv3' q) (fun _ => ?_)
      refine sp_canAskA (d := d + 189) hK2 h2' _ _ _ (fun q => ?_) (fun bt2 k2 M1 e1 e2 l1 l2 hr p2 j1 => ?_)
      · exfalso
        refine q ⟨⟨bt, k, rfl, rfl, h1, hk, hp⟩, ?_⟩
        rw [zlm]
        exact ⟨by omega, by omega⟩
      · have e1 := (nI_eq (by omega) (by omega)).mp e1
        have e2 := (nI_eq (by omega) (by omega)).mp e2
        subst e1 e2
        obtain ⟨s1, t1⟩ := zJr_sc j1
        have t1 := t1 (zIn_tab h2')
        have rj := zJr_RJ h2' hp j1
        refine zb_Model_farP_16 (d := d + 170) _ _ _ (fun q => ?_) (fun q => ?_)
        · refine sp_farR0 (d := d + 195) hK2 rj (fun M3 u3 => ?_)
          refine zb_Model_farP_33 (d := d + 170) _ _ _ _ ?_
          have e := kk K2 B2 M3 hK2 hS2 (zSc_tr s1 (zSc_93 u3)) (zTab_w (fun c _ _ => u3 c (by omega)) t1)
          rw [decide_eq_false q] at e
          exact e
        · refine sp_farR1 (d := d + 195) hK2 rj (fun M3 u3 => ?_)
          refine zb_Model_farP_33 (d := d + 170) _ _ _ _ ?_
          have e := kk K2 B2 M3 hK2 hS2 (zSc_tr s1 (zSc_93 u3)) (zTab_w (fun c _ _ => u3 c (by omega)) t1)
          rw [decide_eq_true q] at e
          exact e
  · refine ⟨-1, fun F kk => ?_, fun K2 B2 M2 hK2 hS2 hs h2' F kk => ?_⟩
    · have z := kk K B M hK hSw (zSc_rfl M) hT
      refine zb_Boats_farR_0 (d := d + 170) _ _ _ (fun _ => z) (fun g1 => ?_)
      refine sp_hasJA (d := d + 189) hK h _ _ (fun _ M1 s1 t1 => ?_) (fun bt k M1 e1 e2 l1 l2 p1 j1 => ?_)
      · exact zb_Boats_farN_13 (d := d + 170) _ _ _ (kk K B M1 hK hSw s1 t1)
      · exact absurd ⟨⟨bt, k, e1, e2, l1, l2, p1⟩, g1⟩ hv
    · have e72 : M2 72 = M 72 := hs.1 72 rfl (by decide) (by decide) (by decide) (by decide) (by decide) (by decide)
      have z := kk K2 B2 M2 hK2 hS2 (zSc_rfl M2) (zIn_tab h2')
      refine zb_Model_farR_0 (d := d + 170) _ _ _ (fun _ => z) (fun g2 => ?_)
      refine sp_canAskA (d := d + 189) hK2 h2' _ _ _ (fun _ M1 s1 t1 => ?_) (fun bt k M1 e1 e2 l1 l2 hr p1 j1 => ?_)
      · exact zb_Model_farN_16 (d := d + 170) _ _ _ (kk K2 B2 M1 hK2 hS2 s1 t1)
      · exfalso
        simp only [zle, zl0, zl1] at g2
        refine hv ⟨⟨bt, k, e1, e2, l1, l2, by rw [← e72]; exact p1⟩, ?_⟩
        simp only [zeq, zl0, zl1]
        omega
