/-! ===== round, limits: both sides ===== -/
def zpa (A : Nat → Int32) (p : Nat) : Nat := (A (10 + p)).toNatClampNeg
def zPa (A : Nat → Int32) (np : Nat) : Prop := (∀ p, p < np → A (10 + p) = nI (zpa A p)) ∧ ∀ p, p < np → zpa A p < 10
theorem zIn_pa {M : Nat → Nat → Int32} {n n' : Nat → Nat} (h : zIn M n n') : zPa (M 72) (n 0) ∧ ∀ p, p < n 0 → M 2 p = nI (zpa (M 72) p) := by
  obtain ⟨-, -, -, -, -, ⟨r0, -⟩, -⟩ := h
  have g : ∀ p, p < n 0 → M 72 (10 + p) = nI (zpa (M 72) p) ∧ zpa (M 72) p < 10 := fun p hp => by
    obtain ⟨-, q, h1, h2⟩ := r0 p hp
    have : zpa (M 72) p = q := by
      unfold zpa
      rw [h2, nI_clamp (by omega)]
    rw [this]
    exact ⟨h2, h1⟩
  exact ⟨⟨fun p hp => (g p hp).1, fun p hp => (g p hp).2⟩, fun p hp => ((r0 p hp).1).trans (g p hp).1⟩
def znme (h ph t pt m dy ds : Int) : Nat → Int
  | 0 => h | 1 => ph | 2 => t | 3 => pt | 4 => m | 5 => dy | _ => ds
/-- near (here h, there t) -/
def znN (A : Nat → Int32) (n : Nat → Nat) (h t : Nat) : Nat → Int := znme h (zpa A h) t (zpa A t) (min 9999 (zDD A n 60 h t) : Nat) 0 0
def zrN (A : Nat → Int32) (n : Nat → Nat) (cl : Nat → Option (List (Nat × Nat))) (h t : Nat) : Bool := match cl 0 with
  | none => false
  | some c => decide (zval (znN A n h t) c ≠ 0)
def zrnd (A : Nat → Int32) (n : Nat → Nat) (cl : Nat → Option (List (Nat × Nat))) (h : Nat) : Nat := 2 ^ h ||| zsb (fun t => zrN A n cl h t) (n 0)
def zsty (A : Nat → Int32) (cl : Nat → Option (List (Nat × Nat))) (h : Nat) : Nat := match cl 1 with
  | none => 14
  | some c => (max 0 (min 99 (zval (znme h (zpa A h) 0 0 0 0 0) c))).toNat
def zned (cl : Nat → Option (List (Nat × Nat))) (dy : Nat) : Nat := match cl 3 with
  | none => 20
  | some c => (max 0 (min 9999 (zval (znme 0 0 0 0 0 0 dy) c))).toNat
theorem zsb_none {f : Nat → Bool} {k : Nat} (h : ∀ q, q < k → f q = false) : zsb f k = 0 := by
  induction k with
  | zero => rfl
  | succ k ih =>
    unfold zsb
    rw [ih (fun q hq => h q (by omega)), h k (by omega)]
    simp
theorem zclC {s0 : Int32} {x : Int} {hi : Nat} (hx : s0.toInt = x) (hh : hi ≤ 9999) : (if (nI 0) < (if s0 < (nI hi) then s0 else (nI hi)) then (if s0 < (nI hi) then s0 else (nI hi)) else (nI 0)) = nI (max 0 (min (hi : Int) x)).toNat := by
  apply Int32.toInt_inj.mp
  rw [nI_toInt (by omega)]
  have e0 : (nI 0).toInt = 0 := rfl
  have eh : (nI hi).toInt = hi := nI_toInt (by omega)
  by_cases h1 : s0 < nI hi
  · rw [if_pos h1]
    rw [zlt, eh, hx] at h1
    by_cases h2 : nI 0 < s0
    · rw [if_pos h2, hx]
      rw [zlt, e0, hx] at h2
      omega
    · rw [if_neg h2, e0]
      rw [zlt, e0, hx] at h2
      omega
  · rw [if_neg h1]
    rw [zlt, eh, hx] at h1
    by_cases h2 : nI 0 < nI hi
    · rw [if_pos h2, eh]
      omega
    · rw [if_neg h2, e0]
      rw [zlt, e0, eh] at h2
      omega
section RD
variable {d : Nat} {F : Option Value → zS → Prop} {X : zX} {b : Nat × Nat} {K : Nat → Nat → Option Nat} {B : Nat → Nat → Int64} {A : Nat → Int32} {n : Nat → Nat} {tx : Nat} {cl : Nat → Option (List (Nat × Nat))} {ru : Int32}
theorem zRc_tx {M : Nat → Nat → Int32} (h : zRc M tx cl) : zget zLay tx = some (.inl 8) := by
  obtain ⟨fr, to, st, h1, -⟩ := h
  exact h1
theorem znN_b {h t : Nat} (hh : h < 10) (ht : t < 10) (hp : zpa A h < 10) (hq : zpa A t < 10) : ∀ j, j < 7 → (zmsk 0).testBit j = true → -1000000 ≤ znN A n h t j ∧ znN A n h t j ≤ 1000000 := by
  intro j hj _
  have z : j = 0 ∨ j = 1 ∨ j = 2 ∨ j = 3 ∨ j = 4 ∨ j = 5 ∨ j = 6 := by omega
  have := Nat.min_le_left 9999 (zDD A n 60 h t)
  rcases z with rfl | rfl | rfl | rfl | rfl | rfl | rfl <;> (unfold znN znme; simp only; omega)
theorem lp_prd {M0 : Nat → Nat → Int32} {h : Nat} (hK : zKok K) (hX : zKx A M0 (n 0) (n 1) (n 2) (n 3) (n 5) (zDD A n)) (hb : n 0 ≤ 10) (hpa : ∀ p, p < n 0 → M0 2 p = nI (zpa A p)) (hp9 : ∀ p, p < n 0 → zpa A p < 10) (hRc : zRc M0 tx cl) (hh : h < n 0) (kk : ∀ M, (∀ c, c ≠ 39 → c ≠ 40 → M c = M0 c) → F (some (.int (nI (zrnd A n cl h)))) (X, b, zLay, K, B, M)) : ∀ (q j : Nat) (M : Nat → Nat → Int32), j + q = n 0 → (∀ c, c ≠ 39 → c ≠ 40 → M c = M0 c) → zEx (zCall (d + 7)) 3 false 1 zc_Judge_placesRound F 7 [.ref 38, .ref tx, .int (nI h), .int (nI (2 ^ h ||| zsb (fun t => zrN A n cl h t) j)), .int (nI j)] [] (X, b, zLay, K, B, M) := by
  have l3 : ∀ j, j ≤ n 0 → 2 ^ h ||| zsb (fun t => zrN A n cl h t) j < 1024 := fun j hj => zor_lt10 (zp2 (by omega)) (zsb_lt10 _ (by omega))
  intro q
  induction q with
  | zero =>
    intro j M hj u1
    have hj : j = n 0 := by omega
    subst hj
    exact zb_Judge_placesRound_7 (dv := 0) hK h _ (n 0) (zRc_tx hRc) (zRc_same (fun c hc => u1 c (by unfold zIk at hc; omega) (by unfold zIk at hc; omega)) hRc) (by rw [u1 1 (by decide) (by decide)]; exact hX.1.1) hb (by rw [u1 2 (by decide) (by decide)]; exact hpa) hp9 hh (Nat.le_refl _) (l3 _ (Nat.le_refl _)) (fun z => absurd z (by omega)) (fun _ => kk M u1) (fun z _ => absurd z (by omega)) (fun z _ => absurd z (by omega))
  | succ q ih =>
    intro j M hj u1
    have hR1 : zRc M tx cl := zRc_same (fun c hc => u1 c (by unfold zIk at hc; omega) (by unfold zIk at hc; omega)) hRc
    refine zb_Judge_placesRound_7 (dv := min 9999 (zDD A n 60 h j)) hK h _ j (zRc_tx hRc) hR1 (by rw [u1 1 (by decide) (by decide)]; exact hX.1.1) hb (by rw [u1 2 (by decide) (by decide)]; exact hpa) hp9 hh (by omega) (l3 _ (by omega)) (fun _ => by rw [u1 11 (by decide) (by decide)]; exact hX.2.2.2.2.2.2.1 h j hh (by omega)) (fun z => absurd z (by omega)) (fun _ z => ?_) (fun _ z => ?_)
    · have e0 : cl 0 = none := by
        cases e : cl 0 with
        | none => rfl
        | some c => rw [e] at z; exact absurd rfl z
      have ef : ∀ t, zrN A n cl h t = false := fun t => by unfold zrN; rw [e0]
      have e := kk M u1
      unfold zrnd at e
      rw [zsb_none (fun t _ => ef t)] at e
      rw [zsb_none (fun t _ => ef t)]
      exact e
    · cases e0 : cl 0 with
      | none => rw [e0] at z; cases z
      | some c =>
      refine sp_valC (d := d + 3) (nm := znN A n h j) (w := 0) hK (zRc_same (fun c hc => ?_) hR1) (by decide) e0 (fun i hi hm => ⟨?_, znN_b (by omega) (by omega) (hp9 h hh) (hp9 j (by omega)) i hi hm⟩) (fun v M2 v1 v2 => ?_)
      · have : c ≠ 39 := by unfold zIk at hc; omega
        simp [zu, this]
      · have y : i = 0 ∨ i = 1 ∨ i = 2 ∨ i = 3 ∨ i = 4 ∨ i = 5 ∨ i = 6 := by omega
        rcases y with rfl | rfl | rfl | rfl | rfl | rfl | rfl
        · exact nI_toInt (by omega)
        · exact nI_toInt (by have := hp9 h hh; omega)
        · exact nI_toInt (by omega)
        · exact nI_toInt (by have := hp9 j (by omega); omega)
        · exact nI_toInt (by have := Nat.min_le_left 9999 (zDD A n 60 h j); omega)
        · exact absurd hm (by decide)
        · exact absurd hm (by decide)
      · have w1 : ∀ c, c ≠ 39 → c ≠ 40 → M2 c = M0 c := fun c h1 h2 => by
          rw [v1 c h2, zu_oc h1, zu_oc h1, zu_oc h1, zu_oc h1, zu_oc h1]
          exact u1 c h1 h2
        have e := ih (j + 1) M2 (by omega) w1
        have st : zsb (fun t => zrN A n cl h t) (j + 1) = zsb (fun t => zrN A n cl h t) j ||| (bif zrN A n cl h j then 2 ^ j else 0) := rfl
        have rn : zrN A n cl h j = decide (zval (znN A n h j) c ≠ 0) := by unfold zrN; rw [e0]
        refine zb_Judge_placesRound_78 h _ j v (by omega) (l3 j (by omega)) (fun y => ?_) (fun y => ?_)
        · rw [zeq, zl0, v2] at y
          rw [rn, decide_eq_false (by rw [y]; decide), cond_false, Nat.or_zero] at st
          rw [st] at e
          exact e
        · rw [zeq, zl0, v2] at y
          rw [rn, decide_eq_true y, cond_true] at st
          rw [st, ← Nat.or_assoc] at e
          exact e
theorem sp_prd {M : Nat → Nat → Int32} {h : Nat} (hK : zKok K) (hX : zKx A M (n 0) (n 1) (n 2) (n 3) (n 5) (zDD A n)) (hb : n 0 ≤ 10) (hpa : ∀ p, p < n 0 → M 2 p = nI (zpa A p)) (hp9 : ∀ p, p < n 0 → zpa A p < 10) (hRc : zRc M tx cl) (hh : h < n 0) (kk : ∀ M', (∀ c, c ≠ 39 → c ≠ 40 → M' c = M c) → F (some (.int (nI (zrnd A n cl h)))) (X, b, zLay, K, B, M')) : zCall (d + 8) zm_Judge_placesRound [.ref 38, .ref tx, .int (nI h)] (X, b, zLay, K, B, M) F := by
  refine zb_Judge_placesRound_0 h (by omega) ?_
  have e := lp_prd (d := d) hK hX hb hpa hp9 hRc hh kk (n 0) 0 M (by omega) (fun _ _ _ => rfl)
  rw [show 2 ^ h ||| zsb (fun t => zrN A n cl h t) 0 = 2 ^ h from Nat.or_zero _] at e
  exact e
theorem sp_stl {M : Nat → Nat → Int32} {h : Nat} (hK : zKok K) (hnp : M 1 1 = nI (n 0)) (hb : n 0 ≤ 10) (hpa : ∀ p, p < n 0 → M 2 p = nI (zpa A p)) (hp9 : ∀ p, p < n 0 → zpa A p < 10) (hRc : zRc M tx cl) (hh : h < n 0) (kk : ∀ M', (∀ c, c ≠ 39 → c ≠ 40 → M' c = M c) → F (some (.int (nI (zsty A cl h)))) (X, b, zLay, K, B, M')) : zCall (d + 8) zm_Judge_stayLimit [.ref 38, .ref tx, .int (nI h)] (X, b, zLay, K, B, M) F := by
  refine zb_Judge_stayLimit_0 hK h (zRc_tx hRc) hRc hnp hb hpa hp9 hh (fun z => ?_) (fun z => ?_)
  · cases e0 : cl 1 with
    | none => rw [e0] at z; cases z
    | some c =>
    refine sp_valC (d := d + 3) (nm := znme h (zpa A h) 0 0 0 0 0) (w := 1) hK (zRc_same (fun c hc => ?_) hRc) (by decide) e0 (fun i hi hm => ?_) (fun v M2 v1 v2 => ?_)
    · have : c ≠ 39 := by unfold zIk at hc; omega
      simp [zu, this]
    · have y : i = 0 ∨ i = 1 ∨ i = 2 ∨ i = 3 ∨ i = 4 ∨ i = 5 ∨ i = 6 := by omega
      have := hp9 h hh
      rcases y with rfl | rfl | rfl | rfl | rfl | rfl | rfl
      · exact ⟨nI_toInt (by omega), by unfold znme; simp only; omega, by unfold znme; simp only; omega⟩
      · exact ⟨nI_toInt (by omega), by unfold znme; simp only; omega, by unfold znme; simp only; omega⟩
      all_goals exact absurd hm (by decide)
    · have e := kk M2 (fun c h1 h2 => by rw [v1 c h2, zu_oc h1, zu_oc h1])
      unfold zsty at e
      rw [e0] at e
      refine zb_Judge_stayLimit_25 h v 99 0 ?_
      rw [zclC v2 (by decide)]
      exact e
  · have e := kk M (fun _ _ _ => rfl)
    unfold zsty at e
    cases e0 : cl 1 with
    | none => rw [e0] at e; exact e
    | some c => rw [e0] at z; exact absurd rfl z
theorem sp_mln {M : Nat → Nat → Int32} {dy : Nat} (hd : dy ≤ 60) (hK : zKok K) (hRc : zRc M tx cl) (kk : ∀ M', (∀ c, c ≠ 39 → c ≠ 40 → M' c = M c) → F (some (.int (nI (zned cl dy)))) (X, b, zLay, K, B, M')) : zCall (d + 8) zm_Judge_milesNeeded [.ref 38, .ref tx, .int (nI dy)] (X, b, zLay, K, B, M) F := by
  refine zb_Judge_milesNeeded_0 hK dy (zRc_tx hRc) hRc (fun z => ?_) (fun z => ?_)
  · cases e0 : cl 3 with
    | none => rw [e0] at z; cases z
    | some c =>
    refine sp_valC (d := d + 3) (nm := znme 0 0 0 0 0 0 dy) (w := 3) hK (zRc_same (fun c hc => ?_) hRc) (by decide) e0 (fun i hi hm => ?_) (fun v M2 v1 v2 => ?_)
    · have : c ≠ 39 := by unfold zIk at hc; omega
      simp [zu, this]
    · have y : i = 0 ∨ i = 1 ∨ i = 2 ∨ i = 3 ∨ i = 4 ∨ i = 5 ∨ i = 6 := by omega
      rcases y with rfl | rfl | rfl | rfl | rfl | rfl | rfl
      · exact absurd hm (by decide)
      · exact absurd hm (by decide)
      · exact absurd hm (by decide)
      · exact absurd hm (by decide)
      · exact absurd hm (by decide)
      · exact absurd hm (by decide)
      · exact ⟨nI_toInt (by omega), by unfold znme; simp only; omega, by unfold znme; simp only; omega⟩
    · have e := kk M2 (fun c h1 h2 => by rw [v1 c h2, zu_oc h1])
      unfold zned at e
      rw [e0] at e
      refine zb_Judge_milesNeeded_30 dy v 9999 0 ?_
      rw [zclC v2 (by decide)]
      exact e
  · have e := kk M (fun _ _ _ => rfl)
    unfold zned at e
    cases e0 : cl 3 with
    | none => rw [e0] at e; exact e
    | some c => rw [e0] at z; exact absurd rfl z
/-- the reference -/
theorem lp_rdO {M0 : Nat → Nat → Int32} {h : Nat} (hK : zKok K) (h72 : M0 72 = A) (hmp : A 0 = nI (n 0)) (hb : n 0 ≤ 10) (hPa : zPa A (n 0)) (hm : zMr M0 60 (zDD A n 60)) (hD1 : ∀ d x y, zDD A n d x y ≤ 100000) (hD2 : ∀ d x y, x < 10 → zDD A n d x y < 100000 → zDD A n d x y ≤ 300) (hRr : zRr M0 ru cl) (hh : h < n 0) (kk : ∀ B' M, (∀ c, c ≠ 85 → M c = M0 c) → F (some (.int (nI (zrnd A n cl h)))) (X, b, zLay, K, B', M)) : ∀ (q j : Nat) (M : Nat → Nat → Int32) (B : Nat → Nat → Int64) (l5 : Value), l5.category = 1 → j + q = n 0 → (∀ c, c ≠ 85 → M c = M0 c) → zEx (zCall (d + 7)) 10 false 1 zc_Model_roundOf F 7 [.ref 71, .int ru, .int (nI h), .int (nI (2 ^ h ||| zsb (fun t => zrN A n cl h t) j)), .int (nI j), l5] [] (X, b, zLay, K, B, M) := by
  have l3 : ∀ j, j ≤ n 0 → 2 ^ h ||| zsb (fun t => zrN A n cl h t) j < 1024 := fun j hj => zor_lt10 (zp2 (by omega)) (zsb_lt10 _ (by omega))
  have hp9 := hPa.2
  intro q
  induction q with
  | zero =>
    intro j M B l5 c5 hj u1
    have hj : j = n 0 := by omega
    subst hj
    have e72 : M 72 = A := (u1 72 (by decide)).trans h72
    exact zb_Model_roundOf_7 (dv := 0) hK ru h _ (n 0) l5 c5 (zRr_same (fun c _ _ => u1 c (by omega)) hRr) (by rw [e72]; exact hmp) hb (by rw [e72]; exact hPa.1) hp9 hh (Nat.le_refl _) (l3 _ (Nat.le_refl _)) (fun z => absurd z (by omega)) (by omega) (fun _ => kk B M u1) (fun z _ => absurd z (by omega)) (fun z _ _ => absurd z (by omega)) (fun z _ _ _ => absurd z (by omega)) (fun z _ _ _ => absurd z (by omega))
  | succ q ih =>
    intro j M B l5 c5 hj u1
    have e72 : M 72 = A := (u1 72 (by decide)).trans h72
    have hR1 : zRr M ru cl := zRr_same (fun c _ _ => u1 c (by omega)) hRr
    have st : zsb (fun t => zrN A n cl h t) (j + 1) = zsb (fun t => zrN A n cl h t) j ||| (bif zrN A n cl h j then 2 ^ j else 0) := rfl
    have go : ∀ (mv : Int32) (M1 : Nat → Nat → Int32), mv = nI (min 9999 (zDD A n 60 h j)) → (cl 0).isSome = true → M1 = (zu (zu (zu (zu (zu M 85 0 (nI h)) 85 1 (nI (zpa A h))) 85 2 (nI j)) 85 3 (nI (zpa A j))) 85 4 mv) → zCall (d + 7) zm_Model_says [.ref 71, .int ru, .int 0] (X, (0, 0), zLay, K, B, M1) (zGo (d + 7) 10 false 1 zc_Model_roundOf F 125 [.ref 71, .int ru, .int (nI h), .int (nI (2 ^ h ||| zsb (fun t => zrN A n cl h t) j)), .int (nI j), .int (nI (zDD A n 60 h j))] [] b) := by
      intro mv M1 hmv z hM1
      subst hmv hM1
      cases e0 : cl 0 with
      | none => rw [e0] at z; cases z
      | some c =>
      have nb := znN_b (n := n) (h := h) (t := j) (by omega) (by omega) (hp9 h hh) (hp9 j (by omega))
      refine sp_saysR (d := d + 1) (nm := znN A n h j) (w := 0) hK (zRr_same (fun c h1 h2 => ?_) hR1) (by decide) e0 (fun i hi hm => ⟨?_, nb i hi hm⟩) (fun v B2 v2 => ?_)
      · have : c ≠ 85 := by omega
        simp [zu, this]
      · have y : i = 0 ∨ i = 1 ∨ i = 2 ∨ i = 3 ∨ i = 4 ∨ i = 5 ∨ i = 6 := by omega
        rcases y with rfl | rfl | rfl | rfl | rfl | rfl | rfl
        · exact nI_toInt (by omega)
        · exact nI_toInt (by have := hp9 h hh; omega)
        · exact nI_toInt (by omega)
        · exact nI_toInt (by have := hp9 j (by omega); omega)
        · exact nI_toInt (by have := Nat.min_le_left 9999 (zDD A n 60 h j); omega)
        · exact absurd hm (by decide)
        · exact absurd hm (by decide)
      · have e := ih (j + 1) (zu (zu (zu (zu (zu M 85 0 (nI h)) 85 1 (nI (zpa A h))) 85 2 (nI j)) 85 3 (nI (zpa A j))) 85 4 (nI (min 9999 (zDD A n 60 h j)))) B2 (.int (nI (zDD A n 60 h j))) rfl (by omega) (fun c h1 => by rw [zu_oc h1, zu_oc h1, zu_oc h1, zu_oc h1, zu_oc h1]; exact u1 c h1)
        have rn : zrN A n cl h j = decide (zval (znN A n h j) c ≠ 0) := by unfold zrN; rw [e0]
        have v01 := zval_01 (w := 0) rfl nb (zRr_ty hRr (by decide) e0)
        refine zb_Model_roundOf_125 ru h _ j (zDD A n 60 h j) v (by omega) (l3 j (by omega)) (fun y => ?_) (fun y => ?_)
        · rw [lg_cmp_le, zLle, v2, zL0] at y
          rw [rn, decide_eq_false (by omega), cond_false, Nat.or_zero] at st
          rw [st] at e
          exact e
        · rw [lg_cmp_le, zLle, v2, zL0] at y
          rw [rn, decide_eq_true (by omega), cond_true] at st
          rw [st, ← Nat.or_assoc] at e
          exact e
    refine zb_Model_roundOf_7 (dv := zDD A n 60 h j) hK ru h _ j l5 c5 hR1 (by rw [e72]; exact hmp) hb (by rw [e72]; exact hPa.1) hp9 hh (by omega) (l3 _ (by omega)) (fun _ => by rw [u1 87 (by decide)]; exact hm h j (by omega) (by omega)) (hD1 _ _ _) (fun z => absurd z (by omega)) (fun _ z => ?_) (fun _ _ z => ?_) (fun _ _ z z2 => go _ _ (by rw [Nat.min_eq_right (by have := hD2 60 h j (by omega) z2; omega)]) z rfl) (fun _ _ z z2 => go _ _ (by rw [Nat.min_eq_left (by omega)]; rfl) z rfl)
    · have e := ih (j + 1) M B l5 c5 (by omega) u1
      have : 2 ^ h ||| zsb (fun t => zrN A n cl h t) (j + 1) = 2 ^ h ||| zsb (fun t => zrN A n cl h t) j := by
        rw [st, z]
        cases zrN A n cl h h
        · rw [cond_false, Nat.or_zero]
        · rw [cond_true, Nat.or_comm (zsb _ h), ← Nat.or_assoc, Nat.or_self]
      rw [this] at e
      exact e
    · have e0 : cl 0 = none := by
        cases e : cl 0 with
        | none => rfl
        | some c => rw [e] at z; exact absurd rfl z
      have e := ih (j + 1) M B l5 c5 (by omega) u1
      rw [show zrN A n cl h j = false by unfold zrN; rw [e0], cond_false, Nat.or_zero] at st
      rw [st] at e
      exact e
theorem sp_rdO {M : Nat → Nat → Int32} {h : Nat} (hK : zKok K) (h72 : M 72 = A) (hmp : A 0 = nI (n 0)) (hb : n 0 ≤ 10) (hPa : zPa A (n 0)) (hm : zMr M 60 (zDD A n 60)) (hD1 : ∀ d x y, zDD A n d x y ≤ 100000) (hD2 : ∀ d x y, x < 10 → zDD A n d x y < 100000 → zDD A n d x y ≤ 300) (hRr : zRr M ru cl) (hh : h < n 0) (kk : ∀ B' M', (∀ c, c ≠ 85 → M' c = M c) → F (some (.int (nI (zrnd A n cl h)))) (X, b, zLay, K, B', M')) : zCall (d + 8) zm_Model_roundOf [.ref 71, .int ru, .int (nI h)] (X, b, zLay, K, B, M) F := by
  refine zb_Model_roundOf_0 ru h (by omega) ?_
  have e := lp_rdO (d := d) hK h72 hmp hb hPa hm hD1 hD2 hRr hh kk (n 0) 0 M B .null rfl (by omega) (fun _ _ => rfl)
  rw [show 2 ^ h ||| zsb (fun t => zrN A n cl h t) 0 = 2 ^ h from Nat.or_zero _] at e
  exact e
theorem zhe {v : Int64} {x : Int} {hi : Nat} (hv : v.toInt = x) (hh : hi ≤ 9999) : (0 ≤ x → x ≤ hi → v.toInt32 = nI (max 0 (min (hi : Int) x)).toNat) := by
  intro h1 h2
  apply Int32.toInt_inj.mp
  rw [Int64.toInt_toInt32, hv, nI_toInt (by omega), Int.bmod_eq_of_le (by omega) (by omega)]
  omega
theorem sp_sto {M : Nat → Nat → Int32} {h : Nat} (hK : zKok K) (h72 : M 72 = A) (hmp : A 0 = nI (n 0)) (hb : n 0 ≤ 10) (hPa : zPa A (n 0)) (hRr : zRr M ru cl) (hh : h < n 0) (kk : ∀ B' M', (∀ c, c ≠ 85 → M' c = M c) → F (some (.int (nI (zsty A cl h)))) (X, b, zLay, K, B', M')) : zCall (d + 8) zm_Model_stayOf [.ref 71, .int ru, .int (nI h)] (X, b, zLay, K, B, M) F := by
  have hp9 := hPa.2
  refine zb_Model_stayOf_0 hK ru h hRr (by rw [h72]; exact hmp) hb (by rw [h72]; exact hPa.1) hp9 hh (fun z => ?_) (fun z => ?_)
  · cases e0 : cl 1 with
    | none => rw [e0] at z; cases z
    | some c =>
    refine sp_saysR (d := d + 1) (nm := znme h (zpa A h) 0 0 0 0 0) (w := 1) hK (zRr_same (fun c h1 h2 => ?_) hRr) (by decide) e0 (fun i hi hm => ?_) (fun v B2 v2 => ?_)
    · have : c ≠ 85 := by omega
      simp [zu, this]
    · have y : i = 0 ∨ i = 1 ∨ i = 2 ∨ i = 3 ∨ i = 4 ∨ i = 5 ∨ i = 6 := by omega
      have := hp9 h hh
      rcases y with rfl | rfl | rfl | rfl | rfl | rfl | rfl
      · exact ⟨nI_toInt (by omega), by unfold znme; simp only; omega, by unfold znme; simp only; omega⟩
      · exact ⟨nI_toInt (by omega), by unfold znme; simp only; omega, by unfold znme; simp only; omega⟩
      all_goals exact absurd hm (by decide)
    · have e := kk B2 _ (fun c h1 => by rw [zu_oc h1, zu_oc h1] : ∀ c, c ≠ 85 → (zu (zu M 85 0 (nI h)) 85 1 (nI (zpa A h))) c = M c)
      unfold zsty at e
      rw [e0] at e
      have c0 : ((0 : Int32).toInt64).toInt = 0 := rfl
      have c9 : ((99 : Int32).toInt64).toInt = 99 := rfl
      refine zb_Model_stayOf_40 ru h v (fun y y2 => ?_) (fun y y2 => ?_) (fun y => ?_)
      · rw [lg_cmp_ge, zLle, v2, c0] at y
        rw [lg_cmp_le, zLle, v2, c9] at y2
        rw [zhe (hi := 99) v2 (by decide) y y2]
        exact e
      · rw [lg_cmp_le, zLle, v2, c9] at y2
        have : (max 0 (min 99 (zval (znme h (zpa A h) 0 0 0 0 0) c))).toNat = 99 := by omega
        simp only [this] at e
        exact e
      · rw [lg_cmp_ge, zLle, v2, c0] at y
        have : (max 0 (min 99 (zval (znme h (zpa A h) 0 0 0 0 0) c))).toNat = 0 := by omega
        simp only [this] at e
        exact e
  · have e := kk B M (fun _ _ => rfl)
    unfold zsty at e
    cases e0 : cl 1 with
    | none => rw [e0] at e; exact e
    | some c => rw [e0] at z; exact absurd rfl z
end RD
