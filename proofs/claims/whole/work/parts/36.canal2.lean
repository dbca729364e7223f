/-! ===== the class's tables ===== -/
/-- only cell c has changed, and there only from lo up to hi -/
def zRf (c lo hi : Nat) (M0 M : Nat → Nat → Int32) : Prop := (∀ e, e ≠ c → M e = M0 e) ∧ ∀ i, i < lo ∨ hi ≤ i → M c i = M0 c i
theorem zRf_put {c lo hi i : Nat} {M0 M : Nat → Nat → Int32} (h : zRf c lo hi M0 M) (h1 : lo ≤ i) (h2 : i < hi) (v : Int32) : zRf c lo hi M0 (zu M c i v) := by
  refine ⟨fun e he => ?_, fun k hk => ?_⟩
  · funext k
    rw [zu_no (by omega), h.1 e he]
  · rw [zu_no (by omega), h.2 k hk]
theorem zRf_rfl (c lo hi : Nat) (M : Nat → Nat → Int32) : zRf c lo hi M M := ⟨fun _ _ => rfl, fun _ _ => rfl⟩
theorem zCk_same {M0 M : Nat → Nat → Int32} {np nw ns pc : Nat} (h1 : ∀ i, i ≠ 11 → i ≠ 12 → M 1 i = M0 1 i) (h : ∀ c, 3 ≤ c → c ≤ 8 → M c = M0 c) (hC : zCk M0 np nw ns pc) : zCk M np nw ns pc ∧ zcd M = zcd M0 := by
  have e : zcd M = zcd M0 := by
    funext c i
    unfold zcd
    by_cases hc : 3 ≤ c ∧ c ≤ 8
    · rw [if_pos hc, if_pos hc, h c hc.1 hc.2]
    · rw [if_neg hc, if_neg hc]
  refine ⟨?_, e⟩
  unfold zCk
  rw [e, h1 1 (by decide) (by decide), h1 5 (by decide) (by decide), h1 9 (by decide) (by decide), h1 10 (by decide) (by decide), h 3 (by decide) (by decide), h 4 (by decide) (by decide), h 5 (by decide) (by decide), h 6 (by decide) (by decide), h 7 (by decide) (by decide), h 8 (by decide) (by decide)]
  exact hC
theorem zCk_rf {c lo hi : Nat} {M0 M : Nat → Nat → Int32} {np nw ns pc : Nat} (h : zRf c lo hi M0 M) (hc : 9 ≤ c) (hC : zCk M0 np nw ns pc) : zCk M np nw ns pc ∧ zcd M = zcd M0 := zCk_same (fun i _ _ => by rw [h.1 1 (by omega)]) (fun e h1 h2 => h.1 e (by omega)) hC
section CM
variable {d : Nat} {F : Option Value → zS → Prop} {X : zX} {b : Nat × Nat} {K : Nat → Nat → Option Nat} {B : Nat → Nat → Int64} {M0 : Nat → Nat → Int32} {np nw ns pc : Nat}
theorem lp_wso {M : Nat → Nat → Int32} (hK : zKok K) (hC : zCk M np nw ns pc) {dd : Nat} (hd : dd < 60) (kk : F (some (.int (nI (zsb (fun w => zshut (zcd M) w dd ns) 15)))) (X, b, zLay, K, B, M)) : ∀ (m k : Nat), k + m = ns → zEx (zCall d) 0 false 1 zc_Canal_waysShutOn F 4 [.ref 1, .int (nI dd), .int (nI (zsb (fun w => zshut (zcd M) w dd k) 15)), .int (nI k)] [] (X, b, zLay, K, B, M) := by
  have hB := hC.2.2.2.2.1
  intro m
  induction m with
  | zero =>
    intro k hk
    have hk : k = ns := by omega
    subst hk
    exact zb_Canal_waysShutOn_4 hK dd _ k hC hB hd (by omega) (fun h => absurd h (by omega)) (fun _ => kk) (fun h => absurd h (by omega)) (fun h => absurd h (by omega)) (fun h => absurd h (by omega))
  | succ m ih =>
    intro k hk
    obtain ⟨x1, x2, x3, x4, x5, x6⟩ := hC.2.2.2.2.2.2 k (by omega)
    have st : ∀ w, zshut (zcd M) w dd (k + 1) = (zshut (zcd M) w dd k || (Nat.beq (zcd M 6 k) w && (Nat.ble (zcd M 7 k) dd && Nat.ble dd (zcd M 8 k)))) := fun _ => rfl
    have no : (Nat.ble (zcd M 7 k) dd && Nat.ble dd (zcd M 8 k)) = false → zEx (zCall d) 0 false 1 zc_Canal_waysShutOn F 4 [.ref 1, .int (nI dd), .int (nI (zsb (fun w => zshut (zcd M) w dd k) 15)), .int (nI (k + 1))] [] (X, b, zLay, K, B, M) := by
      intro hq
      have := ih (k + 1) (by omega)
      have e : zsb (fun w => zshut (zcd M) w dd (k + 1)) 15 = zsb (fun w => zshut (zcd M) w dd k) 15 := zsb_ext (fun p _ => by rw [st, hq, Bool.and_false, Bool.or_false])
      rw [e] at this
      exact this
    refine zb_Canal_waysShutOn_4 hK dd _ k hC hB hd (by omega) (fun _ => ⟨by omega, x5, x6⟩) (fun h => absurd h (by omega)) (fun _ h => no ?_) (fun _ _ h => no ?_) (fun _ h1 h2 => ?_)
    · have : Nat.ble (zcd M 7 k) dd = false := by
        cases q : Nat.ble (zcd M 7 k) dd
        · rfl
        · have := Nat.le_of_ble_eq_true q; omega
      rw [this]; rfl
    · have : Nat.ble dd (zcd M 8 k) = false := by
        cases q : Nat.ble dd (zcd M 8 k)
        · rfl
        · have := Nat.le_of_ble_eq_true q; omega
      rw [this, Bool.and_false]
    · have := ih (k + 1) (by omega)
      have e : zsb (fun w => zshut (zcd M) w dd (k + 1)) 15 = zsb (fun w => zshut (zcd M) w dd k) 15 ||| 2 ^ (zcd M 6 k) := by
        apply Nat.eq_of_testBit_eq
        intro i
        rw [Nat.testBit_or, zsb_bit, zsb_bit, Nat.testBit_two_pow, st, Nat.ble_eq_true_of_le h1, Nat.ble_eq_true_of_le h2]
        by_cases hi : zcd M 6 k = i
        · subst hi
          have : decide (zcd M 6 k < 15) = true := decide_eq_true (by omega)
          rw [this]
          simp
        · have : Nat.beq (zcd M 6 k) i = false := by
            cases q : Nat.beq (zcd M 6 k) i
            · rfl
            · exact absurd (Nat.eq_of_beq_eq_true q) hi
          rw [this]
          simp [hi]
      rw [e] at this
      exact this
theorem sp_waysShutOn {M : Nat → Nat → Int32} (hK : zKok K) (hC : zCk M np nw ns pc) {dd : Nat} (hd : dd < 60) (kk : F (some (.int (nI (zsb (fun w => zshut (zcd M) w dd ns) 15)))) (X, b, zLay, K, B, M)) : zCall (d + 1) zm_Canal_waysShutOn [.ref 1, .int (nI dd)] (X, b, zLay, K, B, M) F := by
  refine zb_Canal_waysShutOn_0 dd hC hC.2.2.2.2.1 hd ?_
  have := lp_wso (d := d) hK hC hd kk ns 0 (by omega)
  have e : zsb (fun w => zshut (zcd M) w dd 0) 15 = 0 := by
    apply Nat.eq_of_testBit_eq
    intro i
    rw [zsb_bit, Nat.zero_testBit]
    simp [zshut]
  rw [e] at this
  exact this
def zR11 (M : Nat → Nat → Int32) (t np : Nat) (r : Nat → Nat → Nat) : Prop := ∀ x y, x < np → y < np → M 11 (100 * t + 10 * x + y) = nI (min 9999 (r x y))
theorem lp_lw2 (hK : zKok K) (hC : zCk M0 np nw ns pc) {t cm : Nat} (ht : t < 22) (hcm : cm < 2 ^ 15) (kk : ∀ M, zRf 11 (100 * t) (100 * t + 100) M0 M → (∀ j, j < 100 → M 11 (100 * t + j) = 9999) → zEx (zCall (d + 1)) 0 false 0 zc_Canal_layWays F 27 [.ref 1, .int (nI (100 * t)), .int (nI cm), .int (nI 0), .null, .null] [] (X, b, zLay, K, B, M)) : ∀ (m k : Nat) (M : Nat → Nat → Int32), k + m = 100 → zRf 11 (100 * t) (100 * t + 100) M0 M → (∀ j, j < k → M 11 (100 * t + j) = 9999) → zEx (zCall (d + 1)) 0 false 0 zc_Canal_layWays F 2 [.ref 1, .int (nI (100 * t)), .int (nI cm), .int (nI k), .null, .null] [] (X, b, zLay, K, B, M) := by
  have hB := hC.2.2.2.2.1
  intro m
  induction m with
  | zero =>
    intro k M hk hf hj
    refine zb_Canal_layWays_2 (r := fun _ _ => 0) hK cm k (zCk_rf hf (by decide) hC).1 hB ht hcm (by omega) (fun _ => ?_) (fun h => absurd h (by omega))
    exact kk M hf (fun j h => hj j (by omega))
  | succ m ih =>
    intro k M hk hf hj
    refine zb_Canal_layWays_2 (r := fun _ _ => 0) hK cm k (zCk_rf hf (by decide) hC).1 hB ht hcm (by omega) (fun h => absurd h (by omega)) (fun _ => ?_)
    refine ih (k + 1) _ (by omega) (zRf_put hf (by omega) (by omega) _) (fun j hj2 => ?_)
    by_cases e : j = k
    · subst e; rw [zu_yes]
    · rw [zu_no (by omega), hj j (by omega)]
theorem lp_lw27 (hK : zKok K) (hC : zCk M0 np nw ns pc) {t cm dd : Nat} (ht : t < 22) (hcm : cm < 2 ^ 15) (kk : ∀ M, zRf 11 (100 * t) (100 * t + 100) M0 M → zR11 M t np (zW (zcd M0) ns dd 0) → zEx (zCall (d + 1)) 0 false 0 zc_Canal_layWays F 57 [.ref 1, .int (nI (100 * t)), .int (nI cm), .int (nI 0), .null, .null] [] (X, b, zLay, K, B, M)) : ∀ (m k : Nat) (M : Nat → Nat → Int32), k + m = np → zRf 11 (100 * t) (100 * t + 100) M0 M → (∀ x y, x < np → y < np → M 11 (100 * t + 10 * x + y) = nI (if x = y ∧ x < k then 0 else 9999)) → zEx (zCall (d + 1)) 0 false 0 zc_Canal_layWays F 27 [.ref 1, .int (nI (100 * t)), .int (nI cm), .int (nI k), .null, .null] [] (X, b, zLay, K, B, M) := by
  have hB := hC.2.2.2.2.1
  intro m
  induction m with
  | zero =>
    intro k M hk hf hj
    refine zb_Canal_layWays_27 (r := fun _ _ => 0) hK cm k (zCk_rf hf (by decide) hC).1 hB ht hcm (by omega) (fun _ => ?_) (fun h => absurd h (by omega))
    refine kk M hf (fun x y hx hy => ?_)
    rw [hj x y hx hy, zW_0]
    congr 1
    by_cases e : x = y
    · rw [if_pos ⟨e, by omega⟩, if_pos e]; rfl
    · rw [if_neg (fun q => e q.1), if_neg e]; rfl
  | succ m ih =>
    intro k M hk hf hj
    refine zb_Canal_layWays_27 (r := fun _ _ => 0) hK cm k (zCk_rf hf (by decide) hC).1 hB ht hcm (by omega) (fun h => absurd h (by omega)) (fun _ => ?_)
    refine ih (k + 1) _ (by omega) (zRf_put hf (by omega) (by omega) _) (fun x y hx hy => ?_)
    by_cases e : x = k ∧ y = k
    · rw [e.1, e.2, show 100 * t + 10 * k + k = 100 * t + 11 * k by omega, zu_yes, if_pos ⟨rfl, by omega⟩]; rfl
    · rw [zu_no (by omega), hj x y hx hy]
      by_cases e2 : x = y ∧ x < k
      · rw [if_pos e2, if_pos (by omega)]
      · rw [if_neg e2, if_neg (by omega)]
theorem lp_lw57 (hK : zKok K) (hC : zCk M0 np nw ns pc) {t cm dd : Nat} (ht : t < 22) (hcm : cm < 2 ^ 15) (ho : ∀ w, w < nw → (cm.testBit w = false ↔ zopn (zcd M0) ns dd w)) (kk : ∀ M, zRf 11 (100 * t) (100 * t + 100) M0 M → zR11 M t np (zW (zcd M0) ns dd nw) → F none (X, b, zLay, K, B, M)) : ∀ (m k : Nat) (M : Nat → Nat → Int32) (l4 l5 : Value), l4.category = 1 → l5.category = 1 → k + m = nw → zRf 11 (100 * t) (100 * t + 100) M0 M → zR11 M t np (zW (zcd M0) ns dd k) → zEx (zCall (d + 1)) 0 false 0 zc_Canal_layWays F 57 [.ref 1, .int (nI (100 * t)), .int (nI cm), .int (nI k), l4, l5] [] (X, b, zLay, K, B, M) := by
  have hB := hC.2.2.2.2.1
  intro m
  induction m with
  | zero =>
    intro k M l4 l5 q4 q5 hk hf hj
    have hk : k = nw := by omega
    subst hk
    exact zb_Canal_layWays_57 (r := fun x y => min 9999 (zW (zcd M0) ns dd k x y)) hK cm k l4 l5 q4 q5 (zCk_rf hf (by decide) hC).1 hB ht hcm (by omega) (fun h => absurd h (by omega)) hj (fun _ => kk M hf hj) (fun h => absurd h (by omega)) (fun h => absurd h (by omega))
  | succ m ih =>
    intro k M l4 l5 q4 q5 hk hf hj
    obtain ⟨hC', eg⟩ := zCk_rf hf (by decide) hC
    obtain ⟨x1, x2, x3, x4, x5, x6, x7⟩ := hC.2.2.2.2.2.1 k (by omega)
    have hW := zW_base (s := ns) (d := dd) (zWok_le (zCk_w hC) (show k ≤ nw by omega))
    refine zb_Canal_layWays_57 (r := fun x y => min 9999 (zW (zcd M0) ns dd k x y)) hK cm k l4 l5 q4 q5 hC' hB ht hcm (by omega) ?_ hj (fun h => absurd h (by omega)) ?_ ?_
    · rw [eg]; exact fun _ => ⟨x4, x5, x7, by omega⟩
    · rw [eg]
      intro _ h2
      have hop := (ho k (by omega)).mp (eq_false_of_ne_true h2)
      refine ih (k + 1) _ _ _ rfl rfl (by omega) (zRf_put (zRf_put hf (by omega) (by omega) _) (by omega) (by omega) _) (fun x y hx hy => ?_)
      rw [zW_s hop]
      by_cases e1 : x = zcd M0 4 k ∧ y = zcd M0 3 k
      · rw [if_pos (Or.inl e1), e1.1, e1.2, zu_yes]
        congr 1
        omega
      · by_cases e2 : x = zcd M0 3 k ∧ y = zcd M0 4 k
        · rw [if_pos (Or.inr e2), e2.1, e2.2, zu_no (by omega), zu_yes]
          congr 1
          omega
        · rw [if_neg (by omega), zu_no (by omega), zu_no (by omega)]
          exact hj x y hx hy
    · intro _ h2
      have hop : ¬ zopn (zcd M0) ns dd k := fun q => by
        have := (ho k (by omega)).mpr q
        rw [this] at h2; cases h2
      refine ih (k + 1) _ _ _ q4 q5 (by omega) hf (fun x y hx hy => ?_)
      rw [zW_n hop]
      exact hj x y hx hy
theorem sp_layWays {M : Nat → Nat → Int32} (hK : zKok K) (hC : zCk M np nw ns pc) {t cm dd : Nat} (ht : t < 22) (hcm : cm < 2 ^ 15) (ho : ∀ w, w < nw → (cm.testBit w = false ↔ zopn (zcd M) ns dd w)) (kk : ∀ M', zRf 11 (100 * t) (100 * t + 100) M M' → zR11 M' t np (zW (zcd M) ns dd nw) → F none (X, b, zLay, K, B, M')) : zCall (d + 2) zm_Canal_layWays [.ref 1, .int (nI (100 * t)), .int (nI cm)] (X, b, zLay, K, B, M) F := by
  have hB := hC.2.2.2.2.1
  refine zb_Canal_layWays_0 (r := fun _ _ => 0) cm hC hB ht hcm ?_
  refine lp_lw2 hK hC ht hcm (fun M1 f1 r1 => ?_) 100 0 M (by omega) (zRf_rfl _ _ _ _) (fun j hj => absurd hj (by omega))
  refine lp_lw27 (dd := dd) hK hC ht hcm (fun M2 f2 r2 => ?_) np 0 M1 (by omega) f1 (fun x y hx hy => ?_)
  · exact lp_lw57 hK hC ht hcm ho kk nw 0 M2 .null .null rfl rfl (by omega) f2 r2
  · rw [show 100 * t + 10 * x + y = 100 * t + (10 * x + y) by omega, r1 _ (by omega), if_neg (by omega)]; rfl
theorem lp_jw49 (hK : zKok K) (hC : zCk M0 np nw ns pc) {t k f : Nat} (ht : t < 22) (hk : k < np) (hf0 : f < np) {r : Nat → Nat → Nat} (h0 : ∀ x, r x x = 0) (kk : ∀ M (l4 l5 l6 l7 : Value), l4.category = 1 → l5.category = 1 → l6.category = 1 → l7.category = 1 → zRf 11 (100 * t) (100 * t + 100) M0 M → zR11 M t np (fun x y => if x < f + 1 then zFs k r x y else r x y) → zEx (zCall d) 0 false 0 zc_Canal_joinWays F 12 [.ref 1, .int (nI (100 * t)), .int (nI k), .int (nI (f + 1)), l4, l5, l6, l7] [] (X, b, zLay, K, B, M)) : ∀ (m j : Nat) (M : Nat → Nat → Int32) (l6 l7 : Value), l6.category = 1 → l7.category = 1 → j + m = np → zRf 11 (100 * t) (100 * t + 100) M0 M → zR11 M t np (fun x y => if x < f ∨ (x = f ∧ y < j) then zFs k r x y else r x y) → zEx (zCall d) 0 false 0 zc_Canal_joinWays F 49 [.ref 1, .int (nI (100 * t)), .int (nI k), .int (nI f), .int (nI (min 9999 (r f k))), .int (nI j), l6, l7] [] (X, b, zLay, K, B, M) := by
  have hB := hC.2.2.2.2.1
  intro m
  induction m with
  | zero =>
    intro j M l6 l7 q6 q7 hj hf hr
    refine zb_Canal_joinWays_49 (v1 := 0) (v2 := 0) (v3 := 0) hK k f _ j l6 l7 q6 q7 (zCk_rf hf (by decide) hC).1 hB ht hk hf0 (by omega) (by omega) (fun h => absurd h (by omega)) (fun h => absurd h (by omega)) (by omega) (fun _ => ?_) (fun h => absurd h (by omega))
    refine kk M _ _ _ _ rfl rfl q6 q7 hf (fun x y hx hy => ?_)
    have := hr x y hx hy
    rw [this]
    show nI (min 9999 (if x < f ∨ (x = f ∧ y < j) then zFs k r x y else r x y)) = nI (min 9999 (if x < f + 1 then zFs k r x y else r x y))
    by_cases e : x < f + 1
    · rw [if_pos e, if_pos (by omega)]
    · rw [if_neg e, if_neg (by omega)]
  | succ m ih =>
    intro j M l6 l7 q6 q7 hj hf hr
    have e2 : M 11 (100 * t + 10 * k + j) = nI (min 9999 (r k j)) := by
      rw [hr k j hk (by omega)]
      show nI (min 9999 (if k < f ∨ (k = f ∧ j < j) then zFs k r k j else r k j)) = _
      rw [zFs_eq, h0 k]
      congr 1
      split <;> omega
    have e3 : M 11 (100 * t + 10 * f + j) = nI (min 9999 (r f j)) := by
      rw [hr f j hf0 (by omega)]
      show nI (min 9999 (if f < f ∨ (f = f ∧ j < j) then zFs k r f j else r f j)) = _
      rw [if_neg (by omega)]
    refine zb_Canal_joinWays_49 (v1 := 0) (v2 := min 9999 (r k j)) (v3 := min 9999 (r f j)) hK k f _ j l6 l7 q6 q7 (zCk_rf hf (by decide) hC).1 hB ht hk hf0 (by omega) (by omega) (fun _ => e2) (fun _ => e3) (by omega) (fun h => absurd h (by omega)) (fun _ => ?_)
    refine ih (j + 1) _ _ _ rfl rfl (by omega) (zRf_put hf (by omega) (by omega) _) (fun x y hx hy => ?_)
    show _ = nI (min 9999 (if x < f ∨ (x = f ∧ y < j + 1) then zFs k r x y else r x y))
    by_cases e : x = f ∧ y = j
    · rw [e.1, e.2, zu_yes, if_pos (by omega), zFs_eq]
      congr 1
      omega
    · rw [zu_no (by omega), hr x y hx hy]
      show nI (min 9999 (if x < f ∨ (x = f ∧ y < j) then zFs k r x y else r x y)) = _
      by_cases e4 : x < f ∨ (x = f ∧ y < j)
      · rw [if_pos e4, if_pos (by omega)]
      · rw [if_neg e4, if_neg (by omega)]
theorem lp_jw12 (hK : zKok K) (hC : zCk M0 np nw ns pc) {t k : Nat} (ht : t < 22) (hk : k < np) {r : Nat → Nat → Nat} (h0 : ∀ x, r x x = 0) (kk : ∀ M (l3 l4 l5 l6 l7 : Value), l3.category = 1 → l4.category = 1 → l5.category = 1 → l6.category = 1 → l7.category = 1 → zRf 11 (100 * t) (100 * t + 100) M0 M → zR11 M t np (zFs k r) → zEx (zCall d) 0 false 0 zc_Canal_joinWays F 2 [.ref 1, .int (nI (100 * t)), .int (nI (k + 1)), l3, l4, l5, l6, l7] [] (X, b, zLay, K, B, M)) : ∀ (m f : Nat) (M : Nat → Nat → Int32) (l4 l5 l6 l7 : Value), l4.category = 1 → l5.category = 1 → l6.category = 1 → l7.category = 1 → f + m = np → zRf 11 (100 * t) (100 * t + 100) M0 M → zR11 M t np (fun x y => if x < f then zFs k r x y else r x y) → zEx (zCall d) 0 false 0 zc_Canal_joinWays F 12 [.ref 1, .int (nI (100 * t)), .int (nI k), .int (nI f), l4, l5, l6, l7] [] (X, b, zLay, K, B, M) := by
  have hB := hC.2.2.2.2.1
  intro m
  induction m with
  | zero =>
    intro f M l4 l5 l6 l7 q4 q5 q6 q7 hj hf hr
    refine zb_Canal_joinWays_12 (v1 := 0) (v2 := 0) (v3 := 0) hK k f l4 l5 l6 l7 q4 q5 q6 q7 (zCk_rf hf (by decide) hC).1 hB ht hk (by omega) (fun h => absurd h (by omega)) (by omega) (fun _ => ?_) (fun h => absurd h (by omega)) (fun h => absurd h (by omega))
    refine kk M _ _ _ _ _ rfl q4 q5 q6 q7 hf (fun x y hx hy => ?_)
    rw [hr x y hx hy]
    show nI (min 9999 (if x < f then zFs k r x y else r x y)) = _
    rw [if_pos (by omega)]
  | succ m ih =>
    intro f M l4 l5 l6 l7 q4 q5 q6 q7 hj hf hr
    have e1 : M 11 (100 * t + 10 * f + k) = nI (min 9999 (r f k)) := by
      rw [hr f k (by omega) hk]
      show nI (min 9999 (if f < f then zFs k r f k else r f k)) = _
      rw [if_neg (by omega)]
    refine zb_Canal_joinWays_12 (v1 := min 9999 (r f k)) (v2 := 0) (v3 := 0) hK k f l4 l5 l6 l7 q4 q5 q6 q7 (zCk_rf hf (by decide) hC).1 hB ht hk (by omega) (fun _ => e1) (by omega) (fun h => absurd h (by omega)) (fun _ _ => ?_) (fun _ h => ?_)
    · refine lp_jw49 hK hC ht hk (by omega) h0 (fun M' l4 l5 l6 l7 q4 q5 q6 q7 hf' hr' => ih (f + 1) M' l4 l5 l6 l7 q4 q5 q6 q7 (by omega) hf' hr') np 0 M l6 l7 q6 q7 (by omega) hf (fun x y hx hy => ?_)
      rw [hr x y hx hy]
      show nI (min 9999 (if x < f then zFs k r x y else r x y)) = nI (min 9999 (if x < f ∨ (x = f ∧ y < 0) then zFs k r x y else r x y))
      by_cases e : x < f
      · rw [if_pos e, if_pos (by omega)]
      · rw [if_neg e, if_neg (by omega)]
    · refine ih (f + 1) M _ _ _ _ rfl q5 q6 q7 (by omega) hf (fun x y hx hy => ?_)
      rw [hr x y hx hy]
      show nI (min 9999 (if x < f then zFs k r x y else r x y)) = nI (min 9999 (if x < f + 1 then zFs k r x y else r x y))
      by_cases e : x < f
      · rw [if_pos e, if_pos (by omega)]
      · rw [if_neg e]
        by_cases e2 : x = f
        · subst e2
          rw [if_pos (by omega), zFs_eq]
          congr 1
          omega
        · rw [if_neg (by omega)]
theorem lp_jw2 (hK : zKok K) (hC : zCk M0 np nw ns pc) {t dd : Nat} (ht : t < 22) (kk : ∀ M, zRf 11 (100 * t) (100 * t + 100) M0 M → zR11 M t np (zD (zcd M0) nw ns dd) → F none (X, b, zLay, K, B, M)) : ∀ (m k : Nat) (M : Nat → Nat → Int32) (l3 l4 l5 l6 l7 : Value), l3.category = 1 → l4.category = 1 → l5.category = 1 → l6.category = 1 → l7.category = 1 → k + m = np → zRf 11 (100 * t) (100 * t + 100) M0 M → zR11 M t np (zFW (zW (zcd M0) ns dd nw) k) → zEx (zCall d) 0 false 0 zc_Canal_joinWays F 2 [.ref 1, .int (nI (100 * t)), .int (nI k), l3, l4, l5, l6, l7] [] (X, b, zLay, K, B, M) := by
  have hB := hC.2.2.2.2.1
  have hW := zW_base (s := ns) (d := dd) (zCk_w hC)
  intro m
  induction m with
  | zero =>
    intro k M l3 l4 l5 l6 l7 q3 q4 q5 q6 q7 hj hf hr
    have hk : k = np := by omega
    subst hk
    refine zb_Canal_joinWays_2 (v1 := 0) (v2 := 0) (v3 := 0) k l3 l4 l5 l6 l7 q3 q4 q5 q6 q7 (zCk_rf hf (by decide) hC).1 hB ht (by omega) (fun _ => ?_) (fun h => absurd h (by omega))
    refine kk M hf (fun x y hx hy => ?_)
    rw [hr x y hx hy]
    have := zFW_more hW (10 - k) (y := y) hx
    rw [show k + (10 - k) = 10 by omega] at this
    unfold zD
    rw [this]
  | succ m ih =>
    intro k M l3 l4 l5 l6 l7 q3 q4 q5 q6 q7 hj hf hr
    refine zb_Canal_joinWays_2 (v1 := 0) (v2 := 0) (v3 := 0) k l3 l4 l5 l6 l7 q3 q4 q5 q6 q7 (zCk_rf hf (by decide) hC).1 hB ht (by omega) (fun h => absurd h (by omega)) (fun _ => ?_)
    refine lp_jw12 hK hC ht (by omega) (zFW_base hW k).1 (fun M' l3 l4 l5 l6 l7 q3 q4 q5 q6 q7 hf' hr' => ih (k + 1) M' l3 l4 l5 l6 l7 q3 q4 q5 q6 q7 (by omega) hf' hr') np 0 M l4 l5 l6 l7 q4 q5 q6 q7 (by omega) hf (fun x y hx hy => ?_)
    rw [hr x y hx hy]
    simp
theorem sp_joinWays {M : Nat → Nat → Int32} (hK : zKok K) (hC : zCk M np nw ns pc) {t dd : Nat} (ht : t < 22) (hr : zR11 M t np (zW (zcd M) ns dd nw)) (kk : ∀ M', zRf 11 (100 * t) (100 * t + 100) M M' → zR11 M' t np (zD (zcd M) nw ns dd) → F none (X, b, zLay, K, B, M')) : zCall (d + 1) zm_Canal_joinWays [.ref 1, .int (nI (100 * t))] (X, b, zLay, K, B, M) F := by
  refine zb_Canal_joinWays_0 (v1 := 0) (v2 := 0) (v3 := 0) hC hC.2.2.2.2.1 ht ?_
  exact lp_jw2 hK hC ht kk np 0 M .null .null .null .null .null rfl rfl rfl rfl rfl (by omega) (zRf_rfl _ _ _ _) hr
end CM
