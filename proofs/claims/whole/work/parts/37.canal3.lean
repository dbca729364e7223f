/-! ===== a table more; all tables ===== -/
section CT
variable {d : Nat} {F : Option Value → zS → Prop} {X : zX} {b : Nat × Nat} {K : Nat → Nat → Option Nat} {B : Nat → Nat → Int64} {M0 : Nat → Nat → Int32} {np nw ns pc : Nat}
theorem lp_at63 {M : Nat → Nat → Int32} (hK : zKok K) (hC : zCk M np nw ns pc) {t cm f : Nat} (ht : t < 22) (hf : f < np) {D : Nat → Nat → Nat} (hr : zR11 M t np D) (kk : ∀ (l4 l5 : Value), l4.category = 1 → l5.category = 1 → zEx (zCall (d + 2)) 0 false 1 zc_Canal_addTable F 49 [.ref 1, .int (nI cm), .int (nI t), .int (nI (f + 1)), l4, l5] [] (X, b, zLay, K, B, zu M 12 (10 * t + f) (nI (zsb (fun q => Nat.ble (D f q) pc) np)))) : ∀ (m j : Nat), j + m = np → zEx (zCall (d + 2)) 0 false 1 zc_Canal_addTable F 63 [.ref 1, .int (nI cm), .int (nI t), .int (nI f), .int (nI (zsb (fun q => Nat.ble (D f q) pc) j)), .int (nI j)] [] (X, b, zLay, K, B, M) := by
  have hB := hC.2.2.2.2.1
  intro m
  induction m with
  | zero =>
    intro j hj
    have hj : j = np := by omega
    subst hj
    exact zb_Canal_addTable_63 (v := 0) hK cm f _ j hC hB ht hf (by omega) (fun h => absurd h (by omega)) (by omega) (fun _ => kk _ _ rfl rfl) (fun h => absurd h (by omega)) (fun h => absurd h (by omega))
  | succ m ih =>
    intro j hj
    have e := ih (j + 1) (by omega)
    unfold zsb at e
    refine zb_Canal_addTable_63 (v := min 9999 (D f j)) hK cm f _ j hC hB ht hf (by omega) (fun _ => hr f j hf (by omega)) (by omega) (fun h => absurd h (by omega)) (fun _ h => ?_) (fun _ h => ?_)
    · have : Nat.ble (D f j) pc = false := by
        cases q : Nat.ble (D f j) pc
        · rfl
        · have := Nat.le_of_ble_eq_true q; omega
      rw [this, cond_false, Nat.or_zero] at e
      exact e
    · rw [Nat.ble_eq_true_of_le (show D f j ≤ pc by omega), cond_true] at e
      exact e
def zR12 (M : Nat → Nat → Int32) (t np pc : Nat) (D : Nat → Nat → Nat) (k : Nat) : Prop := ∀ x, x < k → M 12 (10 * t + x) = nI (zsb (fun q => Nat.ble (D x q) pc) np)
theorem lp_at49 (hK : zKok K) (hC : zCk M0 np nw ns pc) {t cm : Nat} (ht : t < 22) {D : Nat → Nat → Nat} (hr : zR11 M0 t np D) (kk : ∀ M, zRf 12 (10 * t) (10 * t + 10) M0 M → zR12 M t np pc D np → F (some (.int (nI t))) (X, b, zLay, K, B, M)) : ∀ (m k : Nat) (M : Nat → Nat → Int32) (l4 l5 : Value), l4.category = 1 → l5.category = 1 → k + m = np → zRf 12 (10 * t) (10 * t + 10) M0 M → zR12 M t np pc D k → zEx (zCall (d + 2)) 0 false 1 zc_Canal_addTable F 49 [.ref 1, .int (nI cm), .int (nI t), .int (nI k), l4, l5] [] (X, b, zLay, K, B, M) := by
  have hB := hC.2.2.2.2.1
  intro m
  induction m with
  | zero =>
    intro k M l4 l5 q4 q5 hk hf h12
    have hk : k = np := by omega
    subst hk
    exact zb_Canal_addTable_49 (v := 0) cm k l4 l5 q4 q5 (zCk_rf hf (by decide) hC).1 hB ht (by omega) (fun _ => kk M hf h12) (fun h => absurd h (by omega))
  | succ m ih =>
    intro k M l4 l5 q4 q5 hk hf h12
    refine zb_Canal_addTable_49 (v := 0) cm k l4 l5 q4 q5 (zCk_rf hf (by decide) hC).1 hB ht (by omega) (fun h => absurd h (by omega)) (fun _ => ?_)
    have hr' : zR11 M t np D := fun x y hx hy => by rw [hf.1 11 (by decide)]; exact hr x y hx hy
    refine lp_at63 hK (zCk_rf hf (by decide) hC).1 ht (by omega) hr' (fun l4 l5 q4 q5 => ?_) np 0 (by omega)
    refine ih (k + 1) _ l4 l5 q4 q5 (by omega) (zRf_put hf (by omega) (by omega) _) (fun x hx => ?_)
    by_cases e : x = k
    · subst e; rw [zu_yes]
    · rw [zu_no (by omega)]; exact h12 x (by omega)
/-- table t has been made for a day -/
def zAt (M0 M : Nat → Nat → Int32) (t cm : Nat) : Prop := (∀ c, c ≠ 1 → c ≠ 10 → c ≠ 11 → c ≠ 12 → M c = M0 c) ∧ (∀ i, i ≠ 12 → M 1 i = M0 1 i) ∧ M 1 12 = nI (t + 1) ∧ (∀ i, M 10 i = if i = t then nI cm else M0 10 i) ∧ (∀ i, i < 100 * t → M 11 i = M0 11 i) ∧ (∀ i, i < 10 * t → M 12 i = M0 12 i)
theorem zAt_ck {M0 M : Nat → Nat → Int32} {t cm : Nat} (h : zAt M0 M t cm) (hC : zCk M0 np nw ns pc) : zCk M np nw ns pc ∧ zcd M = zcd M0 := zCk_same (fun i _ h2 => h.2.1 i h2) (fun c h1 h2 => h.1 c (by omega) (by omega) (by omega) (by omega)) hC
theorem zCk_cl {M : Nat → Nat → Int32} (hC : zCk M np nw ns pc) : (M 1 1).toNatClampNeg = np ∧ (M 1 5).toNatClampNeg = nw ∧ (M 1 9).toNatClampNeg = ns ∧ (M 1 10).toNatClampNeg = pc := by
  have hB := hC.2.2.2.2.1
  rw [hC.1, hC.2.1, hC.2.2.1, hC.2.2.2.1, nI_clamp (by omega), nI_clamp (by omega), nI_clamp (by omega), nI_clamp (by omega)]
  exact ⟨rfl, rfl, rfl, rfl⟩
theorem sp_addTable {M : Nat → Nat → Int32} (hK : zKok K) (hC : zCk M np nw ns pc) {t cm dd : Nat} (ht : t < 22) (h12 : M 1 12 = nI t) (hcm : cm < 2 ^ 15) (ho : ∀ w, w < nw → (cm.testBit w = false ↔ zopn (zcd M) ns dd w)) (kk : ∀ M', zAt M M' t cm → zTb M' t dd → F (some (.int (nI t))) (X, b, zLay, K, B, M')) : zCall (d + 3) zm_Canal_addTable [.ref 1, .int (nI cm)] (X, b, zLay, K, B, M) F := by
  have hB := hC.2.2.2.2.1
  refine zb_Canal_addTable_0 (v := 0) hK cm hC hB h12 (by omega) (fun _ => ?_) (fun h => absurd h (by omega))
  have hC1 : zCk (zu (zu M 1 12 (nI (t + 1))) 10 t (nI cm)) np nw ns pc ∧ zcd (zu (zu M 1 12 (nI (t + 1))) 10 t (nI cm)) = zcd M := zCk_same (fun i h1 h2 => by rw [zu_no (by omega), zu_no (by omega)]) (fun c h1 h2 => by funext i; rw [zu_no (by omega), zu_no (by omega)]) hC
  generalize hM1 : zu (zu M 1 12 (nI (t + 1))) 10 t (nI cm) = M1 at *
  obtain ⟨hC1, eg1⟩ := hC1
  refine sp_layWays (dd := dd) hK hC1 ht hcm (by rw [eg1]; exact ho) (fun M2 f2 r2 => ?_)
  obtain ⟨hC2, eg2⟩ := zCk_rf f2 (by decide) hC1
  refine zb_Canal_addTable_39 (v := 0) cm hC2 hB ht ?_
  refine sp_joinWays (dd := dd) hK hC2 ht (by rw [eg2]; exact r2) (fun M3 f3 r3 => ?_)
  obtain ⟨hC3, eg3⟩ := zCk_rf f3 (by decide) hC2
  refine zb_Canal_addTable_47 (v := 0) cm hC3 hB ht ?_
  refine lp_at49 hK hC3 ht r3 (fun M4 f4 r4 => ?_) np 0 M3 .null .null rfl rfl (by omega) (zRf_rfl _ _ _ _) (fun x hx => absurd hx (by omega))
  obtain ⟨hC4, eg4⟩ := zCk_rf f4 (by decide) hC3
  have hA : zAt M M4 t cm := by
    refine ⟨fun c h1 h2 h3 h4 => ?_, fun i hi => ?_, ?_, fun i => ?_, fun i hi => ?_, fun i hi => ?_⟩
    · rw [f4.1 c h4, f3.1 c h3, f2.1 c h3, ← hM1]
      funext i
      rw [zu_no (by omega), zu_no (by omega)]
    · rw [f4.1 1 (by decide), f3.1 1 (by decide), f2.1 1 (by decide), ← hM1, zu_no (by omega), zu_no (by omega)]
    · rw [f4.1 1 (by decide), f3.1 1 (by decide), f2.1 1 (by decide), ← hM1, zu_no (by omega), zu_yes]
    · rw [f4.1 10 (by decide), f3.1 10 (by decide), f2.1 10 (by decide), ← hM1]
      by_cases e : i = t
      · subst e; rw [zu_yes, if_pos rfl]
      · rw [zu_no (by omega), zu_no (by omega), if_neg e]
    · rw [f4.1 11 (by decide), f3.2 i (by omega), f2.2 i (by omega), ← hM1, zu_no (by omega), zu_no (by omega)]
    · rw [f4.2 i (by omega), f3.1 12 (by decide), f2.1 12 (by decide), ← hM1, zu_no (by omega), zu_no (by omega)]
  refine kk M4 hA ?_
  obtain ⟨c1, c2, c3, c4⟩ := zCk_cl hC4
  have eg : zcd M4 = zcd M2 := by rw [eg4, eg3]
  unfold zTb
  rw [c1, c2, c3, c4, eg]
  refine ⟨fun p q hp hq => ?_, fun p hp => ?_⟩
  · rw [f4.1 11 (by decide)]; exact r3 p q hp hq
  · exact r4 p hp
end CT
