/-! ===== stays: the reference ===== -/
def zRH (M : Nat → Nat → Int32) (f g np m pc : Nat) (D : Nat → Nat → Nat → Nat) (S v w : Nat → Nat) (rd : Nat) (ex : Nat → Nat → Bool) : Prop := M 71 33 = nI f ∧ M 71 34 = nI g ∧ (f ≤ g ∧ g < 60) ∧ zRf87 M np m pc D ∧ np ≤ 10 ∧ (∀ e, f ≤ e → e ≤ g → M 89 e = nI (v e) ∧ M 90 e = nI (w e) ∧ v e &&& w e = S e) ∧ (∀ e, S e < 1024) ∧ rd < 1024 ∧ (∀ e p, f ≤ e → e ≤ g → p < np → M 92 (10 * e + p) = zbi (decide (ex e p = true)))
theorem zRH_same {M M2 : Nat → Nat → Int32} {f g np m pc : Nat} {D : Nat → Nat → Nat → Nat} {S v w : Nat → Nat} {rd : Nat} {ex : Nat → Nat → Bool} (h : ∀ c, c ≠ 91 → M2 c = M c) (j : zRH M f g np m pc D S v w rd ex) : zRH M2 f g np m pc D S v w rd ex := by
  obtain ⟨j1, j2, j3, j4, j5, j6, j7, j8, j9⟩ := j
  exact ⟨by rw [h 71 (by decide)]; exact j1, by rw [h 71 (by decide)]; exact j2, j3, zRf87_same j4 (h 72 (by decide)) (h 87 (by decide)), j5, by rw [h 89 (by decide), h 90 (by decide)]; exact j6, j7, j8, by rw [h 92 (by decide)]; exact j9⟩
def zeF (n : Nat) : Nat := if n = 9999 then 100000 else n
theorem zeF_le {n : Nat} (h : n ≤ 9999) : zeF n ≤ 100000 := by
  unfold zeF
  split <;> omega
theorem zeF_9 {n : Nat} (h : n ≤ 9999) : zeF n = 100000 ↔ n = 9999 := by
  unfold zeF
  constructor
  · intro q
    split at q
    · assumption
    · omega
  · intro q
    rw [if_pos q]
theorem zeF_m1 {x y : Nat} (hx : x ≤ 9999) (hy : y ≤ 9999) (h : zeF x ≤ zeF y) : zeF (min x y) = zeF x := by
  have : x ≤ y := by
    unfold zeF at h
    split at h <;> split at h <;> omega
  rw [Nat.min_eq_left this]
theorem zeF_m2 {x y : Nat} (hx : x ≤ 9999) (hy : y ≤ 9999) (h : zeF y < zeF x) : zeF (min x y) = zeF y := by
  have : y ≤ x := by
    unfold zeF at h
    split at h <;> split at h <;> omega
  rw [Nat.min_eq_right this]
theorem zeF_9a : zeF 9999 = 100000 := if_pos rfl
theorem zeF_n {n : Nat} (h : n ≠ 9999) : zeF n = n := if_neg h
theorem zkF {lm s : Nat} {bt rb ex : Bool} (hs : s ≤ 9999) (hl : lm ≤ 99) : zeF (bif bt then zk9 lm rb ex s else 9999) = if bt = false then 100000 else if 100000 ≤ zeF s then 100000 else if rb = true then (if ex = true then (if zeF s ≤ lm then zeF s else 100000) else (if zeF s + 1 ≤ lm then zeF s + 1 else 100000)) else 0 := by
  cases bt
  · rw [cond_false, zeF_9a, if_pos rfl]
  · rw [cond_true, if_neg (by decide)]
    by_cases e : s = 9999
    · subst e
      unfold zk9
      rw [if_pos rfl, zeF_9a, if_pos (Nat.le_refl _)]
    · rw [zeF_n e, if_neg (by omega)]
      unfold zk9
      rw [if_neg e]
      cases rb
      · rw [if_neg (by decide), if_neg (by decide), zeF_n (by decide)]
      · rw [if_pos rfl, if_pos rfl]
        cases ex
        · rw [if_neg (by decide), if_neg (by decide)]
          by_cases q : s + 1 ≤ lm
          · rw [if_pos q, if_pos q, zeF_n (by omega)]
          · rw [if_neg q, if_neg q, zeF_9a]
        · rw [if_pos rfl, if_pos rfl]
          by_cases q : s ≤ lm
          · rw [if_pos q, if_pos q, zeF_n (by omega)]
          · rw [if_neg q, if_neg q, zeF_9a]
