/-! ===== the cells behind both constructors ===== -/
def zLay : zY := [.inl 9, .inl 0, .inr (0, 10), .inr (0, 15), .inr (0, 15), .inr (0, 15), .inr (0, 10), .inr (0, 10), .inr (0, 10), .inr (0, 60), .inr (0, 22), .inr (0, 2200), .inr (0, 220), .inl 5, .inr (0, 60), .inr (0, 60), .inr (0, 60), .inr (0, 60), .inr (0, 20), .inr (0, 20), .inr (0, 20), .inr (0, 20), .inl 4, .inr (0, 8), .inr (0, 24), .inr (0, 24), .inl 1, .inl 4, .inr (0, 8), .inr (0, 24), .inr (0, 24), .inl 6, .inr (0, 300), .inl 8, .inr (0, 4), .inr (0, 4), .inr (0, 0), .inr (4, 4), .inl 3, .inr (0, 7), .inr (0, 32), .inl 2, .inr (0, 60), .inr (0, 60), .inr (0, 10), .inr (0, 10), .inl 2, .inr (0, 60), .inr (0, 60), .inr (0, 10), .inr (0, 10), .inl 7, .inr (0, 60), .inr (0, 10), .inr (0, 10), .inl 8, .inr (0, 4), .inr (0, 4), .inr (0, 300), .inl 8, .inr (0, 4), .inr (0, 4), .inr (0, 300), .inl 8, .inr (0, 4), .inr (0, 4), .inr (0, 300), .inl 8, .inr (0, 4), .inr (0, 4), .inr (0, 300), .inl 10, .inr (0, 478), .inr (0, 478), .inr (1, 300), .inr (0, 16), .inr (0, 1600), .inr (0, 1600), .inr (0, 40), .inr (0, 41), .inr (0, 80), .inr (0, 80), .inr (0, 4), .inr (0, 400), .inr (0, 400), .inr (0, 7), .inr (3, 200), .inr (0, 6100), .inr (0, 60), .inr (0, 60), .inr (0, 60), .inr (0, 600), .inr (2, 600), .inr (0, 600), .inr (0, 60), .inr (0, 60), .inr (0, 60)]
/-- references that stay: cell, field, where to -/
def zKtL : List (List (Nat × Nat)) := [[(0, 1), (1, 13), (2, 22), (3, 26), (4, 31), (5, 33), (6, 37), (8, 38), (9, 41), (10, 46), (11, 51)], [(0, 2), (2, 3), (3, 4), (4, 5), (6, 6), (7, 7), (8, 8), (13, 9), (14, 10), (15, 11), (16, 12)], [], [], [], [], [], [], [], [], [], [], [], [(1, 14), (2, 15), (3, 16), (4, 17), (6, 18), (7, 19), (8, 20), (9, 21)], [], [], [], [], [], [], [], [], [(0, 23), (1, 24), (2, 25)], [], [], [], [(8, 27)], [(0, 28), (1, 29), (2, 30)], [], [], [], [(0, 32)], [], [(0, 36), (2, 34), (3, 35)], [], [], [], [(0, 55), (1, 59), (2, 63), (3, 67)], [(0, 1), (1, 39), (2, 40)], [], [], [(0, 1), (4, 42), (5, 43)], [], [], [], [], [(0, 1), (4, 47), (5, 48)], [], [], [], [], [(0, 1), (1, 41), (2, 52)], [], [], [], [(0, 58), (2, 56), (3, 57)], [], [], [], [(0, 62), (2, 60), (3, 61)], [], [], [], [(0, 66), (2, 64), (3, 65)], [], [], [], [(0, 70), (2, 68), (3, 69)], [], [], [], [(0, 72), (1, 73), (2, 74), (6, 75), (7, 76), (8, 77), (18, 78), (19, 79), (21, 80), (22, 81), (26, 82), (28, 83), (29, 84), (30, 85), (31, 86), (32, 87), (35, 88), (36, 89), (37, 90), (38, 91), (39, 92), (40, 93), (41, 94), (42, 95), (43, 96)], [], [], [], [], [], [], [], [], [], [], [], [], [], [], [], [], [], [], [], [], [], [], [], [], []]
def zKok (K : Nat → Nat → Option Nat) : Prop := ∀ c k j : Nat, zlk2 zKtL c k = some j → K c k = some j
theorem zu_yes {α : Type} (M : Nat → Nat → α) (c k : Nat) (v : α) : zu M c k v c k = v := by simp [zu]
theorem zu_no {α : Type} {M : Nat → Nat → α} {c k c' k' : Nat} {v : α} (h : ¬ (c' = c ∧ k' = k)) : zu M c k v c' k' = M c' k' := by
  unfold zu
  by_cases hc : c' = c
  · subst hc
    have hk : ¬ k' = k := fun e => h ⟨rfl, e⟩
    simp [hk]
  · simp [hc]
theorem zKok_put {K : Nat → Nat → Option Nat} {c k j : Nat} (h : zKok K) (hn : zlk2 zKtL c k = none) : zKok (zu K c k (some j)) := by
  intro c' k' j' hj
  rw [zu_no]
  · exact h c' k' j' hj
  · rintro ⟨rfl, rfl⟩
    rw [hn] at hj
    cases hj
theorem zvin {i : Int32} {n : Nat} (h : (!(decide (i < 0)) && Nat.blt i.toNatClampNeg n) = true) : vp_in i n := by
  simp only [Bool.and_eq_true, Bool.not_eq_true', decide_eq_false_iff_not] at h
  rintro (h1 | h1)
  · exact h.1 h1
  · have := Nat.le_of_ble_eq_true h.2
    omega
def zbi (p : Bool) : Int32 := bif p then 1 else 0
theorem zbi_0 {p : Prop} {_ : Decidable p} (h : zbi (decide p) = 0) : ¬ p := by
  intro hp
  simp [zbi, hp] at h
theorem zbi_1 {p : Prop} {_ : Decidable p} (h : ¬ zbi (decide p) = 0) : p := by
  by_cases hp : p
  · exact hp
  · simp [zbi, hp] at h
theorem zbi_01 (p : Bool) : zbi p = 0 ∨ zbi p = 1 := by cases p <;> simp [zbi]
/-- the table of names as the class has it -/
def zknf : Nat → Int32 := fun j => zkn.getD j 0
