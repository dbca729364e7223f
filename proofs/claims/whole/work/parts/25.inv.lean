/-! ===== what holds between the class and the reference ===== -/
/-- the class's table t is right for day d (60: nothing shut) -/
def zTb (M : Nat → Nat → Int32) (t d : Nat) : Prop := (∀ p q, p < (M 1 1).toNatClampNeg → q < (M 1 1).toNatClampNeg → M 11 (100 * t + 10 * p + q) = nI (Nat.min 9999 (zD (zcd M) (M 1 5).toNatClampNeg (M 1 9).toNatClampNeg d p q))) ∧ (∀ p, p < (M 1 1).toNatClampNeg → M 12 (10 * t + p) = nI (zsb (fun q => Nat.ble (zD (zcd M) (M 1 5).toNatClampNeg (M 1 9).toNatClampNeg d p q) (M 1 10).toNatClampNeg) (M 1 1).toNatClampNeg))
/-- the class's tables of miles (speaks of cells 1 to 12 alone) -/
def zTabOk (M : Nat → Nat → Int32) : Prop := zTb M 0 60 ∧ ∀ d, d < 60 → ∃ t, t < 22 ∧ M 9 d = nI t ∧ zTb M t d
/-- the reading of text t on both sides (cells 55 to 70, 75 to 77) -/
def zTx (M : Nat → Nat → Int32) (t : Nat) : Prop := t < 4 ∧ ∀ w, w < 4 → (M (56 + 4 * t) w = -1 ∧ M 75 (4 * t + w) = -1) ∨ ∃ (f r : Nat) (c : List (Nat × Nat)), zty (zmsk w) c [] = some [zask w] ∧ f + c.length ≤ 300 ∧ r + c.length < 400 ∧ M (56 + 4 * t) w = nI f ∧ M (57 + 4 * t) w = nI (f + c.length) ∧ M 75 (4 * t + w) = nI (400 * t + r) ∧ M 76 (400 * t + r + c.length) = 408 ∧ ∀ i, i < c.length → M (58 + 4 * t) (f + i) = zcc (c.getD i (0, 0)) ∧ M 76 (400 * t + r + i) = zrop (c.getD i (0, 0)) ∧ M 77 (400 * t + r + i) = zrov (c.getD i (0, 0))
theorem zcd_same {M M2 : Nat → Nat → Int32} (h : ∀ c, 1 ≤ c → c ≤ 12 → M2 c = M c) : zcd M2 = zcd M := by
  funext c i
  unfold zcd
  by_cases hc : 3 ≤ c ∧ c ≤ 8
  · rw [if_pos hc, if_pos hc, h c (by omega) (by omega)]
  · rw [if_neg hc, if_neg hc]
theorem zTabOk_same {M M2 : Nat → Nat → Int32} (h : ∀ c, 1 ≤ c → c ≤ 12 → M2 c = M c) (k : zTabOk M) : zTabOk M2 := by
  unfold zTabOk zTb at *
  rw [zcd_same h, h 1 (by omega) (by omega), h 9 (by omega) (by omega), h 11 (by omega) (by omega), h 12 (by omega) (by omega)]
  exact k
theorem zTx_same {M M2 : Nat → Nat → Int32} {t : Nat} (h : ∀ c, (55 ≤ c ∧ c ≤ 70) ∨ (75 ≤ c ∧ c ≤ 77) → M2 c = M c) (k : zTx M t) : zTx M2 t := by
  obtain ⟨ht, k⟩ := k
  refine ⟨ht, fun w hw => ?_⟩
  rw [h (56 + 4 * t) (by omega), h (57 + 4 * t) (by omega), h (58 + 4 * t) (by omega), h 75 (by omega), h 76 (by omega), h 77 (by omega)]
  exact k w hw
/-- the class's own tables of miles: right, or marked as stale (the real content comes where it is used) -/
def zTab (M : Nat → Nat → Int32) : Prop := M 1 11 = 1 ∨ (M 1 11 = 0 ∧ zTabOk M)
/-- rows: places, ways, shut, seen, excuses -/
def zRp (M : Nat → Nat → Int32) (A : Nat → Int32) (n : Nat → Nat) (i : Nat) : Prop := M 2 i = A (10 + i) ∧ ∃ p, p < 10 ∧ A (10 + i) = nI p
def zRy (M : Nat → Nat → Int32) (A : Nat → Int32) (n : Nat → Nat) (i : Nat) : Prop := M 3 i = A (20 + 3 * i) ∧ M 4 i = A (21 + 3 * i) ∧ M 5 i = A (22 + 3 * i) ∧ ∃ p q m, p < n 0 ∧ q < n 0 ∧ p ≠ q ∧ 1 ≤ m ∧ m ≤ 30 ∧ A (20 + 3 * i) = nI p ∧ A (21 + 3 * i) = nI q ∧ A (22 + 3 * i) = nI m
def zRs (M : Nat → Nat → Int32) (A : Nat → Int32) (n : Nat → Nat) (i : Nat) : Prop := M 6 i = A (70 + 3 * i) ∧ M 7 i = A (71 + 3 * i) ∧ M 8 i = A (72 + 3 * i) ∧ ∃ w f t, w < n 1 ∧ f ≤ t ∧ t < 60 ∧ A (70 + 3 * i) = nI w ∧ A (71 + 3 * i) = nI f ∧ A (72 + 3 * i) = nI t
def zRn (M : Nat → Nat → Int32) (A : Nat → Int32) (n : Nat → Nat) (i : Nat) : Prop := M 14 i = A (100 + 4 * i) ∧ M 15 i = A (101 + 4 * i) ∧ M 16 i = A (102 + 4 * i) ∧ M 17 i = A (103 + 4 * i) ∧ ∃ b p d t, b < n 4 ∧ p < n 0 ∧ d ≤ t ∧ t < 60 ∧ A (100 + 4 * i) = nI b ∧ A (101 + 4 * i) = nI p ∧ A (102 + 4 * i) = nI d ∧ A (103 + 4 * i) = nI t
def zRe (M : Nat → Nat → Int32) (A : Nat → Int32) (n : Nat → Nat) (i : Nat) : Prop := M 18 i = A (340 + 4 * i) ∧ M 19 i = A (341 + 4 * i) ∧ M 20 i = A (342 + 4 * i) ∧ M 21 i = A (343 + 4 * i) ∧ ∃ b f t p, b < n 4 ∧ f ≤ t ∧ t < 60 ∧ p < 60 ∧ A (340 + 4 * i) = nI b ∧ A (341 + 4 * i) = nI f ∧ A (342 + 4 * i) = nI t ∧ A (343 + 4 * i) = nI p
def zRw (M : Nat → Nat → Int32) (A : Nat → Int32) (n : Nat → Nat) : Prop := (∀ i, i < n 0 → zRp M A n i) ∧ (∀ i, i < n 1 → zRy M A n i) ∧ (∀ i, i < n 2 → zRs M A n i) ∧ (∀ i, i < n 5 → zRn M A n i) ∧ (∀ i, i < n 6 → zRe M A n i)
/-- counts, in the order of the reference's first eight -/
def zCs (A : Nat → Int32) (n : Nat → Nat) : Prop := (A 0 = nI (n 0) ∧ A 1 = nI (n 1) ∧ A 2 = nI (n 2) ∧ A 3 = nI (n 3) ∧ A 4 = nI (n 4) ∧ A 5 = nI (n 5) ∧ A 6 = nI (n 6) ∧ A 7 = nI (n 7)) ∧ n 0 ≤ 10 ∧ n 1 ≤ 15 ∧ n 2 ≤ 10 ∧ (1 ≤ n 3 ∧ n 3 ≤ 60) ∧ n 4 ≤ 8 ∧ n 5 ≤ 60 ∧ n 6 ≤ 20 ∧ n 7 ≤ 4
/-- letters of a boat: steps in s, rules in r, days in e -/
def zLt1 (M : Nat → Nat → Int32) (A : Nat → Int32) (s r e nt b : Nat) : Prop := ∃ k, k ≤ 3 ∧ M s b = nI k ∧ A (420 + b) = nI k ∧ ∀ i, i < k → M e (3 * b + i) = A (430 + 3 * b + i) ∧ M r (3 * b + i) = A (454 + 3 * b + i) ∧ (∃ x, x < 60 ∧ A (430 + 3 * b + i) = nI x) ∧ (A (454 + 3 * b + i) = -1 ∨ ∃ t, t < nt ∧ A (454 + 3 * b + i) = nI t)
def zLt (M : Nat → Nat → Int32) (A : Nat → Int32) (s r e nt : Nat) : Prop := ∀ b, b < 8 → zLt1 M A s r e nt b
/-- the tape -/
def zTp (M : Nat → Nat → Int32) : Prop := ∃ n, n ≤ 300 ∧ M 31 1 = nI n ∧ M 71 3 = nI n ∧ ∀ i, i < n → ∃ x, x < 256 ∧ M 32 i = nI x ∧ M 74 i = (nI x).toInt8.toInt32
/-- counts of the class -/
def zCc (M : Nat → Nat → Int32) : Prop := M 1 1 = M 72 0 ∧ M 1 5 = M 72 1 ∧ M 1 9 = M 72 2 ∧ M 1 10 = M 72 3 ∧ M 13 0 = M 72 4 ∧ M 13 5 = M 72 5 ∧ M 13 10 = M 72 6 ∧ M 0 7 = M 72 7
def zCi (M : Nat → Nat → Int32) : Prop := M 26 0 = M 73 0 ∧ M 26 1 = M 73 1 ∧ M 26 2 = M 73 2 ∧ M 26 3 = M 73 3 ∧ M 26 4 = M 73 4 ∧ M 26 5 = M 73 5 ∧ M 26 6 = M 73 6 ∧ M 26 7 = M 73 7
def zLe (n' n : Nat → Nat) : Prop := n' 0 ≤ n 0 ∧ n' 1 ≤ n 1 ∧ n' 2 ≤ n 2 ∧ n' 4 ≤ n 4 ∧ n' 5 ≤ n 5 ∧ n' 6 ≤ n 6 ∧ n' 7 ≤ n 7
def zSw (K : Nat → Nat → Option Nat) : Prop := ((K 41 6 = some 44 ∧ K 41 7 = some 45) ∨ (K 41 6 = some 45 ∧ K 41 7 = some 44)) ∧ ((K 46 6 = some 49 ∧ K 46 7 = some 50) ∨ (K 46 6 = some 50 ∧ K 46 7 = some 49)) ∧ ((K 51 4 = some 53 ∧ K 51 5 = some 54) ∨ (K 51 4 = some 54 ∧ K 51 5 = some 53))
/-- what never changes: noRule's clauses -/
def zNr (M : Nat → Nat → Int32) : Prop := ∀ i, i < 4 → M 34 i = -1
def zIn (M : Nat → Nat → Int32) (n n' : Nat → Nat) : Prop := zCs (M 72) n ∧ zCs (M 73) n' ∧ zLe n' n ∧ zCc M ∧ zCi M ∧ zRw M (M 72) n ∧ zRw M (M 73) n' ∧ zLt M (M 72) 23 24 25 (n 7) ∧ zLt M (M 73) 28 29 30 (n' 7) ∧ zTp M ∧ (M 31 2 = M 71 4 ∧ M 31 3 = M 71 5) ∧ zTab M ∧ (∀ t, t < n 7 → zTx M t) ∧ zNr M
def zInv (K : Nat → Nat → Option Nat) (B : Nat → Nat → Int64) (M : Nat → Nat → Int32) : Prop := zKok K ∧ zSw K ∧ ∃ n n', zIn M n n'
/-- which place of the reference's row is used -/
def zUsed (n : Nat → Nat) (j : Nat) : Prop := (10 ≤ j ∧ j < 10 + n 0) ∨ (20 ≤ j ∧ j < 20 + 3 * n 1) ∨ (70 ≤ j ∧ j < 70 + 3 * n 2) ∨ (100 ≤ j ∧ j < 100 + 4 * n 5) ∨ (340 ≤ j ∧ j < 340 + 4 * n 6)
/-- the class's rows up to the counts -/
def zSame (M M2 : Nat → Nat → Int32) (n : Nat → Nat) : Prop := (∀ i, i < n 0 → M2 2 i = M 2 i) ∧ (∀ i, i < n 1 → M2 3 i = M 3 i ∧ M2 4 i = M 4 i ∧ M2 5 i = M 5 i) ∧ (∀ i, i < n 2 → M2 6 i = M 6 i ∧ M2 7 i = M 7 i ∧ M2 8 i = M 8 i) ∧ (∀ i, i < n 5 → M2 14 i = M 14 i ∧ M2 15 i = M 15 i ∧ M2 16 i = M 16 i ∧ M2 17 i = M 17 i) ∧ (∀ i, i < n 6 → M2 18 i = M 18 i ∧ M2 19 i = M 19 i ∧ M2 20 i = M 20 i ∧ M2 21 i = M 21 i)
theorem zRw_keep {M M2 : Nat → Nat → Int32} {A A2 : Nat → Int32} {n m : Nat → Nat} (h : zRw M A n) (hM : zSame M M2 n) (hA : ∀ j, zUsed n j → A2 j = A j) (h0 : n 0 ≤ m 0) (h1 : n 1 ≤ m 1) (h4 : n 4 ≤ m 4) : (∀ i, i < n 0 → zRp M2 A2 m i) ∧ (∀ i, i < n 1 → zRy M2 A2 m i) ∧ (∀ i, i < n 2 → zRs M2 A2 m i) ∧ (∀ i, i < n 5 → zRn M2 A2 m i) ∧ (∀ i, i < n 6 → zRe M2 A2 m i) := by
  obtain ⟨r0, r1, r2, r5, r6⟩ := h
  obtain ⟨s0, s1, s2, s5, s6⟩ := hM
  refine ⟨fun i hi => ?_, fun i hi => ?_, fun i hi => ?_, fun i hi => ?_, fun i hi => ?_⟩
  · have e := hA (10 + i) (Or.inl ⟨by omega, by omega⟩)
    unfold zRp
    rw [e, s0 i hi]
    exact r0 i hi
  · have u : ∀ k, k < 3 → A2 (20 + k + 3 * i) = A (20 + k + 3 * i) := fun k hk => hA _ (Or.inr (Or.inl ⟨by omega, by omega⟩))
    have e0 := u 0 (by omega)
    have e1 := u 1 (by omega)
    have e2 := u 2 (by omega)
    obtain ⟨a, b, c, p, q, w, x1, x2, x3, x4, x5, x6, x7, x8⟩ := r1 i hi
    unfold zRy
    rw [show 20 + 3 * i = 20 + 0 + 3 * i by omega, show 21 + 3 * i = 20 + 1 + 3 * i by omega, show 22 + 3 * i = 20 + 2 + 3 * i by omega, e0, e1, e2, (s1 i hi).1, (s1 i hi).2.1, (s1 i hi).2.2]
    rw [show 20 + 0 + 3 * i = 20 + 3 * i by omega, show 20 + 1 + 3 * i = 21 + 3 * i by omega, show 20 + 2 + 3 * i = 22 + 3 * i by omega]
    exact ⟨a, b, c, p, q, w, by omega, by omega, x3, x4, x5, x6, x7, x8⟩
  · have u : ∀ k, k < 3 → A2 (70 + k + 3 * i) = A (70 + k + 3 * i) := fun k hk => hA _ (Or.inr (Or.inr (Or.inl ⟨by omega, by omega⟩)))
    have e0 := u 0 (by omega)
    have e1 := u 1 (by omega)
    have e2 := u 2 (by omega)
    obtain ⟨a, b, c, p, q, w, x1, x2, x3, x4, x5, x6⟩ := r2 i hi
    unfold zRs
    rw [show 70 + 3 * i = 70 + 0 + 3 * i by omega, show 71 + 3 * i = 70 + 1 + 3 * i by omega, show 72 + 3 * i = 70 + 2 + 3 * i by omega, e0, e1, e2, (s2 i hi).1, (s2 i hi).2.1, (s2 i hi).2.2]
    rw [show 70 + 0 + 3 * i = 70 + 3 * i by omega, show 70 + 1 + 3 * i = 71 + 3 * i by omega, show 70 + 2 + 3 * i = 72 + 3 * i by omega]
    exact ⟨a, b, c, p, q, w, by omega, x2, x3, x4, x5, x6⟩
  · have u : ∀ k, k < 4 → A2 (100 + k + 4 * i) = A (100 + k + 4 * i) := fun k hk => hA _ (Or.inr (Or.inr (Or.inr (Or.inl ⟨by omega, by omega⟩))))
    have e0 := u 0 (by omega)
    have e1 := u 1 (by omega)
    have e2 := u 2 (by omega)
    have e3 := u 3 (by omega)
    obtain ⟨a, b, c, d, p, q, w, z, x1, x2, x3, x4, x5, x6, x7, x8⟩ := r5 i hi
    unfold zRn
    rw [show 100 + 4 * i = 100 + 0 + 4 * i by omega, show 101 + 4 * i = 100 + 1 + 4 * i by omega, show 102 + 4 * i = 100 + 2 + 4 * i by omega, show 103 + 4 * i = 100 + 3 + 4 * i by omega, e0, e1, e2, e3, (s5 i hi).1, (s5 i hi).2.1, (s5 i hi).2.2.1, (s5 i hi).2.2.2]
    rw [show 100 + 0 + 4 * i = 100 + 4 * i by omega, show 100 + 1 + 4 * i = 101 + 4 * i by omega, show 100 + 2 + 4 * i = 102 + 4 * i by omega, show 100 + 3 + 4 * i = 103 + 4 * i by omega]
    exact ⟨a, b, c, d, p, q, w, z, by omega, by omega, x3, x4, x5, x6, x7, x8⟩
  · have u : ∀ k, k < 4 → A2 (340 + k + 4 * i) = A (340 + k + 4 * i) := fun k hk => hA _ (Or.inr (Or.inr (Or.inr (Or.inr ⟨by omega, by omega⟩))))
    have e0 := u 0 (by omega)
    have e1 := u 1 (by omega)
    have e2 := u 2 (by omega)
    have e3 := u 3 (by omega)
    obtain ⟨a, b, c, d, p, q, w, z, x1, x2, x3, x4, x5, x6, x7, x8⟩ := r6 i hi
    unfold zRe
    rw [show 340 + 4 * i = 340 + 0 + 4 * i by omega, show 341 + 4 * i = 340 + 1 + 4 * i by omega, show 342 + 4 * i = 340 + 2 + 4 * i by omega, show 343 + 4 * i = 340 + 3 + 4 * i by omega, e0, e1, e2, e3, (s6 i hi).1, (s6 i hi).2.1, (s6 i hi).2.2.1, (s6 i hi).2.2.2]
    rw [show 340 + 0 + 4 * i = 340 + 4 * i by omega, show 340 + 1 + 4 * i = 341 + 4 * i by omega, show 340 + 2 + 4 * i = 342 + 4 * i by omega, show 340 + 3 + 4 * i = 343 + 4 * i by omega]
    exact ⟨a, b, c, d, p, q, w, z, by omega, x2, x3, x4, x5, x6, x7, x8⟩
theorem zRw_self {M M2 : Nat → Nat → Int32} {A A2 : Nat → Int32} {n : Nat → Nat} (h : zRw M A n) (hM : zSame M M2 n) (hA : ∀ j, zUsed n j → A2 j = A j) : zRw M2 A2 n := zRw_keep h hM hA (Nat.le_refl _) (Nat.le_refl _) (Nat.le_refl _)
theorem zSame_le {M M2 : Nat → Nat → Int32} {n' n : Nat → Nat} (hl : zLe n' n) (h : zSame M M2 n) : zSame M M2 n' := by
  obtain ⟨l0, l1, l2, l4, l5, l6, l7⟩ := hl
  obtain ⟨s0, s1, s2, s5, s6⟩ := h
  exact ⟨fun i hi => s0 i (by omega), fun i hi => s1 i (by omega), fun i hi => s2 i (by omega), fun i hi => s5 i (by omega), fun i hi => s6 i (by omega)⟩
theorem zLt_keep {M M2 : Nat → Nat → Int32} {A A2 : Nat → Int32} {s r e nt nt2 : Nat} (h : zLt M A s r e nt) (hs : M2 s = M s) (hr : M2 r = M r) (he : M2 e = M e) (hA : ∀ j, 420 ≤ j → j < 478 → A2 j = A j) (hn : nt ≤ nt2) : zLt M2 A2 s r e nt2 := by
  intro b hb
  obtain ⟨k, h1, h2, h3, h4⟩ := h b hb
  refine ⟨k, h1, by rw [hs]; exact h2, by rw [hA _ (by omega) (by omega)]; exact h3, fun i hi => ?_⟩
  obtain ⟨g1, g2, g3, g4⟩ := h4 i hi
  rw [he, hr, hA (430 + 3 * b + i) (by omega) (by omega), hA (454 + 3 * b + i) (by omega) (by omega)]
  refine ⟨g1, g2, g3, ?_⟩
  rcases g4 with g4 | ⟨t, g4, g5⟩
  · exact Or.inl g4
  · exact Or.inr ⟨t, by omega, g5⟩
