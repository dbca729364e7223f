/-! ===== what clauses say ===== -/
def zbd (x : Int) : Int := if 1000000 < x then 1000000 else if x < -1000000 then -1000000 else x
def zjn (k : Nat) (x y : Int) : Int := match k with
  | 14 => if 0 < x + y then 1 else 0
  | 15 => x * y
  | 17 => if x < y then 1 else 0
  | 18 => if x ≤ y then 1 else 0
  | 19 => if y < x then 1 else 0
  | 20 => if y ≤ x then 1 else 0
  | 21 => if x = y then 1 else 0
  | 22 => if x = y then 0 else 1
  | 23 => zbd (x + y)
  | 24 => zbd (x - y)
  | 25 => zbd (x * y)
  | 26 => if y = 0 then 0 else x.tdiv y
  | _ => 0
def zup (P : Nat → Int) (i : Nat) (v : Int) : Nat → Int := fun j => if j = i then v else P j
def zst (nm : Nat → Int) (t : Nat × Nat) (s : Nat × (Nat → Int)) : Nat × (Nat → Int) :=
  if t.1 = 2 then (s.1 + 1, zup s.2 s.1 t.2)
  else if 7 ≤ t.1 ∧ t.1 ≤ 13 then (s.1 + 1, zup s.2 s.1 (nm (t.1 - 7)))
  else if t.1 = 16 then (s.1, zup s.2 (s.1 - 1) (1 - s.2 (s.1 - 1)))
  else if t.1 = 30 then (s.1, zup s.2 (s.1 - 1) (-(s.2 (s.1 - 1))))
  else (s.1 - 1, zup s.2 (s.1 - 2) (zjn t.1 (s.2 (s.1 - 2)) (s.2 (s.1 - 1))))
def zevs (nm : Nat → Int) : List (Nat × Nat) → Nat × (Nat → Int) → Nat × (Nat → Int)
  | [], s => s
  | t :: c, s => zevs nm c (zst nm t s)
def zgo (b : Bool) (x : Int) : Prop := if b = true then x = 0 ∨ x = 1 else -1000000 ≤ x ∧ x ≤ 1000000
def zgd : List Bool → (Nat → Int) → Prop
  | [], _ => True
  | b :: s, P => zgo b (P s.length) ∧ zgd s P
theorem zgd_up {s : List Bool} {P : Nat → Int} {y : Nat} {v : Int} (h : zgd s P) (hy : s.length ≤ y) : zgd s (zup P y v) := by
  induction s with
  | nil => trivial
  | cons b s ih =>
    have hy : s.length + 1 ≤ y := hy
    refine ⟨?_, ih h.2 (by omega)⟩
    unfold zup
    rw [if_neg (by omega)]
    exact h.1
theorem zup_y (P : Nat → Int) (y : Nat) (v : Int) : zup P y v y = v := by unfold zup; rw [if_pos rfl]
theorem zty1_c {mask : Nat} {t : Nat × Nat} {s s' : List Bool} (h : zty1 mask t s = some s') :
    (t.1 = 2 ∧ t.2 ≤ 9999 ∧ s.length < 32 ∧ s' = false :: s) ∨ ((7 ≤ t.1 ∧ t.1 ≤ 13) ∧ mask.testBit (t.1 - 7) = true ∧ t.2 = 0 ∧ s.length < 32 ∧ s' = false :: s) ∨ (t.1 = 16 ∧ t.2 = 0 ∧ ∃ r, s = true :: r ∧ s' = true :: r) ∨ (t.1 = 30 ∧ t.2 = 0 ∧ ∃ r, s = false :: r ∧ s' = false :: r) ∨ ((17 ≤ t.1 ∧ t.1 ≤ 22) ∧ t.2 = 0 ∧ ∃ r, s = false :: false :: r ∧ s' = true :: r) ∨ ((23 ≤ t.1 ∧ t.1 ≤ 26) ∧ t.2 = 0 ∧ ∃ r, s = false :: false :: r ∧ s' = false :: r) ∨ ((t.1 = 14 ∨ t.1 = 15) ∧ t.2 = 0 ∧ ∃ r, s = true :: true :: r ∧ s' = true :: r) := by
  unfold zty1 at h
  by_cases h1 : t.1 = 2
  · rw [if_pos h1] at h
    by_cases h2 : t.2 ≤ 9999 ∧ s.length < 32
    · rw [if_pos h2] at h; cases h; exact Or.inl ⟨h1, h2.1, h2.2, rfl⟩
    · rw [if_neg h2] at h; cases h
  · rw [if_neg h1] at h
    by_cases h2 : 7 ≤ t.1 ∧ t.1 ≤ 13
    · rw [if_pos h2] at h
      by_cases h3 : mask.testBit (t.1 - 7) = true ∧ t.2 = 0 ∧ s.length < 32
      · rw [if_pos h3] at h; cases h; exact Or.inr (Or.inl ⟨h2, h3.1, h3.2.1, h3.2.2, rfl⟩)
      · rw [if_neg h3] at h; cases h
    · rw [if_neg h2] at h
      by_cases h3 : t.2 = 0
      · rw [if_pos h3] at h
        match s, h with
        | false :: false :: r, h =>
          simp only at h
          by_cases h4 : 17 ≤ t.1 ∧ t.1 ≤ 22
          · rw [if_pos h4] at h; cases h; exact Or.inr (Or.inr (Or.inr (Or.inr (Or.inl ⟨h4, h3, r, rfl, rfl⟩))))
          · rw [if_neg h4] at h
            by_cases h5 : 23 ≤ t.1 ∧ t.1 ≤ 26
            · rw [if_pos h5] at h; cases h; exact Or.inr (Or.inr (Or.inr (Or.inr (Or.inr (Or.inl ⟨h5, h3, r, rfl, rfl⟩)))))
            · rw [if_neg h5] at h
              by_cases h6 : t.1 = 30
              · rw [if_pos h6] at h; cases h; exact Or.inr (Or.inr (Or.inr (Or.inl ⟨h6, h3, _, rfl, rfl⟩)))
              · rw [if_neg h6] at h; cases h
        | true :: true :: r, h =>
          simp only at h
          by_cases h4 : t.1 = 14 ∨ t.1 = 15
          · rw [if_pos h4] at h; cases h; exact Or.inr (Or.inr (Or.inr (Or.inr (Or.inr (Or.inr ⟨h4, h3, r, rfl, rfl⟩)))))
          · rw [if_neg h4] at h
            by_cases h6 : t.1 = 16
            · rw [if_pos h6] at h; cases h; exact Or.inr (Or.inr (Or.inl ⟨h6, h3, _, rfl, rfl⟩))
            · rw [if_neg h6] at h; cases h
        | false :: true :: r, h =>
          simp only at h
          by_cases h6 : t.1 = 30
          · rw [if_pos h6] at h; cases h; exact Or.inr (Or.inr (Or.inr (Or.inl ⟨h6, h3, _, rfl, rfl⟩)))
          · rw [if_neg h6] at h; cases h
        | [false], h =>
          simp only at h
          by_cases h6 : t.1 = 30
          · rw [if_pos h6] at h; cases h; exact Or.inr (Or.inr (Or.inr (Or.inl ⟨h6, h3, _, rfl, rfl⟩)))
          · rw [if_neg h6] at h; cases h
        | true :: false :: r, h =>
          simp only at h
          by_cases h6 : t.1 = 16
          · rw [if_pos h6] at h; cases h; exact Or.inr (Or.inr (Or.inl ⟨h6, h3, _, rfl, rfl⟩))
          · rw [if_neg h6] at h; cases h
        | [true], h =>
          simp only at h
          by_cases h6 : t.1 = 16
          · rw [if_pos h6] at h; cases h; exact Or.inr (Or.inr (Or.inl ⟨h6, h3, _, rfl, rfl⟩))
          · rw [if_neg h6] at h; cases h
        | [], h => cases h
      · rw [if_neg h3] at h; cases h
theorem zbd_ok (x : Int) : -1000000 ≤ zbd x ∧ zbd x ≤ 1000000 := by
  unfold zbd
  split
  · omega
  · split <;> omega
theorem ztd {x y : Int} (h : -1000000 ≤ x ∧ x ≤ 1000000) : -1000000 ≤ x.tdiv y ∧ x.tdiv y ≤ 1000000 := by
  have h1 : (x.tdiv y).natAbs = x.natAbs / y.natAbs := Int.natAbs_tdiv x y
  have h2 : x.natAbs / y.natAbs ≤ x.natAbs := Nat.div_le_self _ _
  omega
theorem zst_ok {mask : Nat} {nm : Nat → Int} (hn : ∀ j, j < 7 → mask.testBit j = true → -1000000 ≤ nm j ∧ nm j ≤ 1000000) {t : Nat × Nat} {s s' : List Bool} {P : Nat → Int} (h : zty1 mask t s = some s') (hg : zgd s P) (hl : s.length ≤ 32) : (zst nm t (s.length, P)).1 = s'.length ∧ zgd s' (zst nm t (s.length, P)).2 ∧ s'.length ≤ 32 := by
  obtain ⟨k, v⟩ := t
  rcases zty1_c h with ⟨h1, h2, h3, rfl⟩ | ⟨h1, h2, h3, h4, rfl⟩ | ⟨h1, h2, r, rfl, rfl⟩ | ⟨h1, h2, r, rfl, rfl⟩ | ⟨h1, h2, r, rfl, rfl⟩ | ⟨h1, h2, r, rfl, rfl⟩ | ⟨h1, h2, r, rfl, rfl⟩
  · have h1 : k = 2 := h1
    have h2 : v ≤ 9999 := h2
    subst h1
    refine ⟨rfl, ⟨?_, zgd_up hg (Nat.le_refl _)⟩, h3⟩
    show zgo false (zup P s.length v s.length)
    rw [zup_y]
    show -1000000 ≤ (v : Int) ∧ (v : Int) ≤ 1000000
    omega
  · have h1 : 7 ≤ k ∧ k ≤ 13 := h1
    have e : zst nm (k, v) (s.length, P) = (s.length + 1, zup P s.length (nm (k - 7))) := by
      unfold zst
      rw [if_neg (show ¬ k = 2 by omega), if_pos h1]
    rw [e]
    refine ⟨rfl, ⟨?_, zgd_up hg (Nat.le_refl _)⟩, h4⟩
    show zgo false (zup P s.length (nm (k - 7)) s.length)
    rw [zup_y]
    exact hn (k - 7) (by omega) h2
  · have h1 : k = 16 := h1
    subst h1
    refine ⟨rfl, ⟨?_, zgd_up hg.2 (by simp)⟩, hl⟩
    show zgo true (zup P (r.length + 1 - 1) (1 - P (r.length + 1 - 1)) r.length)
    rw [Nat.add_sub_cancel, zup_y]
    have := hg.1
    unfold zgo at *
    rw [if_pos rfl] at *
    omega
  · have h1 : k = 30 := h1
    subst h1
    refine ⟨rfl, ⟨?_, zgd_up hg.2 (by simp)⟩, hl⟩
    show zgo false (zup P (r.length + 1 - 1) (-(P (r.length + 1 - 1))) r.length)
    rw [Nat.add_sub_cancel, zup_y]
    have := hg.1
    unfold zgo at *
    rw [if_neg (by decide)] at *
    omega
  all_goals
    have el : ∀ x y : Bool, (x :: y :: r).length = r.length + 2 := fun _ _ => rfl
    rw [el] at hl ⊢
    have e : zst nm (k, v) (r.length + 2, P) = (r.length + 1, zup P r.length (zjn k (P r.length) (P (r.length + 1)))) := by
      unfold zst
      simp only at h1
      rw [if_neg (show ¬ k = 2 by omega), if_neg (show ¬ (7 ≤ k ∧ k ≤ 13) by omega), if_neg (show ¬ k = 16 by omega), if_neg (show ¬ k = 30 by omega)]
      rfl
    rw [e]
    obtain ⟨g1, g2, g3⟩ := hg
    refine ⟨rfl, ⟨?_, zgd_up g3 (Nat.le_refl _)⟩, by simp; omega⟩
    show zgo _ (zup P r.length (zjn k (P r.length) (P (r.length + 1))) r.length)
    rw [zup_y]
    have g1 : zgo _ (P (r.length + 1)) := g1
    have g2 : zgo _ (P r.length) := g2
    simp only at h1
  · have z : k = 17 ∨ k = 18 ∨ k = 19 ∨ k = 20 ∨ k = 21 ∨ k = 22 := by omega
    unfold zgo
    rw [if_pos rfl]
    rcases z with rfl | rfl | rfl | rfl | rfl | rfl
    all_goals
      unfold zjn
      simp only
      split <;> omega
  · have z : k = 23 ∨ k = 24 ∨ k = 25 ∨ k = 26 := by omega
    unfold zgo
    rw [if_neg (by decide)]
    rcases z with rfl | rfl | rfl | rfl
    · exact zbd_ok _
    · exact zbd_ok _
    · exact zbd_ok _
    · show -1000000 ≤ (if P (r.length + 1) = 0 then 0 else (P r.length).tdiv (P (r.length + 1))) ∧ (if P (r.length + 1) = 0 then 0 else (P r.length).tdiv (P (r.length + 1))) ≤ 1000000
      split
      · omega
      · unfold zgo at g2
        rw [if_neg (by decide)] at g2
        exact ztd g2
  · unfold zgo at *
    rw [if_pos rfl] at *
    rcases h1 with rfl | rfl
    · have e : zjn 14 (P r.length) (P (r.length + 1)) = if 0 < P r.length + P (r.length + 1) then (1 : Int) else 0 := rfl
      rw [e]
      split <;> omega
    · show P r.length * P (r.length + 1) = 0 ∨ P r.length * P (r.length + 1) = 1
      rcases g1 with g1 | g1 <;> rcases g2 with g2 | g2 <;> rw [g1, g2] <;> decide
/-- the class's numbers -/
def zbC (v : Int64) : Int32 := ((if (if v < 1000000 then v else 1000000) < (-1000000) then (-1000000) else (if v < 1000000 then v else 1000000))).toInt32
theorem zLlt {x y : Int64} : x < y ↔ x.toInt < y.toInt := Int64.lt_iff_toInt_lt
theorem zLle {x y : Int64} : x ≤ y ↔ x.toInt ≤ y.toInt := Int64.le_iff_toInt_le
theorem zLM : (1000000 : Int64).toInt = 1000000 := by decide
theorem zLm : (-1000000 : Int64).toInt = -1000000 := by decide
theorem zbC_t (v : Int64) : (zbC v).toInt = zbd v.toInt := by
  unfold zbC zbd
  rw [Int64.toInt_toInt32]
  by_cases h1 : v < 1000000
  · rw [if_pos h1]
    rw [zLlt, zLM] at h1
    have h3 : ¬ 1000000 < v.toInt := by omega
    by_cases h2 : v < (-1000000)
    · rw [if_pos h2]
      rw [zLlt, zLm] at h2
      rw [if_neg h3, if_pos h2, zLm]
      decide
    · rw [if_neg h2]
      rw [zLlt, zLm] at h2
      rw [if_neg h3, if_neg h2, Int.bmod_eq_of_le (by omega) (by omega)]
  · rw [if_neg h1, if_neg (by decide)]
    rw [zLlt, zLM] at h1
    rw [zLM]
    by_cases h2 : 1000000 < v.toInt
    · rw [if_pos h2]; decide
    · rw [if_neg h2, if_neg (by omega)]
      have : v.toInt = 1000000 := by omega
      rw [this]; decide
theorem zLadd {x y : Int64} (hx : -1000000 ≤ x.toInt ∧ x.toInt ≤ 1000000) (hy : -1000000 ≤ y.toInt ∧ y.toInt ≤ 1000000) : (x + y).toInt = x.toInt + y.toInt := by
  rw [Int64.toInt_add, Int.bmod_eq_of_le (by omega) (by omega)]
theorem zLsub {x y : Int64} (hx : -1000000 ≤ x.toInt ∧ x.toInt ≤ 1000000) (hy : -1000000 ≤ y.toInt ∧ y.toInt ≤ 1000000) : (x - y).toInt = x.toInt - y.toInt := by
  rw [Int64.toInt_sub, Int.bmod_eq_of_le (by omega) (by omega)]
theorem zmulb {x y : Int} (hx : -1000000 ≤ x ∧ x ≤ 1000000) (hy : -1000000 ≤ y ∧ y ≤ 1000000) : -1000000000000 ≤ x * y ∧ x * y ≤ 1000000000000 := by
  have h : (x * y).natAbs = x.natAbs * y.natAbs := Int.natAbs_mul x y
  have h2 : x.natAbs * y.natAbs ≤ 1000000 * 1000000 := Nat.mul_le_mul (by omega) (by omega)
  omega
theorem zLmul {x y : Int64} (hx : -1000000 ≤ x.toInt ∧ x.toInt ≤ 1000000) (hy : -1000000 ≤ y.toInt ∧ y.toInt ≤ 1000000) : (x * y).toInt = x.toInt * y.toInt := by
  have := zmulb hx hy
  rw [Int64.toInt_mul, Int.bmod_eq_of_le (by omega) (by omega)]
theorem zI_01 {x : Int32} (h : x.toInt = 0 ∨ x.toInt = 1) : x = 0 ∨ x = 1 := by
  rcases h with h | h
  · exact Or.inl (Int32.toInt_inj.mp h)
  · exact Or.inr (Int32.toInt_inj.mp h)
theorem zcc_k {t : Nat × Nat} (h1 : t.1 < 256) (h2 : t.2 ≤ 9999) : zcc t &&& 255 = nI t.1 := by
  unfold zcc
  rw [pk_andN (by omega) 8 rfl]
  congr 1
  omega
theorem zcc_n {t : Nat × Nat} (h1 : t.1 < 256) (h2 : t.2 ≤ 9999) : zcc t >>> (8 &&& 31) = nI t.2 := by
  unfold zcc
  rw [pk_shrN (by omega) _ 8 (by decide)]
  congr 1
  omega
