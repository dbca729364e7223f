/-! ===== stays, as meant ===== -/
def zmx0 (c : Nat → Bool) (v : Nat → Nat) : Nat → Nat
  | 0 => 0
  | q + 1 => bif c q then max (zmx0 c v q) (v q) else zmx0 c v q
def zmn9 (c : Nat → Bool) (v : Nat → Nat) : Nat → Nat
  | 0 => 9999
  | q + 1 => bif c q then min (zmn9 c v q) (v q) else zmn9 c v q
def zk9 (lm : Nat) (rb ex : Bool) (s : Nat) : Nat := if s = 9999 then 9999 else if rb = true then (if ex = true then (if s ≤ lm then s else 9999) else (if s + 1 ≤ lm then s + 1 else 9999)) else 0
def zs0 (rb ex : Bool) (s : Nat) : Nat := if rb = true then (if ex = true then s else s + 1) else 0
section SD
variable (np pc : Nat) (D : Nat → Nat → Nat → Nat) (S : Nat → Nat) (f rd : Nat) (ex : Nat → Nat → Bool)
/-- the longest stay that ends on a day at a place -/
def zaV : Nat → Nat → Nat
  | 0, p => zs0 (rd.testBit p) (ex f p) 0
  | j + 1, p => zs0 (rd.testBit p) (ex (f + j + 1) p) (zmx0 (fun q => (S (f + j)).testBit q && Nat.ble (D (f + j + 1) q p) pc) (zaV j) np)
def zmoP (j m0 : Nat) : Nat → Nat
  | 0 => m0
  | p + 1 => bif (S (f + j)).testBit p then max (zmoP j m0 p) (zaV np pc D S f rd ex j p) else zmoP j m0 p
def zmoD : Nat → Nat
  | 0 => 0
  | j + 1 => zmoP np pc D S f rd ex j (zmoD j) np
/-- the shortest, no stay being longer than lm; 9999: none -/
def zkV (lm : Nat) : Nat → Nat → Nat
  | 0, p => bif (S f).testBit p then zk9 lm (rd.testBit p) (ex f p) 0 else 9999
  | j + 1, p => bif (S (f + j + 1)).testBit p then zk9 lm (rd.testBit p) (ex (f + j + 1) p) (zmn9 (fun q => (S (f + j)).testBit q && Nat.ble (D (f + j + 1) q p) pc) (zkV lm j) np) else 9999
def zkc (lm j : Nat) : Nat → Bool := zany (fun p => !(Nat.beq (zkV np pc D S f rd ex lm j p) 9999))
end SD
theorem zmx0_le {c : Nat → Bool} {v : Nat → Nat} {b : Nat} (k : Nat) (h : ∀ q, q < k → c q = true → v q ≤ b) : zmx0 c v k ≤ b := by
  induction k with
  | zero => exact Nat.zero_le _
  | succ k ih =>
    have ih := ih (fun q hq => h q (by omega))
    unfold zmx0
    cases hc : c k
    · exact ih
    · have := h k (by omega) hc
      show max _ _ ≤ b
      omega
theorem zmn9_le (c : Nat → Bool) (v : Nat → Nat) (k : Nat) : zmn9 c v k ≤ 9999 := by
  induction k with
  | zero => exact Nat.le_refl _
  | succ k ih =>
    unfold zmn9
    cases c k
    · exact ih
    · show min _ _ ≤ 9999
      omega
theorem zmn9_at {c : Nat → Bool} {v : Nat → Nat} {k q : Nat} (hq : q < k) (hc : c q = true) : zmn9 c v k ≤ v q := by
  induction k with
  | zero => omega
  | succ k ih =>
    unfold zmn9
    by_cases e : q = k
    · rw [← e, hc]
      show min _ _ ≤ _
      omega
    · have := ih (by omega)
      cases c k
      · exact this
      · show min _ _ ≤ _
        omega
theorem zmn9_mono {c : Nat → Bool} {v v2 : Nat → Nat} (k : Nat) (h : ∀ q, q < k → c q = true → v2 q ≤ v q) : zmn9 c v2 k ≤ zmn9 c v k := by
  induction k with
  | zero => exact Nat.le_refl _
  | succ k ih =>
    have ih := ih (fun q hq => h q (by omega))
    unfold zmn9
    cases hc : c k
    · exact ih
    · have := h k (by omega) hc
      show min _ _ ≤ min _ _
      omega
theorem zmn9_none {c : Nat → Bool} {v : Nat → Nat} (k : Nat) (h : ∀ q, q < k → c q = true → v q = 9999) : zmn9 c v k = 9999 := by
  induction k with
  | zero => rfl
  | succ k ih =>
    have ih := ih (fun q hq => h q (by omega))
    unfold zmn9
    cases hc : c k
    · exact ih
    · have := h k (by omega) hc
      show min _ _ = 9999
      omega
theorem zk9_le {lm : Nat} {rb ex : Bool} {s : Nat} (hs : s ≤ 9999) (hl : lm ≤ 9998) : zk9 lm rb ex s ≤ 9999 := by
  unfold zk9
  repeat' split
  all_goals omega
theorem zk9_mono {lm : Nat} {rb ex : Bool} {s s2 : Nat} (h : s2 ≤ s) (hs : s ≤ 9999) (hl : lm ≤ 9997) : zk9 (lm + 1) rb ex s2 ≤ zk9 lm rb ex s := by
  unfold zk9
  repeat' split
  all_goals first | omega | contradiction
section SV
variable {np pc : Nat} {D : Nat → Nat → Nat → Nat} {S : Nat → Nat} {f rd : Nat} {ex : Nat → Nat → Bool}
theorem zaV_le (j p : Nat) : zaV np pc D S f rd ex j p ≤ j + 1 := by
  induction j generalizing p with
  | zero =>
    unfold zaV zs0
    repeat' split
    all_goals omega
  | succ j ih =>
    have := zmx0_le (c := fun q => (S (f + j)).testBit q && Nat.ble (D (f + j + 1) q p) pc) (v := zaV np pc D S f rd ex j) (b := j + 1) np (fun q _ _ => ih q)
    unfold zaV zs0
    repeat' split
    all_goals omega
theorem zmoP_le {j m0 b : Nat} (h0 : m0 ≤ b) (hb : j + 1 ≤ b) (k : Nat) : zmoP np pc D S f rd ex j m0 k ≤ b := by
  induction k with
  | zero => exact h0
  | succ k ih =>
    unfold zmoP
    have := zaV_le (np := np) (pc := pc) (D := D) (S := S) (f := f) (rd := rd) (ex := ex) j k
    cases (S (f + j)).testBit k
    · exact ih
    · show max _ _ ≤ b
      omega
theorem zmoD_le (j : Nat) : zmoD np pc D S f rd ex j ≤ j + 1 := by
  induction j with
  | zero => exact Nat.zero_le _
  | succ j ih => exact zmoP_le (by omega) (by omega) np
theorem zkV_le {lm : Nat} (hl : lm ≤ 9998) (j p : Nat) : zkV np pc D S f rd ex lm j p ≤ 9999 := by
  cases j with
  | zero =>
    unfold zkV
    cases (S f).testBit p
    · exact Nat.le_refl _
    · exact zk9_le (by omega) hl
  | succ j =>
    unfold zkV
    cases (S (f + j + 1)).testBit p
    · exact Nat.le_refl _
    · exact zk9_le (zmn9_le _ _ _) hl
theorem zkV_mono {lm : Nat} (hl : lm ≤ 9000) (j p : Nat) : zkV np pc D S f rd ex (lm + 1) j p ≤ zkV np pc D S f rd ex lm j p := by
  induction j generalizing p with
  | zero =>
    unfold zkV
    cases (S f).testBit p
    · exact Nat.le_refl _
    · exact zk9_mono (Nat.le_refl _) (by omega) (by omega)
  | succ j ih =>
    unfold zkV
    cases (S (f + j + 1)).testBit p
    · exact Nat.le_refl _
    · exact zk9_mono (zmn9_mono np (fun q _ _ => ih q)) (zmn9_le _ _ _) (by omega)
theorem zkc_iff {lm j k : Nat} : zkc np pc D S f rd ex lm j k = true ↔ ∃ p, p < k ∧ zkV np pc D S f rd ex lm j p ≠ 9999 := by
  unfold zkc
  rw [zany_iff]
  constructor
  · rintro ⟨p, h1, h2⟩
    refine ⟨p, h1, fun q => ?_⟩
    rw [q] at h2
    exact absurd h2 (by decide)
  · rintro ⟨p, h1, h2⟩
    exact ⟨p, h1, by rw [zbeq_f h2]; rfl⟩
theorem zkc_mono {lm j k : Nat} (hl : lm ≤ 9000) (h : zkc np pc D S f rd ex lm j k = true) : zkc np pc D S f rd ex (lm + 1) j k = true := by
  obtain ⟨p, h1, h2⟩ := zkc_iff.mp h
  have := zkV_mono (np := np) (pc := pc) (D := D) (S := S) (f := f) (rd := rd) (ex := ex) hl j p
  have := zkV_le (np := np) (pc := pc) (D := D) (S := S) (f := f) (rd := rd) (ex := ex) (lm := lm) (by omega) j p
  exact zkc_iff.mpr ⟨p, h1, by omega⟩
theorem zkc_stop {lm j : Nat} (h : zkc np pc D S f rd ex lm j np = false) : zkc np pc D S f rd ex lm (j + 1) np = false := by
  apply eq_false_of_ne_true
  intro q
  obtain ⟨p, h1, h2⟩ := zkc_iff.mp q
  apply h2
  unfold zkV
  cases (S (f + j + 1)).testBit p
  · rfl
  · rw [cond_true, zmn9_none np (fun q hq _ => ?_)]
    · unfold zk9; rw [if_pos rfl]
    · apply Classical.byContradiction
      intro z
      rw [zkc_iff.mpr ⟨q, hq, z⟩] at h
      cases h
theorem zkc_stops {lm j : Nat} (h : zkc np pc D S f rd ex lm j np = false) : ∀ i, zkc np pc D S f rd ex lm (j + i) np = false := by
  intro i
  induction i with
  | zero => exact h
  | succ i ih => exact zkc_stop ih
theorem zkV_60 {g : Nat} (hg : g < f + 60) (hst : ∀ d p, f ≤ d → d < g → (S (d + 1)).testBit p = true → ∃ q, q < np ∧ (S d).testBit q = true ∧ D (d + 1) q p ≤ pc) (j p : Nat) (hj : f + j ≤ g) (hb : (S (f + j)).testBit p = true) : zkV np pc D S f rd ex 60 j p ≤ j + 1 := by
  induction j generalizing p with
  | zero =>
    unfold zkV
    rw [show (S f).testBit p = true from hb, cond_true]
    unfold zk9
    repeat' split
    all_goals omega
  | succ j ih =>
    unfold zkV
    rw [show (S (f + j + 1)).testBit p = true from hb, cond_true]
    obtain ⟨q, h1, h2, h3⟩ := hst (f + j) p (by omega) (by omega) hb
    have := ih q (by omega) h2
    have := zmn9_at (c := fun q => (S (f + j)).testBit q && Nat.ble (D (f + j + 1) q p) pc) (v := zkV np pc D S f rd ex 60 j) h1 (by simp only [h2, Bool.true_and]; exact Nat.ble_eq_true_of_le h3)
    unfold zk9
    repeat' split
    all_goals omega
/-- the least limit that can be kept to -/
theorem zleast (P : Nat → Bool) (N : Nat) (h : P N = true) : ∃ L, L ≤ N ∧ P L = true ∧ ∀ l, l < L → P l = false := by
  obtain ⟨L, h1, h2⟩ := pk_least (fun k => P k = true) ⟨N, h⟩
  refine ⟨L, ?_, h1, fun l hl => eq_false_of_ne_true (h2 l hl)⟩
  rcases Nat.lt_or_ge N L with q | q
  · exact absurd h (h2 N q)
  · exact q
end SV
theorem zSw_51 {K : Nat → Nat → Option Nat} {bf th : Nat} (h : zSw K) (hb : (bf = 53 ∧ th = 54) ∨ (bf = 54 ∧ th = 53)) : zSw (zu (zu K 51 4 (some th)) 51 5 (some bf)) := by
  obtain ⟨h1, h2, h3⟩ := h
  refine ⟨h1, h2, ?_⟩
  rcases hb with ⟨rfl, rfl⟩ | ⟨rfl, rfl⟩
  · exact Or.inr ⟨rfl, rfl⟩
  · exact Or.inl ⟨rfl, rfl⟩
theorem zL53 {bf th : Nat} (hb : (bf = 53 ∧ th = 54) ∨ (bf = 54 ∧ th = 53)) : zget zLay bf = some (.inr (0, 10)) ∧ zget zLay th = some (.inr (0, 10)) ∧ bf ≠ th ∧ (53 ≤ bf ∧ bf ≤ 54) ∧ (53 ≤ th ∧ th ≤ 54) := by
  rcases hb with ⟨rfl, rfl⟩ | ⟨rfl, rfl⟩ <;> exact ⟨rfl, rfl, by decide, by decide, by decide⟩
