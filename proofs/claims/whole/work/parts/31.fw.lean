/-! ===== the least miles ===== -/
theorem zFs_eq (k : Nat) (r : Nat → Nat → Nat) (x y : Nat) : zFs k r x y = min (r x y) (r x k + r k y) := rfl
theorem zup2_eq (r : Nat → Nat → Nat) (p q v x y : Nat) : zup2 r p q v x y = if (x = q ∧ y = p) ∨ (x = p ∧ y = q) then v else r x y := rfl
/-- the first w ways are in order: n places -/
def zWok (g : Nat → Nat → Nat) (n w : Nat) : Prop := ∀ i, i < w → g 3 i < n ∧ g 4 i < n ∧ g 3 i ≠ g 4 i ∧ g 5 i ≤ 30
/-- way i is open on day d -/
def zopn (g : Nat → Nat → Nat) (s d i : Nat) : Prop := d = 60 ∨ zshut g i d s = false
theorem zW_s {g : Nat → Nat → Nat} {s d k : Nat} (h : zopn g s d k) (x y : Nat) : zW g s d (k + 1) x y = if (x = g 4 k ∧ y = g 3 k) ∨ (x = g 3 k ∧ y = g 4 k) then min (g 5 k) (zW g s d k (g 3 k) (g 4 k)) else zW g s d k x y := by
  show (if d = 60 ∨ zshut g k d s = false then zup2 (zW g s d k) (g 3 k) (g 4 k) (Nat.min (g 5 k) (zW g s d k (g 3 k) (g 4 k))) else zW g s d k) x y = _
  rw [if_pos (show d = 60 ∨ zshut g k d s = false from h)]
  rfl
theorem zW_n {g : Nat → Nat → Nat} {s d k : Nat} (h : ¬ zopn g s d k) (x y : Nat) : zW g s d (k + 1) x y = zW g s d k x y := by
  show (if d = 60 ∨ zshut g k d s = false then zup2 (zW g s d k) (g 3 k) (g 4 k) (Nat.min (g 5 k) (zW g s d k (g 3 k) (g 4 k))) else zW g s d k) x y = _
  rw [if_neg (show ¬ (d = 60 ∨ zshut g k d s = false) from h)]
theorem zW_0 (g : Nat → Nat → Nat) (s d x y : Nat) : zW g s d 0 x y = if x = y then 0 else 100000 := rfl
theorem zWok_le {g : Nat → Nat → Nat} {n w v : Nat} (h : zWok g n w) (hv : v ≤ w) : zWok g n v := fun i hi => h i (by omega)
theorem zW_base {g : Nat → Nat → Nat} {n w s d : Nat} (h : zWok g n w) : (∀ x, zW g s d w x x = 0) ∧ (∀ x y, zW g s d w x y = zW g s d w y x) ∧ (∀ x y, zW g s d w x y ≤ 100000) ∧ (∀ x y, n ≤ y → x ≠ y → zW g s d w x y = 100000) := by
  induction w with
  | zero =>
    refine ⟨fun x => by simp [zW_0], fun x y => ?_, fun x y => ?_, fun x y hy hx => ?_⟩
    · rw [zW_0, zW_0]
      by_cases e : x = y
      · subst e; rfl
      · rw [if_neg e, if_neg (fun q => e q.symm)]
    · rw [zW_0]; split <;> omega
    · rw [zW_0, if_neg hx]
  | succ w ih =>
    obtain ⟨i1, i2, i3, i4⟩ := ih (zWok_le h (by omega))
    obtain ⟨w1, w2, w3, w4⟩ := h w (by omega)
    by_cases ho : zopn g s d w
    · refine ⟨fun x => ?_, fun x y => ?_, fun x y => ?_, fun x y hy hx => ?_⟩
      · rw [zW_s ho, if_neg (by omega)]; exact i1 x
      · rw [zW_s ho, zW_s ho]
        by_cases e : (x = g 4 w ∧ y = g 3 w) ∨ (x = g 3 w ∧ y = g 4 w)
        · rw [if_pos e, if_pos (by omega)]
        · rw [if_neg e, if_neg (by omega)]; exact i2 x y
      · rw [zW_s ho]
        split
        · have := i3 (g 3 w) (g 4 w)
          omega
        · exact i3 x y
      · rw [zW_s ho, if_neg (by omega)]; exact i4 x y hy hx
    · simp only [zW_n ho]
      exact ⟨i1, i2, i3, i4⟩
theorem zFW_base {n : Nat} {r : Nat → Nat → Nat} (h : (∀ x, r x x = 0) ∧ (∀ x y, r x y = r y x) ∧ (∀ x y, r x y ≤ 100000) ∧ (∀ x y, n ≤ y → x ≠ y → r x y = 100000)) (k : Nat) : (∀ x, zFW r k x x = 0) ∧ (∀ x y, zFW r k x y = zFW r k y x) ∧ (∀ x y, zFW r k x y ≤ 100000) ∧ (∀ x y, n ≤ y → x ≠ y → zFW r k x y = 100000) := by
  induction k with
  | zero => exact h
  | succ k ih =>
    obtain ⟨i1, i2, i3, i4⟩ := ih
    have e : ∀ x y, zFW r (k + 1) x y = min (zFW r k x y) (zFW r k x k + zFW r k k y) := fun _ _ => rfl
    refine ⟨fun x => ?_, fun x y => ?_, fun x y => ?_, fun x y hy hx => ?_⟩
    · rw [e, i1]; omega
    · rw [e, e, i2 x y, i2 x k, i2 k y]; omega
    · rw [e]; have := i3 x y; omega
    · rw [e, i4 x y hy hx]
      by_cases hk : k = y
      · subst hk
        rw [i4 x k hy hx]
        omega
      · rw [i4 k y hy hk]
        omega
theorem zFW_le (r : Nat → Nat → Nat) (k x y : Nat) : zFW r k x y ≤ r x y := by
  induction k with
  | zero => exact Nat.le_refl _
  | succ k ih =>
    have e : zFW r (k + 1) x y = min (zFW r k x y) (zFW r k x k + zFW r k k y) := rfl
    omega
theorem zFW_tri {r : Nat → Nat → Nat} (h0 : ∀ x, r x x = 0) (k : Nat) : (∀ x, zFW r k x x = 0) ∧ ∀ v, v < k → ∀ x y, zFW r k x y ≤ zFW r k x v + zFW r k v y := by
  induction k with
  | zero => exact ⟨h0, fun v hv => absurd hv (Nat.not_lt_zero v)⟩
  | succ k ih =>
    obtain ⟨i1, i2⟩ := ih
    have e : ∀ x y, zFW r (k + 1) x y = min (zFW r k x y) (zFW r k x k + zFW r k k y) := fun _ _ => rfl
    refine ⟨fun x => by rw [e, i1]; omega, fun v hv x y => ?_⟩
    rcases Nat.lt_or_ge v k with hk | hk
    · have a1 := i2 v hk x y
      have a2 := i2 v hk x k
      have a3 := i2 v hk k y
      rw [e, e, e]
      omega
    · have hv2 : v = k := by omega
      subst hv2
      have := i1 v
      rw [e, e, e]
      omega
/-- stages beyond the places change nothing -/
theorem zFW_more {n : Nat} {r : Nat → Nat → Nat} (h : (∀ x, r x x = 0) ∧ (∀ x y, r x y = r y x) ∧ (∀ x y, r x y ≤ 100000) ∧ (∀ x y, n ≤ y → x ≠ y → r x y = 100000)) (j : Nat) {x y : Nat} (hx : x < n) : zFW r (n + j) x y = zFW r n x y := by
  induction j with
  | zero => rfl
  | succ j ih =>
    obtain ⟨i1, i2, i3, i4⟩ := zFW_base h (n + j)
    have e : zFW r (n + (j + 1)) x y = min (zFW r (n + j) x y) (zFW r (n + j) x (n + j) + zFW r (n + j) (n + j) y) := rfl
    rw [e, i4 x (n + j) (by omega) (by omega)]
    have := i3 x y
    omega
/-- what a set of places that no open way leaves holds -/
theorem zW_cl {g : Nat → Nat → Nat} {n w s d : Nat} (h : zWok g n w) {S : Nat → Prop} (hS : ∀ i, i < w → zopn g s d i → (S (g 3 i) ↔ S (g 4 i))) (x y : Nat) (hx : S x) (hd : zW g s d w x y < 100000) : S y := by
  induction w with
  | zero =>
    rw [zW_0] at hd
    by_cases e : x = y
    · subst e; exact hx
    · rw [if_neg e] at hd; omega
  | succ w ih =>
    have ih := ih (zWok_le h (by omega)) (fun i hi => hS i (by omega))
    by_cases ho : zopn g s d w
    · have hh := hS w (by omega) ho
      rw [zW_s ho] at hd
      by_cases e : (x = g 4 w ∧ y = g 3 w) ∨ (x = g 3 w ∧ y = g 4 w)
      · rcases e with ⟨rfl, rfl⟩ | ⟨rfl, rfl⟩
        · exact hh.mpr hx
        · exact hh.mp hx
      · rw [if_neg e] at hd
        exact ih hd
    · rw [zW_n ho] at hd
      exact ih hd
theorem zFW_cl {r : Nat → Nat → Nat} {S : Nat → Prop} (h : ∀ x y, S x → r x y < 100000 → S y) (k : Nat) : ∀ x y, S x → zFW r k x y < 100000 → S y := by
  induction k with
  | zero => exact h
  | succ k ih =>
    intro x y hx hd
    have e : zFW r (k + 1) x y = min (zFW r k x y) (zFW r k x k + zFW r k k y) := rfl
    rw [e] at hd
    by_cases h1 : zFW r k x y < 100000
    · exact ih x y hx h1
    · exact ih k y (ih x k hx (by omega)) (by omega)
theorem zW_way {g : Nat → Nat → Nat} {n w s d : Nat} (h : zWok g n w) {i : Nat} (hi : i < w) (ho : zopn g s d i) : zW g s d w (g 3 i) (g 4 i) ≤ 30 := by
  induction w with
  | zero => omega
  | succ w ih =>
    by_cases hw : zopn g s d w
    · rw [zW_s hw]
      split
      · have := (h w (by omega)).2.2.2
        omega
      · rename_i hn
        have : i ≠ w := by
          rintro rfl
          exact hn (Or.inr ⟨rfl, rfl⟩)
        exact ih (zWok_le h (by omega)) (by omega)
    · rw [zW_n hw]
      have : i ≠ w := by
        rintro rfl
        exact hw ho
      exact ih (zWok_le h (by omega)) (by omega)
/-- how many below k -/
def zct (f : Nat → Bool) : Nat → Nat
  | 0 => 0
  | k + 1 => zct f k + (f k).toNat
theorem zct_le (f : Nat → Bool) (k : Nat) : zct f k ≤ k := by
  induction k with
  | zero => exact Nat.le_refl _
  | succ k ih =>
    have : (f k).toNat ≤ 1 := by cases f k <;> decide
    unfold zct; omega
theorem zct_mono {f g : Nat → Bool} (h : ∀ v, f v = true → g v = true) (k : Nat) : zct f k ≤ zct g k ∧ (zct f k = zct g k → ∀ v, v < k → g v = true → f v = true) := by
  induction k with
  | zero => exact ⟨Nat.le_refl _, fun _ v hv => absurd hv (Nat.not_lt_zero v)⟩
  | succ k ih =>
    have h1 : (f k).toNat ≤ (g k).toNat := by
      have := h k
      cases hf : f k
      · simp
      · rw [this hf]; decide
    unfold zct
    refine ⟨by omega, fun e v hv hg => ?_⟩
    have e1 : zct f k = zct g k := by omega
    rcases Nat.lt_or_ge v k with hk | hk
    · exact ih.2 e1 v hk hg
    · have : v = k := by omega
      subst this
      cases hf : f v
      · exfalso
        rw [hf, hg] at e
        simp at e
        omega
      · rfl
theorem zct_one {f : Nat → Bool} {p k : Nat} (hp : p < k) (hf : f p = true) : 1 ≤ zct f k := by
  induction k with
  | zero => omega
  | succ k ih =>
    unfold zct
    rcases Nat.lt_or_ge p k with h | h
    · have := ih h; omega
    · have : p = k := by omega
      subst this
      rw [hf]; simp
theorem zD_bound {g : Nat → Nat → Nat} {n w s d p q : Nat} (h : zWok g n w) (hn : n ≤ 10) (hp : p < 10) (hq : zD g w s d p q < 100000) : zD g w s d p q ≤ 300 := by
  obtain ⟨b1, b2, b3, b4⟩ := zW_base (s := s) (d := d) h
  obtain ⟨c1, c2, c3, c4⟩ := zFW_base ⟨b1, b2, b3, b4⟩ 10
  have tri := (zFW_tri b1 10).2
  have key : ∀ j : Nat, j ≤ 10 → (∃ i, i < j ∧ ∀ v, v < 10 → zD g w s d p v ≤ 30 * (i + 1) → zD g w s d p v ≤ 30 * i) ∨ j + 1 ≤ zct (fun v => Nat.ble (zD g w s d p v) (30 * j)) 10 := by
    intro j
    induction j with
    | zero =>
      intro _
      refine Or.inr (zct_one hp ?_)
      show Nat.ble (zFW (zW g s d w) 10 p p) (30 * 0) = true
      rw [c1]; rfl
    | succ j ih =>
      intro hj
      rcases ih (by omega) with ⟨i, hi, k⟩ | k
      · exact Or.inl ⟨i, by omega, k⟩
      · have m := zct_mono (f := fun v => Nat.ble (zD g w s d p v) (30 * j)) (g := fun v => Nat.ble (zD g w s d p v) (30 * (j + 1))) (fun v hv => by
          have := Nat.le_of_ble_eq_true hv
          exact Nat.ble_eq_true_of_le (by omega)) 10
        by_cases e : zct (fun v => Nat.ble (zD g w s d p v) (30 * j)) 10 = zct (fun v => Nat.ble (zD g w s d p v) (30 * (j + 1))) 10
        · refine Or.inl ⟨j, by omega, fun v hv hle => ?_⟩
          exact Nat.le_of_ble_eq_true (m.2 e v hv (Nat.ble_eq_true_of_le hle))
        · exact Or.inr (by omega)
  rcases key 10 (Nat.le_refl _) with ⟨i, hi, k⟩ | k
  · have cl : ∀ x y, zD g w s d p x ≤ 30 * i ∧ x < 10 → zD g w s d x y < 100000 → zD g w s d p y ≤ 30 * i ∧ y < 10 := by
      refine zFW_cl (S := fun x => zD g w s d p x ≤ 30 * i ∧ x < 10) (fun x y hx hd => zW_cl h (S := fun x => zD g w s d p x ≤ 30 * i ∧ x < 10) (fun a ha ho => ?_) x y hx hd) 10
      obtain ⟨w1, w2, w3, w4⟩ := h a ha
      have hw := zW_way h ha ho
      have h1 : zD g w s d (g 3 a) (g 4 a) ≤ 30 := Nat.le_trans (zFW_le _ 10 _ _) hw
      have h2 : zD g w s d (g 4 a) (g 3 a) ≤ 30 := by
        have : zD g w s d (g 4 a) (g 3 a) = zD g w s d (g 3 a) (g 4 a) := c2 _ _
        omega
      have t1 : zD g w s d p (g 4 a) ≤ zD g w s d p (g 3 a) + zD g w s d (g 3 a) (g 4 a) := tri _ (by omega) _ _
      have t2 : zD g w s d p (g 3 a) ≤ zD g w s d p (g 4 a) + zD g w s d (g 4 a) (g 3 a) := tri _ (by omega) _ _
      constructor
      · rintro ⟨u1, u2⟩
        exact ⟨k _ (by omega) (by omega), by omega⟩
      · rintro ⟨u1, u2⟩
        exact ⟨k _ (by omega) (by omega), by omega⟩
    have hpp : zD g w s d p p = 0 := c1 p
    have := (cl p q ⟨by omega, hp⟩ hq).1
    omega
  · have := zct_le (fun v => Nat.ble (zD g w s d p v) (30 * 10)) 10
    omega
theorem zD_base {g : Nat → Nat → Nat} {n w s d : Nat} (h : zWok g n w) : (∀ x, zD g w s d x x = 0) ∧ (∀ x y, zD g w s d x y = zD g w s d y x) ∧ (∀ x y, zD g w s d x y ≤ 100000) := by
  have k := zFW_base (zW_base (s := s) (d := d) h) 10
  exact ⟨k.1, k.2.1, k.2.2.1⟩
/-- the same data, the same miles -/
theorem zshut_same {g g' : Nat → Nat → Nat} {s : Nat} (h : ∀ c i, 6 ≤ c → c ≤ 8 → i < s → g' c i = g c i) (w d : Nat) : zshut g' w d s = zshut g w d s := by
  induction s with
  | zero => rfl
  | succ s ih =>
    unfold zshut
    rw [ih (fun c i h1 h2 h3 => h c i h1 h2 (by omega)), h 6 s (by omega) (by omega) (by omega), h 7 s (by omega) (by omega) (by omega), h 8 s (by omega) (by omega) (by omega)]
theorem zW_same {g g' : Nat → Nat → Nat} {s w : Nat} (h1 : ∀ c i, 3 ≤ c → c ≤ 5 → i < w → g' c i = g c i) (h : ∀ c i, 6 ≤ c → c ≤ 8 → i < s → g' c i = g c i) (d : Nat) : zW g' s d w = zW g s d w := by
  induction w with
  | zero => rfl
  | succ w ih =>
    unfold zW
    rw [ih (fun c i a b e => h1 c i a b (by omega)), zshut_same h, h1 3 w (by omega) (by omega) (by omega), h1 4 w (by omega) (by omega) (by omega), h1 5 w (by omega) (by omega) (by omega)]
theorem zD_same {g g' : Nat → Nat → Nat} {s w : Nat} (h1 : ∀ c i, 3 ≤ c → c ≤ 5 → i < w → g' c i = g c i) (h : ∀ c i, 6 ≤ c → c ≤ 8 → i < s → g' c i = g c i) (d : Nat) : zD g' w s d = zD g w s d := by
  unfold zD
  rw [zW_same h1 h]
