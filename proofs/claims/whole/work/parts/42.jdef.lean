/-! ===== journeys, as meant ===== -/
/-- a sighting: 0 boat, 1 place, 2 day, 3 told -/
def zsn (A : Nat → Int32) (c i : Nat) : Nat := (A (100 + c + 4 * i)).toNatClampNeg
/-- sighting i counts: of boat bt, known on k, up to day u -/
def zsm (A : Nat → Int32) (bt k u i : Nat) : Bool := Nat.beq (zsn A 0 i) bt && (Nat.ble (zsn A 3 i) k && Nat.ble (zsn A 2 i) u)
def zal (A : Nat → Int32) (np bt k u : Nat) : Nat → Nat → Nat
  | 0, _ => 2 ^ np - 1
  | i + 1, d => bif zsm A bt k u i && Nat.beq (zsn A 2 i) d then zal A np bt k u i d &&& 2 ^ (zsn A 1 i) else zal A np bt k u i d
def zsd (A : Nat → Int32) (bt k u : Nat) : Nat → Nat → Bool
  | 0, _ => false
  | i + 1, d => zsd A bt k u i d || (zsm A bt k u i && Nat.beq (zsn A 2 i) d)
def zfi (A : Nat → Int32) (bt k u : Nat) : Nat → Nat
  | 0 => 60
  | i + 1 => bif zsm A bt k u i then min (zfi A bt k u i) (zsn A 2 i) else zfi A bt k u i
def zla (A : Nat → Int32) (bt k u : Nat) : Nat → Nat
  | 0 => 0
  | i + 1 => bif zsm A bt k u i then max (zla A bt k u i) (zsn A 2 i + 1) else zla A bt k u i
def zfI (f : Nat) : Int32 := if f = 60 then -1 else nI f
def zlI (l : Nat) : Int32 := if l = 0 then -1 else nI (l - 1)
/-- sightings in order -/
def zSok (A : Nat → Int32) (np m : Nat) : Prop := ∀ i, i < m → zsn A 1 i < np ∧ zsn A 2 i < 60 ∧ zsn A 3 i < 60 ∧ zsn A 0 i < 8
theorem zand_self_le {a b n : Nat} (h : a < 2 ^ n) : a &&& b < 2 ^ n := zand_lt h
theorem zpos2 (n : Nat) : 0 < 2 ^ n := Nat.pow_pos (by decide)
theorem zal_lt (A : Nat → Int32) (np bt k u i d : Nat) : zal A np bt k u i d < 2 ^ np := by
  induction i with
  | zero =>
    have := zpos2 np
    show 2 ^ np - 1 < 2 ^ np
    omega
  | succ i ih =>
    unfold zal
    cases (zsm A bt k u i && Nat.beq (zsn A 2 i) d)
    · exact ih
    · exact zand_lt ih
theorem zal_no {A : Nat → Int32} {np bt k u i d : Nat} (h : zsd A bt k u i d = false) : zal A np bt k u i d = 2 ^ np - 1 := by
  induction i with
  | zero => rfl
  | succ i ih =>
    unfold zsd at h
    rw [Bool.or_eq_false_iff] at h
    unfold zal
    rw [h.2, cond_false]
    exact ih h.1
theorem zfl {A : Nat → Int32} {np bt k u m : Nat} (h : zSok A np m) : zfi A bt k u m ≤ 60 ∧ zla A bt k u m ≤ 60 ∧ (zfi A bt k u m = 60 ↔ zla A bt k u m = 0) ∧ (zfi A bt k u m < 60 → zfi A bt k u m + 1 ≤ zla A bt k u m ∧ zsd A bt k u m (zfi A bt k u m) = true ∧ zsd A bt k u m (zla A bt k u m - 1) = true) ∧ (∀ d, zsd A bt k u m d = true → zfi A bt k u m ≤ d ∧ d + 1 ≤ zla A bt k u m) := by
  induction m with
  | zero => exact ⟨Nat.le_refl _, Nat.zero_le _, ⟨fun _ => rfl, fun _ => rfl⟩, fun q => absurd q (Nat.lt_irrefl 60), fun d q => (Bool.false_ne_true q).elim⟩
  | succ m ih =>
    obtain ⟨i1, i2, i3, i4, i5⟩ := ih (fun i hi => h i (by omega))
    have hd := (h m (by omega)).2.1
    have es : ∀ d, zsd A bt k u (m + 1) d = (zsd A bt k u m d || (zsm A bt k u m && Nat.beq (zsn A 2 m) d)) := fun _ => rfl
    cases hm : zsm A bt k u m
    · have e1 : zfi A bt k u (m + 1) = zfi A bt k u m := by
        show (bif zsm A bt k u m then min (zfi A bt k u m) (zsn A 2 m) else zfi A bt k u m) = _
        rw [hm, cond_false]
      have e2 : zla A bt k u (m + 1) = zla A bt k u m := by
        show (bif zsm A bt k u m then max (zla A bt k u m) (zsn A 2 m + 1) else zla A bt k u m) = _
        rw [hm, cond_false]
      have e3 : ∀ d, zsd A bt k u (m + 1) d = zsd A bt k u m d := fun d => by rw [es, hm, Bool.false_and, Bool.or_false]
      rw [e1, e2]
      simp only [e3]
      exact ⟨i1, i2, i3, i4, i5⟩
    · have e1 : zfi A bt k u (m + 1) = min (zfi A bt k u m) (zsn A 2 m) := by
        show (bif zsm A bt k u m then min (zfi A bt k u m) (zsn A 2 m) else zfi A bt k u m) = _
        rw [hm, cond_true]
      have e2 : zla A bt k u (m + 1) = max (zla A bt k u m) (zsn A 2 m + 1) := by
        show (bif zsm A bt k u m then max (zla A bt k u m) (zsn A 2 m + 1) else zla A bt k u m) = _
        rw [hm, cond_true]
      have e3 : ∀ d, zsd A bt k u (m + 1) d = (zsd A bt k u m d || Nat.beq (zsn A 2 m) d) := fun d => by rw [es, hm, Bool.true_and]
      have yes : zsd A bt k u (m + 1) (zsn A 2 m) = true := by
        rw [e3, Nat.beq_refl, Bool.or_true]
      have keep : ∀ d, zsd A bt k u m d = true → zsd A bt k u (m + 1) d = true := fun d q => by rw [e3, q, Bool.true_or]
      rw [e1, e2]
      refine ⟨by omega, by omega, by omega, fun _ => ⟨?_, ?_, ?_⟩, fun d q => ?_⟩
      · rcases Nat.lt_or_ge (zfi A bt k u m) 60 with q | q
        · have := (i4 q).1; omega
        · omega
      · rcases Nat.lt_or_ge (zfi A bt k u m) (zsn A 2 m) with q | q
        · rw [Nat.min_eq_left (by omega)]
          exact keep _ (i4 (by omega)).2.1
        · rw [Nat.min_eq_right (by omega)]; exact yes
      · rcases Nat.lt_or_ge (zsn A 2 m + 1) (zla A bt k u m) with q | q
        · rw [Nat.max_eq_left (by omega)]
          have : zfi A bt k u m < 60 := by
            rcases Nat.lt_or_ge (zfi A bt k u m) 60 with z | z
            · exact z
            · have := i3.mp (by omega); omega
          exact keep _ (i4 this).2.2
        · rw [Nat.max_eq_right (by omega)]; exact yes
      · rw [e3, Bool.or_eq_true] at q
        rcases q with q | q
        · have := i5 d q; omega
        · have := Nat.eq_of_beq_eq_true q
          omega
theorem zsm_u {A : Nat → Int32} {bt k u u' : Nat} {i : Nat} (h : zsn A 2 i < 60) (hu : 59 ≤ u) (hu' : 59 ≤ u') : zsm A bt k u i = zsm A bt k u' i := by
  unfold zsm
  rw [Nat.ble_eq_true_of_le (show zsn A 2 i ≤ u by omega), Nat.ble_eq_true_of_le (show zsn A 2 i ≤ u' by omega)]
theorem zu_same {A : Nat → Int32} {np bt k u u' m : Nat} (h : zSok A np m) (hu : 59 ≤ u) (hu' : 59 ≤ u') : (∀ d, zal A np bt k u m d = zal A np bt k u' m d) ∧ (∀ d, zsd A bt k u m d = zsd A bt k u' m d) ∧ zfi A bt k u m = zfi A bt k u' m ∧ zla A bt k u m = zla A bt k u' m := by
  induction m with
  | zero => exact ⟨fun _ => rfl, fun _ => rfl, rfl, rfl⟩
  | succ m ih =>
    obtain ⟨i1, i2, i3, i4⟩ := ih (fun i hi => h i (by omega))
    have e := zsm_u (A := A) (bt := bt) (k := k) (h m (by omega)).2.1 hu hu'
    refine ⟨fun d => ?_, fun d => ?_, ?_, ?_⟩
    · unfold zal; rw [e, i1]
    · unfold zsd; rw [e, i2]
    · unfold zfi; rw [e, i3]
    · unfold zla; rw [e, i4]
def zany (f : Nat → Bool) : Nat → Bool
  | 0 => false
  | k + 1 => zany f k || f k
theorem zany_iff {f : Nat → Bool} {k : Nat} : zany f k = true ↔ ∃ q, q < k ∧ f q = true := by
  induction k with
  | zero => exact ⟨fun h => (Bool.false_ne_true h).elim, fun ⟨q, h, _⟩ => absurd h (Nat.not_lt_zero q)⟩
  | succ k ih =>
    show (zany f k || f k) = true ↔ _
    rw [Bool.or_eq_true, ih]
    constructor
    · rintro (⟨q, h1, h2⟩ | h)
      · exact ⟨q, by omega, h2⟩
      · exact ⟨k, by omega, h⟩
    · rintro ⟨q, h1, h2⟩
      by_cases e : q = k
      · subst e; exact Or.inr h2
      · exact Or.inl ⟨q, by omega, h2⟩
/-- places reached out of a set on a day -/
def zrc (np pc : Nat) (D : Nat → Nat → Nat) (S : Nat) : Nat := zsb (fun p => zany (fun q => S.testBit q && Nat.ble (D q p) pc) np) np
theorem zrc_bit {np pc : Nat} {D : Nat → Nat → Nat} {S p : Nat} : (zrc np pc D S).testBit p = true ↔ p < np ∧ ∃ q, q < np ∧ S.testBit q = true ∧ D q p ≤ pc := by
  unfold zrc
  rw [zsb_bit, Bool.and_eq_true, decide_eq_true_iff, zany_iff]
  constructor
  · rintro ⟨h1, q, h2, h3⟩
    rw [Bool.and_eq_true] at h3
    exact ⟨h1, q, h2, h3.1, Nat.le_of_ble_eq_true h3.2⟩
  · rintro ⟨h1, q, h2, h3, h4⟩
    refine ⟨h1, q, h2, ?_⟩
    rw [Bool.and_eq_true]
    exact ⟨h3, Nat.ble_eq_true_of_le h4⟩
theorem zrc_lt (np pc : Nat) (D : Nat → Nat → Nat) (S : Nat) : zrc np pc D S < 2 ^ np := zsb_lt _ _
/-- led from the first day on: j days behind f -/
def zld (rc : Nat → Nat → Nat) (al : Nat → Nat) (f : Nat) : Nat → Nat
  | 0 => al f
  | j + 1 => al (f + j + 1) &&& rc (f + j + 1) (zld rc al f j)
/-- back from the last day: j days ahead of g -/
def zbk (rc : Nat → Nat → Nat) (al : Nat → Nat) (g : Nat) : Nat → Nat
  | 0 => al g
  | j + 1 => al (g - (j + 1)) &&& rc (g - j) (zbk rc al g j)
/-- the class's way back -/
def zfn (rc : Nat → Nat → Nat) (al : Nat → Nat) (f g : Nat) : Nat → Nat
  | 0 => zld rc al f (g - f)
  | j + 1 => zld rc al f (g - (j + 1) - f) &&& rc (g - j) (zfn rc al f g j)
theorem zld_sub (rc : Nat → Nat → Nat) (al : Nat → Nat) (f j p : Nat) (h : (zld rc al f j).testBit p = true) : (al (f + j)).testBit p = true := by
  cases j with
  | zero => exact h
  | succ j =>
    unfold zld at h
    rw [Nat.testBit_and, Bool.and_eq_true] at h
    exact h.1
theorem zbk_sub (rc : Nat → Nat → Nat) (al : Nat → Nat) (g j p : Nat) (h : (zbk rc al g j).testBit p = true) : (al (g - j)).testBit p = true := by
  cases j with
  | zero => exact h
  | succ j =>
    unfold zbk at h
    rw [Nat.testBit_and, Bool.and_eq_true] at h
    exact h.1
theorem zbool {a b : Bool} (h : a = true ↔ b = true) : a = b := Bool.eq_iff_iff.mpr h
theorem zfn_eq {np pc : Nat} {D : Nat → Nat → Nat → Nat} (hD : ∀ d p q, D d p q = D d q p) {al : Nat → Nat} {f g : Nat} (j : Nat) (hj : f + j ≤ g) : zfn (fun d S => zrc np pc (D d) S) al f g j = zld (fun d S => zrc np pc (D d) S) al f (g - j - f) &&& zbk (fun d S => zrc np pc (D d) S) al g j := by
  induction j with
  | zero =>
    apply Nat.eq_of_testBit_eq
    intro p
    rw [Nat.testBit_and]
    show (zld _ al f (g - f)).testBit p = ((zld _ al f (g - 0 - f)).testBit p && (al g).testBit p)
    rw [show g - 0 - f = g - f by omega]
    apply zbool
    rw [Bool.and_eq_true]
    refine ⟨fun q => ⟨q, ?_⟩, fun q => q.1⟩
    have := zld_sub _ al f (g - f) p q
    rw [show f + (g - f) = g by omega] at this
    exact this
  | succ j ih =>
    have ih := ih (by omega)
    apply Nat.eq_of_testBit_eq
    intro p
    unfold zfn zbk
    rw [ih, Nat.testBit_and, Nat.testBit_and, Nat.testBit_and]
    apply zbool
    rw [Bool.and_eq_true, Bool.and_eq_true, Bool.and_eq_true, zrc_bit, zrc_bit]
    constructor
    · rintro ⟨h1, h2, q, h3, h4, h5⟩
      rw [Nat.testBit_and, Bool.and_eq_true] at h4
      refine ⟨h1, ?_, h2, q, h3, h4.2, h5⟩
      have := zld_sub _ al f (g - (j + 1) - f) p h1
      rw [show f + (g - (j + 1) - f) = g - (j + 1) by omega] at this
      exact this
    · rintro ⟨h1, h2, h3, q, h4, h5, h6⟩
      refine ⟨h1, h3, q, h4, ?_, h6⟩
      rw [Nat.testBit_and, Bool.and_eq_true]
      refine ⟨?_, h5⟩
      have e : g - j - f = (g - (j + 1) - f) + 1 := by omega
      rw [e]
      unfold zld
      rw [Nat.testBit_and, Bool.and_eq_true, zrc_bit]
      refine ⟨?_, h4, p, h3, h1, ?_⟩
      · have := zbk_sub _ al g j q h5
        rw [show f + (g - (j + 1) - f) + 1 = g - j by omega]
        exact this
      · rw [show f + (g - (j + 1) - f) + 1 = g - j by omega, hD]
        exact h6
theorem zld_lt {rc : Nat → Nat → Nat} {al : Nat → Nat} {n : Nat} (h : ∀ d, al d < 2 ^ n) (f j : Nat) : zld rc al f j < 2 ^ n := by
  cases j with
  | zero => exact h f
  | succ j => exact zand_lt (h _)
theorem zbk_lt {rc : Nat → Nat → Nat} {al : Nat → Nat} {n : Nat} (h : ∀ d, al d < 2 ^ n) (g j : Nat) : zbk rc al g j < 2 ^ n := by
  cases j with
  | zero => exact h g
  | succ j => exact zand_lt (h _)
theorem zfn_lt {rc : Nat → Nat → Nat} {al : Nat → Nat} {n : Nat} (h : ∀ d, al d < 2 ^ n) (f g j : Nat) : zfn rc al f g j < 2 ^ n := by
  cases j with
  | zero => exact zld_lt h _ _
  | succ j => exact zand_lt (zld_lt h _ _)
/-- no place: nowhere -/
theorem zrc_0 (np pc : Nat) (D : Nat → Nat → Nat) : zrc np pc D 0 = 0 := by
  apply Nat.eq_of_testBit_eq
  intro p
  rw [Nat.zero_testBit]
  apply eq_false_of_ne_true
  intro h
  obtain ⟨_, q, _, h2, _⟩ := zrc_bit.mp h
  rw [Nat.zero_testBit] at h2
  cases h2
theorem zfn_0 {np pc : Nat} {D : Nat → Nat → Nat → Nat} {al : Nat → Nat} {f g : Nat} (h : zld (fun d S => zrc np pc (D d) S) al f (g - f) = 0) (j : Nat) : zfn (fun d S => zrc np pc (D d) S) al f g j = 0 := by
  induction j with
  | zero => exact h
  | succ j ih =>
    unfold zfn
    rw [ih, zrc_0, Nat.and_zero]
