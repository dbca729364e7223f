/-! ===== sets of places as numbers ===== -/
theorem zb_s : ∀ n, n < 32 → ((nI n &&& 31).toBitVec.smod 32).toNat = n := by decide +kernel
theorem zb_and (a b : Nat) : nI a &&& nI b = nI (a &&& b) := by
  apply Int32.toBitVec_inj.1
  show BitVec.ofNat 32 a &&& BitVec.ofNat 32 b = BitVec.ofNat 32 (a &&& b)
  apply BitVec.eq_of_getLsbD_eq
  intro i hi
  simp [hi]
theorem zb_or (a b : Nat) : nI a ||| nI b = nI (a ||| b) := by
  apply Int32.toBitVec_inj.1
  show BitVec.ofNat 32 a ||| BitVec.ofNat 32 b = BitVec.ofNat 32 (a ||| b)
  apply BitVec.eq_of_getLsbD_eq
  intro i hi
  simp [hi]
theorem zb_m1 (x : Int32) : (-1) &&& x = x := by
  apply Int32.toBitVec_inj.1
  show BitVec.allOnes 32 &&& x.toBitVec = x.toBitVec
  exact BitVec.allOnes_and
theorem zb_m1' (x : Int32) : x &&& (-1) = x := by
  apply Int32.toBitVec_inj.1
  show x.toBitVec &&& BitVec.allOnes 32 = x.toBitVec
  exact BitVec.and_allOnes
theorem zb_shl {p : Nat} (hp : p < 31) : (1 : Int32) <<< (nI p &&& 31) = nI (2 ^ p) := by
  have h := pk_shlN (n := 1) (nI p &&& 31) p (zb_s p (by omega)) (by
    have : 2 ^ p ≤ 2 ^ 30 := Nat.pow_le_pow_right (by decide) (by omega)
    omega)
  rw [Nat.one_mul] at h
  exact h
theorem zb_shr {m p : Nat} (hm : m < 2 ^ 31) (hp : p < 32) : nI m >>> (nI p &&& 31) = nI (m / 2 ^ p) := pk_shrN hm _ p (zb_s p hp)
theorem zb_bit {m p : Nat} (hm : m < 2 ^ 31) (hp : p < 32) : (nI m >>> (nI p &&& 31)) &&& 1 = nI (m.testBit p).toNat := by
  rw [zb_shr hm hp, show (1 : Int32) = nI 1 from rfl, zb_and, Nat.and_one_is_mod, Nat.testBit_eq_decide_div_mod_eq]
  congr 1
  have : m / 2 ^ p % 2 < 2 := Nat.mod_lt _ (by decide)
  generalize m / 2 ^ p % 2 = z at *
  have : z = 0 ∨ z = 1 := by omega
  rcases this with h | h <;> subst h <;> rfl
theorem zb_bit0 {m p : Nat} (hm : m < 2 ^ 31) (hp : p < 32) : ((nI m >>> (nI p &&& 31)) &&& 1 = 0) ↔ m.testBit p = false := by
  rw [zb_bit hm hp]
  cases m.testBit p <;> decide
theorem zb_bit1 {m p : Nat} (hm : m < 2 ^ 31) (hp : p < 32) : ((nI m >>> (nI p &&& 31)) &&& 1 = 1) ↔ m.testBit p = true := by
  rw [zb_bit hm hp]
  cases m.testBit p <;> decide
theorem zp2 {p : Nat} (hp : p < 10) : 2 ^ p < 1024 := by
  have : 2 ^ p ≤ 2 ^ 9 := Nat.pow_le_pow_right (by decide) (by omega)
  omega
theorem zsb_bit (f : Nat → Bool) (n p : Nat) : (zsb f n).testBit p = (decide (p < n) && f p) := by
  induction n with
  | zero => simp [zsb]
  | succ n ih =>
    unfold zsb
    rw [Nat.testBit_or, ih]
    by_cases hp : p = n
    · subst hp
      cases h : f p
      · simp [h]
      · simp [h, Nat.testBit_two_pow_self]
    · have e : (bif f n then 2 ^ n else 0).testBit p = false := by
        cases f n
        · simp
        · simp only [cond_true]
          rw [Nat.testBit_two_pow]
          simp
          omega
      rw [e, Bool.or_false]
      have : decide (p < n + 1) = decide (p < n) := by
        rw [decide_eq_decide]
        omega
      rw [this]
theorem zsb_lt (f : Nat → Bool) (n : Nat) : zsb f n < 2 ^ n := by
  apply Nat.lt_pow_two_of_testBit
  intro i hi
  rw [zsb_bit]
  simp
  omega
theorem zsb_lt10 (f : Nat → Bool) {n : Nat} (hn : n ≤ 10) : zsb f n < 1024 := by
  have := zsb_lt f n
  have : 2 ^ n ≤ 2 ^ 10 := Nat.pow_le_pow_right (by decide) hn
  omega
theorem zbit_ext {a b : Nat} (ha : a < 1024) (hb : b < 1024) (h : ∀ p, p < 10 → a.testBit p = b.testBit p) : a = b := by
  apply Nat.eq_of_testBit_eq
  intro i
  rcases Nat.lt_or_ge i 10 with hi | hi
  · exact h i hi
  · rw [Nat.testBit_lt_two_pow (Nat.lt_of_lt_of_le (show a < 2 ^ 10 from ha) (Nat.pow_le_pow_right (by decide) hi)), Nat.testBit_lt_two_pow (Nat.lt_of_lt_of_le (show b < 2 ^ 10 from hb) (Nat.pow_le_pow_right (by decide) hi))]
theorem zsb_ext {f g : Nat → Bool} {n : Nat} (h : ∀ p, p < n → f p = g p) : zsb f n = zsb g n := by
  apply Nat.eq_of_testBit_eq
  intro i
  rw [zsb_bit, zsb_bit]
  by_cases hi : i < n
  · rw [h i hi]
  · simp [hi]
/-- the set that a number below 2^n is -/
theorem zsb_self {m n : Nat} (h : m < 2 ^ n) : zsb (fun p => m.testBit p) n = m := by
  apply Nat.eq_of_testBit_eq
  intro i
  rw [zsb_bit]
  by_cases hi : i < n
  · simp [hi]
  · have : m.testBit i = false := Nat.testBit_lt_two_pow (Nat.lt_of_lt_of_le h (Nat.pow_le_pow_right (by decide) (by omega)))
    simp [this]
theorem zand_lt {a b n : Nat} (h : a < 2 ^ n) : a &&& b < 2 ^ n := Nat.lt_of_le_of_lt Nat.and_le_left h
theorem zand_lt' {a b n : Nat} (h : b < 2 ^ n) : a &&& b < 2 ^ n := Nat.lt_of_le_of_lt Nat.and_le_right h
theorem zbit_0 {m n : Nat} (h : m < 2 ^ n) : m = 0 ↔ ∀ p, p < n → m.testBit p = false := by
  constructor
  · rintro rfl p _
    simp
  · intro k
    apply Nat.eq_of_testBit_eq
    intro i
    rw [Nat.zero_testBit]
    rcases Nat.lt_or_ge i n with hi | hi
    · exact k i hi
    · exact Nat.testBit_lt_two_pow (Nat.lt_of_lt_of_le h (Nat.pow_le_pow_right (by decide) hi))
theorem zand_lt10 {a b : Nat} (h : a < 1024) : a &&& b < 1024 := zand_lt (n := 10) h
theorem zand_lt10' {a b : Nat} (h : b < 1024) : a &&& b < 1024 := zand_lt' (n := 10) h
theorem zor_lt10 {a b : Nat} (h : a < 1024) (h2 : b < 1024) : a ||| b < 1024 := Nat.or_lt_two_pow (n := 10) h h2
