/-! ===== far, as meant ===== -/
def zcmb (s : Bool) : Option Nat → Nat → Option Nat
  | none, v => some v
  | some x, v => some (bif s then max x v else min x v)
def zfo (s : Bool) (c : Nat → Bool) (v : Nat → Nat) : Nat → Option Nat
  | 0 => none
  | q + 1 => bif c q then zcmb s (zfo s c v q) (v q) else zfo s c v q
def zfV (s : Bool) (np pc : Nat) (D : Nat → Nat → Nat → Nat) (S : Nat → Nat) (f : Nat) : Nat → Nat → Option Nat
  | 0, p => bif (S f).testBit p then some 0 else none
  | j + 1, p => bif (S (f + j + 1)).testBit p then zfo s (fun q => (zfV s np pc D S f j q).isSome && Nat.ble (D (f + j + 1) q p) pc) (fun q => (zfV s np pc D S f j q).getD 0 + D (f + j + 1) q p) np else none
theorem zcmb_le {s : Bool} {o : Option Nat} {v b : Nat} (h : ∀ x, o = some x → x ≤ b) (hv : v ≤ b) : ∀ x, zcmb s o v = some x → x ≤ b := by
  intro x hx
  cases o with
  | none => cases hx; exact hv
  | some y =>
    have hy := h y rfl
    cases s
    · cases hx
      show min y v ≤ b
      omega
    · cases hx
      show max y v ≤ b
      omega
theorem zfo_le {s : Bool} {c : Nat → Bool} {v : Nat → Nat} {b : Nat} (k : Nat) (h : ∀ q, q < k → c q = true → v q ≤ b) : ∀ x, zfo s c v k = some x → x ≤ b := by
  induction k with
  | zero => intro x hx; cases hx
  | succ k ih =>
    have ih := ih (fun q hq => h q (by omega))
    intro x hx
    unfold zfo at hx
    cases hc : c k
    · rw [hc, cond_false] at hx; exact ih x hx
    · rw [hc, cond_true] at hx; exact zcmb_le ih (h k (by omega) hc) x hx
theorem zcmb_some (s : Bool) (o : Option Nat) (v : Nat) : (zcmb s o v).isSome = true := by cases o <;> rfl
theorem zfo_some {s : Bool} {c : Nat → Bool} {v : Nat → Nat} (k : Nat) : (zfo s c v k).isSome = true ↔ ∃ q, q < k ∧ c q = true := by
  induction k with
  | zero => exact ⟨fun h => (by cases h), fun ⟨q, h, _⟩ => absurd h (Nat.not_lt_zero q)⟩
  | succ k ih =>
    unfold zfo
    cases hc : c k
    · rw [cond_false, ih]
      constructor
      · rintro ⟨q, h1, h2⟩; exact ⟨q, by omega, h2⟩
      · rintro ⟨q, h1, h2⟩
        by_cases e : q = k
        · rw [e, hc] at h2; cases h2
        · exact ⟨q, by omega, h2⟩
    · rw [cond_true]
      exact ⟨fun _ => ⟨k, by omega, hc⟩, fun _ => zcmb_some _ _ _⟩
theorem zfo_ext {s : Bool} {c c2 : Nat → Bool} {v : Nat → Nat} (k : Nat) (h : ∀ q, q < k → c q = c2 q) : zfo s c v k = zfo s c2 v k := by
  induction k with
  | zero => rfl
  | succ k ih =>
    unfold zfo
    rw [ih (fun q hq => h q (by omega)), h k (by omega)]
theorem zfV_le {s : Bool} {np pc : Nat} {D : Nat → Nat → Nat → Nat} {S : Nat → Nat} {f : Nat} (hp : pc ≤ 60) (j p : Nat) : ∀ x, zfV s np pc D S f j p = some x → x ≤ 60 * j := by
  induction j generalizing p with
  | zero =>
    intro x hx
    unfold zfV at hx
    cases h : (S f).testBit p
    · rw [h, cond_false] at hx; cases hx
    · rw [h, cond_true] at hx; cases hx; omega
  | succ j ih =>
    intro x hx
    unfold zfV at hx
    cases h : (S (f + j + 1)).testBit p
    · rw [h, cond_false] at hx; cases hx
    · rw [h, cond_true] at hx
      refine zfo_le np (fun q hq hc => ?_) x hx
      rw [Bool.and_eq_true] at hc
      have h1 := Nat.le_of_ble_eq_true hc.2
      cases e : zfV s np pc D S f j q with
      | none => rw [e] at hc; cases hc.1
      | some y =>
        have := ih q y e
        show (some y).getD 0 + _ ≤ _
        simp only [Option.getD_some]
        omega
/-- numbers of the reference, of the class -/
def zer : Option Nat → Int32
  | none => -1
  | some x => nI x
def zec (s : Bool) : Option Nat → Int32
  | none => -9999
  | some x => bif s then nI x else -(nI x)
theorem zer_1 {o : Option Nat} (h : ∀ x, o = some x → x ≤ 9000) : zer o = -1 ↔ o = none := by
  cases o with
  | none => exact ⟨fun _ => rfl, fun _ => rfl⟩
  | some x =>
    have := h x rfl
    exact ⟨fun q => absurd q (znn (n := x) (by omega) (c := -1) (by decide)).1, fun q => by cases q⟩
theorem znegI {x : Nat} (h : x ≤ 2 ^ 20) : (-(nI x)).toInt = -(x : Int) := by
  rw [Int32.toInt_neg, nI_toInt (by omega), Int.bmod_eq_of_le (by omega) (by omega)]
theorem zec_c (s : Bool) (o : Option Nat) (v : Nat) (h : ∀ x, o = some x → x ≤ 9000) (hv : v ≤ 9000) : (if zec s o < zec s (some v) then zec s (some v) else zec s o) = zec s (zcmb s o v) := by
  cases o with
  | none =>
    have : zec s none < zec s (some v) := by
      rw [zlt]
      show (-9999 : Int32).toInt < _
      rw [show (-9999 : Int32).toInt = -9999 from by decide]
      cases s
      · show _ < (-(nI v)).toInt
        rw [znegI (by omega)]; omega
      · show _ < (nI v).toInt
        rw [nI_toInt (by omega)]; omega
    rw [if_pos this]; rfl
  | some x =>
    have hx := h x rfl
    cases s
    · show (if -(nI x) < -(nI v) then -(nI v) else -(nI x)) = -(nI (min x v))
      by_cases q : v < x
      · rw [if_pos (by rw [zlt, znegI (by omega), znegI (by omega)]; omega), Nat.min_eq_right (by omega)]
      · rw [if_neg (by rw [zlt, znegI (by omega), znegI (by omega)]; omega), Nat.min_eq_left (by omega)]
    · show (if nI x < nI v then nI v else nI x) = nI (max x v)
      exact znmax (by omega) (by omega)
theorem zec_addM {x v : Nat} (hx : x ≤ 9000) (hv : v ≤ 9000) : -(nI x) + (-1) * nI v = -(nI (x + v)) := by
  apply Int32.toInt_inj.mp
  have e1 : ((-1 : Int32) * nI v).toInt = -(v : Int) := by
    rw [Int32.toInt_mul, zlm, nI_toInt (by omega), Int.bmod_eq_of_le (by omega) (by omega)]
    omega
  rw [Int32.toInt_add, e1, znegI (by omega), znegI (by omega), Int.bmod_eq_of_le (by omega) (by omega)]
  omega
theorem zneg_1 {x : Nat} (hx : x ≤ 9000) : -(nI x) * (-1) = nI x := by
  apply Int32.toInt_inj.mp
  rw [Int32.toInt_mul, zlm, znegI (by omega), Int.bmod_eq_of_le (by omega) (by omega), nI_toInt (by omega)]
  omega
/-- what is asked of a boat's days: S its places -/
def zVok (s : Bool) (np pc : Nat) (D : Nat → Nat → Nat → Nat) (S : Nat → Nat) (f g : Nat) : Prop := ∀ j, f + j ≤ g → ∀ q, q < np → (zfV s np pc D S f j q).isSome = (S (f + j)).testBit q
theorem zVok_of {s : Bool} {np pc : Nat} {D : Nat → Nat → Nat → Nat} {S : Nat → Nat} {f g : Nat} (h : ∀ d p, f ≤ d → d < g → (S (d + 1)).testBit p = true → ∃ q, q < np ∧ (S d).testBit q = true ∧ D (d + 1) q p ≤ pc) : zVok s np pc D S f g := by
  intro j
  induction j with
  | zero =>
    intro _ q _
    unfold zfV
    rw [Nat.add_zero]
    cases (S f).testBit q <;> rfl
  | succ j ih =>
    intro hj q hq
    have ih := ih (by omega)
    unfold zfV
    rw [show f + (j + 1) = f + j + 1 by omega]
    cases e : (S (f + j + 1)).testBit q
    · rfl
    · rw [cond_true, zfo_some]
      obtain ⟨r, h1, h2, h3⟩ := h (f + j) q (by omega) (by omega) e
      refine ⟨r, h1, ?_⟩
      rw [ih r h1, h2, Bool.true_and]
      exact Nat.ble_eq_true_of_le h3
/-- what is answered -/
def zfR (s : Bool) (np pc : Nat) (D : Nat → Nat → Nat → Nat) (S : Nat → Nat) (f g : Nat) : Option Nat := zfo s (fun p => (S g).testBit p) (fun p => (zfV s np pc D S f (g - f) p).getD 0) np
theorem zSw_41 {K : Nat → Nat → Option Nat} {bf th : Nat} (h : zSw K) (hb : (bf = 44 ∧ th = 45) ∨ (bf = 45 ∧ th = 44)) : zSw (zu (zu K 41 6 (some th)) 41 7 (some bf)) := by
  obtain ⟨h1, h2, h3⟩ := h
  refine ⟨?_, h2, h3⟩
  rcases hb with ⟨rfl, rfl⟩ | ⟨rfl, rfl⟩
  · exact Or.inr ⟨rfl, rfl⟩
  · exact Or.inl ⟨rfl, rfl⟩
theorem zL44 {bf th : Nat} (hb : (bf = 44 ∧ th = 45) ∨ (bf = 45 ∧ th = 44)) : zget zLay bf = some (.inr (0, 10)) ∧ zget zLay th = some (.inr (0, 10)) ∧ bf ≠ th ∧ (44 ≤ bf ∧ bf ≤ 45) ∧ (44 ≤ th ∧ th ≤ 45) := by
  rcases hb with ⟨rfl, rfl⟩ | ⟨rfl, rfl⟩ <;> exact ⟨rfl, rfl, by decide, by decide, by decide⟩
section FA
variable {d : Nat} {F : Option Value → zS → Prop} {X : zX} {b : Nat × Nat} {K : Nat → Nat → Option Nat} {B : Nat → Nat → Int64} {M : Nat → Nat → Int32} {A : Nat → Int32} {np nw ns pc m : Nat} {D : Nat → Nat → Nat → Nat} {S : Nat → Nat} {f g : Nat}
theorem lp_fToP {j p t bf : Nat} (hK : zKok K) (hbf : K 41 6 = some bf) (hyb : zget zLay bf = some (.inr (0, 10))) (hX : zKx A M np nw ns pc m D) (hpc : pc ≤ 60) (hV : zVok true np pc D S f g) (hg : f + j < g ∧ g < 60) (hp : p < np) (ht : M 9 (f + j + 1) = nI t) (ht2 : t < 22) (hdv : ∀ q, q < np → M 11 (100 * t + 10 * q + p) = nI (min 9999 (D (f + j + 1) q p))) (hS : ∀ e, S e < 1024) (hbe : ∀ q, q < np → (S (f + j)).testBit q = true → M bf q = zec true (zfV true np pc D S f j q)) (kk : F (some (.int (zec true (zfo true (fun q => (zfV true np pc D S f j q).isSome && Nat.ble (D (f + j + 1) q p) pc) (fun q => (zfV true np pc D S f j q).getD 0 + D (f + j + 1) q p) np)))) (X, b, zLay, K, B, M)) : ∀ (k q : Nat), q + k = np → zEx (zCall (d + 5)) 2 false 1 zc_Journeys_furthestTo F 28 [.ref 41, .int (nI (f + j + 1)), .int (nI p), .int 1, .int (nI (S (f + j) &&& zsb (fun q => Nat.ble (D (f + j + 1) p q) pc) np)), .int (zec true (zfo true (fun q => (zfV true np pc D S f j q).isSome && Nat.ble (D (f + j + 1) q p) pc) (fun q => (zfV true np pc D S f j q).getD 0 + D (f + j + 1) q p) q)), .int (nI q)] [] (X, b, zLay, K, B, M) := by
  have hb := hX.1.2.2.2.2.1.1
  have hDs := hX.2.2.2.2.2.2.2.2.1
  have l4 : S (f + j) &&& zsb (fun q => Nat.ble (D (f + j + 1) p q) pc) np < 1024 := zand_lt10 (hS _)
  intro k
  induction k with
  | zero =>
    intro q hq
    have hq : q = np := by omega
    subst hq
    exact zb_Journeys_furthestToP_28 (w := 0) (dv := 0) hK (f + j + 1) p _ _ q hbf hyb (by omega) (by omega) ht ht2 hX.1.1 hb l4 (Nat.le_refl _) (fun z => absurd z (by omega)) (fun z => absurd z (by omega)) (fun _ => kk) (fun z _ => absurd z (by omega)) (fun z _ => absurd z (by omega))
  | succ k ih =>
    intro q hq
    have e := ih (q + 1) (by omega)
    have st : zfo true (fun q => (zfV true np pc D S f j q).isSome && Nat.ble (D (f + j + 1) q p) pc) (fun q => (zfV true np pc D S f j q).getD 0 + D (f + j + 1) q p) (q + 1) = bif ((zfV true np pc D S f j q).isSome && Nat.ble (D (f + j + 1) q p) pc) then zcmb true (zfo true (fun q => (zfV true np pc D S f j q).isSome && Nat.ble (D (f + j + 1) q p) pc) (fun q => (zfV true np pc D S f j q).getD 0 + D (f + j + 1) q p) q) ((zfV true np pc D S f j q).getD 0 + D (f + j + 1) q p) else zfo true (fun q => (zfV true np pc D S f j q).isSome && Nat.ble (D (f + j + 1) q p) pc) (fun q => (zfV true np pc D S f j q).getD 0 + D (f + j + 1) q p) q := rfl
    have iv := hV j (by omega) q (by omega)
    have bt : (S (f + j) &&& zsb (fun q => Nat.ble (D (f + j + 1) p q) pc) np).testBit q = ((zfV true np pc D S f j q).isSome && Nat.ble (D (f + j + 1) q p) pc) := by
      rw [Nat.testBit_and, zsb_bit, iv, decide_eq_true (show q < np by omega), Bool.true_and, hDs]
    refine zb_Journeys_furthestToP_28 (w := M bf q) (dv := min 9999 (D (f + j + 1) q p)) hK (f + j + 1) p _ _ q hbf hyb (by omega) (by omega) ht ht2 hX.1.1 hb l4 (by omega) (fun _ => rfl) (fun z => hdv q z) (fun z => absurd z (by omega)) (fun _ z => ?_) (fun _ z => ?_)
    · rw [bt] at z
      rw [eq_false_of_ne_true z, cond_false] at st
      rw [st] at e
      exact e
    · rw [bt] at z
      rw [z, cond_true] at st
      rw [Bool.and_eq_true] at z
      have z2 := Nat.le_of_ble_eq_true z.2
      rw [hbe q (by omega) (by rw [← iv]; exact z.1)]
      cases hv : zfV true np pc D S f j q with
      | none => rw [hv] at z; cases z.1
      | some y =>
        have hy := zfV_le hpc j q y hv
        have eq : zec true (some y) + nI (min 9999 (D (f + j + 1) q p)) = zec true (some (y + D (f + j + 1) q p)) := by
          rw [Nat.min_eq_right (by omega)]
          exact nI_add y _
        rw [eq, zec_c true _ _ (fun x hx => ?_) (by omega)]
        · rw [st, hv] at e
          exact e
        · have := zfo_le (b := 9000) q (fun r hr hc => ?_) x hx
          · exact this
          · simp only [Bool.and_eq_true] at hc
            have h1 := Nat.le_of_ble_eq_true hc.2
            cases hw : zfV true np pc D S f j r with
            | none => rw [hw] at hc; cases hc.1
            | some w =>
              have := zfV_le hpc j r w hw
              show (some w).getD 0 + _ ≤ _
              simp only [Option.getD_some]
              omega
theorem sp_fToP {j p bf : Nat} (hK : zKok K) (hbf : K 41 6 = some bf) (hyb : zget zLay bf = some (.inr (0, 10))) (hX : zKx A M np nw ns pc m D) (hpc : pc ≤ 60) (hV : zVok true np pc D S f g) (hg : f + j < g ∧ g < 60) (hp : p < np) (hS : ∀ e, S e < 1024) (h43 : ∀ e, e < 60 → M 43 e = nI (S e)) (hbe : ∀ q, q < np → (S (f + j)).testBit q = true → M bf q = zec true (zfV true np pc D S f j q)) (hbit : (S (f + j + 1)).testBit p = true) (kk : F (some (.int (zec true (zfV true np pc D S f (j + 1) p)))) (X, b, zLay, K, B, M)) : zCall (d + 6) zm_Journeys_furthestTo [.ref 41, .int (nI (f + j + 1)), .int (nI p), .int 1] (X, b, zLay, K, B, M) F := by
  have hb := hX.1.2.2.2.2.1.1
  obtain ⟨t, ht2, ht, h11, h12⟩ := hX.2.2.2.2.2.1 (f + j + 1) (by omega)
  unfold zfV at kk
  rw [hbit, cond_true] at kk
  refine zb_Journeys_furthestToP_0 hK (f + j + 1) p (by omega) (by omega) ht ht2 (h12 p hp) (by rw [show f + j + 1 - 1 = f + j by omega]; exact h43 _ (by omega)) ?_
  exact lp_fToP hK hbf hyb hX hpc hV hg hp ht ht2 (fun q hq => h11 q p hq hp) hS hbe kk np 0 (by omega)
theorem lp_fur25P {M0 : Nat → Nat → Int32} {j bf th : Nat} (hK : zKok K) (hbf : K 41 6 = some bf) (hth : K 41 7 = some th) (hbt : (bf = 44 ∧ th = 45) ∨ (bf = 45 ∧ th = 44)) (hX : zKx A M0 np nw ns pc m D) (hpc : pc ≤ 60) (hV : zVok true np pc D S f g) (hg : f + j < g ∧ g < 60) (hS : ∀ e, S e < 1024) (h43 : ∀ e, e < 60 → M0 43 e = nI (S e)) (hbe : ∀ q, q < np → (S (f + j)).testBit q = true → M0 bf q = zec true (zfV true np pc D S f j q)) (kk : ∀ M, (∀ c, c ≠ th → M c = M0 c) → (∀ q, q < np → (S (f + j + 1)).testBit q = true → M th q = zec true (zfV true np pc D S f (j + 1) q)) → zEx (zCall (d + 7)) 2 false 1 zc_Journeys_furthest F 68 [.ref 41, .int 1, .int (nI (f + j + 1)), .int (nI np)] [] (X, b, zLay, K, B, M)) : ∀ (k p : Nat) (M : Nat → Nat → Int32), p + k = np → (∀ c, c ≠ th → M c = M0 c) → (∀ q, q < p → (S (f + j + 1)).testBit q = true → M th q = zec true (zfV true np pc D S f (j + 1) q)) → zEx (zCall (d + 7)) 2 false 1 zc_Journeys_furthest F 25 [.ref 41, .int 1, .int (nI (f + j + 1)), .int (nI p)] [] (X, b, zLay, K, B, M) := by
  have hb := hX.1.2.2.2.2.1.1
  obtain ⟨y1, y2, y3, y4, y5⟩ := zL44 hbt
  intro k
  induction k with
  | zero =>
    intro p M hp u1 u2
    have hp : p = np := by omega
    subst hp
    exact zb_Journeys_furthestP_25 (sv := S (f + j + 1)) hK (f + j + 1) p (by rw [u1 1 (by omega)]; exact hX.1.1) hb (by omega) (Nat.le_refl _) (fun z => absurd z (by omega)) (hS _) hth y2 (fun _ => kk M u1 u2) (fun z _ => absurd z (by omega)) (fun z _ => absurd z (by omega))
  | succ k ih =>
    intro p M hp u1 u2
    refine zb_Journeys_furthestP_25 (sv := S (f + j + 1)) hK (f + j + 1) p (by rw [u1 1 (by omega)]; exact hX.1.1) hb (by omega) (by omega) (fun _ => by rw [u1 43 (by omega)]; exact h43 _ (by omega)) (hS _) hth y2 (fun z => absurd z (by omega)) (fun _ z => ?_) (fun _ z => ?_)
    · refine ih (p + 1) M (by omega) u1 (fun q hq hz => ?_)
      by_cases e : q = p
      · rw [e] at hz; exact absurd hz z
      · exact u2 q (by omega) hz
    · refine sp_fToP (d := d + 1) hK hbf y1 (zKx_same (fun c hc => u1 c (by omega)) hX) hpc hV hg (by omega) hS (by rw [u1 43 (by omega)]; exact h43) (by rw [u1 bf y3]; exact hbe) z ?_
      refine zb_Journeys_furthestP_61 (f + j + 1) p _ (by omega) (by omega) hth y2 ?_
      refine ih (p + 1) _ (by omega) (fun c hc => ?_) (fun q hq hz => ?_)
      · rw [zu_oc hc]; exact u1 c hc
      · rw [zu_at]
        by_cases e : q = p
        · rw [if_pos e, e]
        · rw [if_neg e]; exact u2 q (by omega) hz
theorem lp_fur98P {bf : Nat} (hK : zKok K) (hbf : K 41 6 = some bf) (hyb : zget zLay bf = some (.inr (0, 10))) (hX : zKx A M np nw ns pc m D) (hpc : pc ≤ 60) (hV : zVok true np pc D S f g) (hf : M 41 1 = nI f) (hg : M 41 2 = nI g) (hfg : f ≤ g ∧ g < 60) (hS : ∀ e, S e < 1024) (h43 : ∀ e, e < 60 → M 43 e = nI (S e)) (hbe : ∀ q, q < np → (S g).testBit q = true → M bf q = zec true (zfV true np pc D S f (g - f) q)) (kk : F (some (.int (zec true (zfR true np pc D S f g)))) (X, b, zLay, K, B, M)) : ∀ (k p : Nat), p + k = np → zEx (zCall (d + 7)) 2 false 1 zc_Journeys_furthest F 98 [.ref 41, .int 1, .int (zec true (zfo true (fun p => (S g).testBit p) (fun p => (zfV true np pc D S f (g - f) p).getD 0) p)), .int (nI p)] [] (X, b, zLay, K, B, M) := by
  have hb := hX.1.2.2.2.2.1.1
  intro k
  induction k with
  | zero =>
    intro p hp
    have hp : p = np := by omega
    subst hp
    exact zb_Journeys_furthestP_98 (w := 0) hK _ p hf hg hfg hX.1.1 hb (Nat.le_refl _) (h43 g (by omega)) (hS g) (fun z => absurd z (by omega)) hbf hyb (fun _ => kk) (fun z _ => absurd z (by omega)) (fun z _ => absurd z (by omega))
  | succ k ih =>
    intro p hp
    have e := ih (p + 1) (by omega)
    have st : zfo true (fun p => (S g).testBit p) (fun p => (zfV true np pc D S f (g - f) p).getD 0) (p + 1) = bif (S g).testBit p then zcmb true (zfo true (fun p => (S g).testBit p) (fun p => (zfV true np pc D S f (g - f) p).getD 0) p) ((zfV true np pc D S f (g - f) p).getD 0) else zfo true (fun p => (S g).testBit p) (fun p => (zfV true np pc D S f (g - f) p).getD 0) p := rfl
    refine zb_Journeys_furthestP_98 (w := M bf p) hK _ p hf hg hfg hX.1.1 hb (by omega) (h43 g (by omega)) (hS g) (fun _ => rfl) hbf hyb (fun z => absurd z (by omega)) (fun _ z => ?_) (fun _ z => ?_)
    · rw [eq_false_of_ne_true z, cond_false] at st
      rw [st] at e
      exact e
    · rw [z, cond_true] at st
      have iv := hV (g - f) (by omega) p (by omega)
      rw [show f + (g - f) = g by omega, z] at iv
      rw [hbe p (by omega) z]
      have bd : ∀ q x, zfV true np pc D S f (g - f) q = some x → x ≤ 9000 := fun q x hx => by have := zfV_le hpc (g - f) q x hx; omega
      cases hv : zfV true np pc D S f (g - f) p with
      | none => rw [hv] at iv; cases iv
      | some y =>
        have hy := bd p y hv
        rw [zec_c true _ _ (fun x hx => ?_) hy]
        · rw [st, hv] at e
          exact e
        · refine zfo_le (b := 9000) p (fun r hr hc => ?_) x hx
          show (zfV true np pc D S f (g - f) r).getD 0 ≤ _
          cases hw : zfV true np pc D S f (g - f) r with
          | none => exact Nat.zero_le _
          | some w => exact bd r w hw
theorem lp_fur15P {M0 : Nat → Nat → Int32} (hX : zKx A M0 np nw ns pc m D) (hpc : pc ≤ 60) (hV : zVok true np pc D S f g) (hf : M0 41 1 = nI f) (hg : M0 41 2 = nI g) (hfg : f ≤ g ∧ g < 60) (hS : ∀ e, S e < 1024) (h43 : ∀ e, e < 60 → M0 43 e = nI (S e)) (kk : ∀ K M, zKok K → zSw K → (∀ c, c ≠ 44 → c ≠ 45 → M c = M0 c) → F (some (.int (zec true (zfR true np pc D S f g)))) (X, b, zLay, K, B, M)) : ∀ (k j : Nat) (K : Nat → Nat → Option Nat) (M : Nat → Nat → Int32) (bf th : Nat) (l3 : Value), l3.category = 1 → zKok K → zSw K → K 41 6 = some bf → K 41 7 = some th → ((bf = 44 ∧ th = 45) ∨ (bf = 45 ∧ th = 44)) → f + j + k = g → (∀ c, c ≠ 44 → c ≠ 45 → M c = M0 c) → (∀ q, q < np → (S (f + j)).testBit q = true → M bf q = zec true (zfV true np pc D S f j q)) → zEx (zCall (d + 7)) 2 false 1 zc_Journeys_furthest F 15 [.ref 41, .int 1, .int (nI (f + j + 1)), l3] [] (X, b, zLay, K, B, M) := by
  intro k
  induction k with
  | zero =>
    intro j K M bf th l3 c3 hK hSw hbf hth hbt hj u1 u2
    have hj : j = g - f := by omega
    obtain ⟨y1, y2, y3, y4, y5⟩ := zL44 hbt
    have e41 : M 41 = M0 41 := u1 41 (by decide) (by decide)
    have e43 : M 43 = M0 43 := u1 43 (by decide) (by decide)
    refine zb_Journeys_furthestP_15 (f + j + 1) l3 c3 (by rw [e41]; exact hf) (by rw [e41]; exact hg) hfg (by omega) (fun _ => ?_) (fun z => absurd z (by omega))
    rw [hj, show f + (g - f) = g by omega] at u2
    exact lp_fur98P hK hbf y1 (zKx_same (fun c hc => u1 c (by omega) (by omega)) hX) hpc hV (by rw [e41]; exact hf) (by rw [e41]; exact hg) hfg hS (by rw [e43]; exact h43) u2 (kk K M hK hSw u1) np 0 (by omega)
  | succ k ih =>
    intro j K M bf th l3 c3 hK hSw hbf hth hbt hj u1 u2
    obtain ⟨y1, y2, y3, y4, y5⟩ := zL44 hbt
    have e41 : M 41 = M0 41 := u1 41 (by decide) (by decide)
    have e43 : M 43 = M0 43 := u1 43 (by decide) (by decide)
    refine zb_Journeys_furthestP_15 (f + j + 1) l3 c3 (by rw [e41]; exact hf) (by rw [e41]; exact hg) hfg (by omega) (fun z => absurd z (by omega)) (fun _ => ?_)
    refine lp_fur25P hK hbf hth hbt (zKx_same (fun c hc => u1 c (by omega) (by omega)) hX) hpc hV (by omega) hS (by rw [e43]; exact h43) u2 (fun M1 v1 v2 => ?_) np 0 M (by omega) (fun _ _ => rfl) (fun q hq => absurd hq (Nat.not_lt_zero q))
    refine zb_Journeys_furthestP_68 (f + j + 1) np (by omega) hbf y1 hth y2 ?_
    refine ih (j + 1) _ M1 th bf (.ref bf) rfl (zKok_put (zKok_put hK rfl) rfl) (zSw_41 hSw hbt) ?_ ?_ ?_ (by omega) (fun c h1 h2 => ?_) v2
    · rfl
    · rfl
    · omega
    · rw [v1 c (by omega)]; exact u1 c h1 h2
theorem sp_furP (hK : zKok K) (hSw : zSw K) (hX : zKx A M np nw ns pc m D) (hpc : pc ≤ 60) (hV : zVok true np pc D S f g) (hf : M 41 1 = nI f) (hg : M 41 2 = nI g) (hfg : f ≤ g ∧ g < 60) (hS : ∀ e, S e < 1024) (h43 : ∀ e, e < 60 → M 43 e = nI (S e)) (kk : ∀ K' M', zKok K' → zSw K' → (∀ c, c ≠ 44 → c ≠ 45 → M' c = M c) → F (some (.int (zec true (zfR true np pc D S f g)))) (X, b, zLay, K', B, M')) : zCall (d + 8) zm_Journeys_furthest [.ref 41, .int 1] (X, b, zLay, K, B, M) F := by
  have hb := hX.1.2.2.2.2.1.1
  have go : ∀ bf th, K 41 6 = some bf → K 41 7 = some th → ((bf = 44 ∧ th = 45) ∨ (bf = 45 ∧ th = 44)) → zCall (d + 8) zm_Journeys_furthest [.ref 41, .int 1] (X, b, zLay, K, B, M) F := by
    intro bf th hbf hth hbt
    obtain ⟨y1, y2, y3, y4, y5⟩ := zL44 hbt
    refine zb_Journeys_furthestP_0 hbf y1 ?_
    refine sp_fill (d := d + 6) y1 rfl ?_
    have u1 : ∀ c, c ≠ 44 → c ≠ 45 → zw M bf (fun i => if i < 10 then 0 else M bf i) c = M c := fun c h1 h2 => zw_no (by omega)
    have e41 := u1 41 (by decide) (by decide)
    refine zb_Journeys_furthestP_8 (by rw [e41]; exact hf) (by rw [e41]; exact hg) hfg ?_
    refine lp_fur15P hX hpc hV hf hg hfg hS h43 kk (g - f) 0 K _ bf th .null rfl hK hSw hbf hth hbt (by omega) u1 (fun q hq hz => ?_)
    rw [zw_yes]
    unfold zfV
    rw [show (S f).testBit q = true from hz, cond_true]
    show (if q < 10 then 0 else _) = nI 0
    rw [if_pos (by omega)]
    rfl
  rcases hSw.1 with ⟨h1, h2⟩ | ⟨h1, h2⟩
  · exact go 44 45 h1 h2 (Or.inl ⟨rfl, rfl⟩)
  · exact go 45 44 h1 h2 (Or.inr ⟨rfl, rfl⟩)
/-- the reference -/
theorem lp_farqP {M0 : Nat → Nat → Int32} {j p : Nat} {l2 : Int32} (hK : zKok K) (hR : zRf87 M0 np m pc D) (hb : np ≤ 10) (hf : M0 71 33 = nI f) (hg : M0 71 34 = nI g) (hfg : f ≤ g ∧ g < 60) (hj : f + j + 1 ≤ g) (hp : p < np) {v w : Nat} (hv : M0 89 (f + j + 1) = nI v) (hw : M0 90 (f + j + 1) = nI w) (hvw : v &&& w = S (f + j + 1)) (hS : ∀ e, S e < 1024) (hx : ∀ q, q < np → M0 93 (10 * (f + j) + q) = zer (zfV true np pc D S f j q)) (hbit : (S (f + j + 1)).testBit p = true) (kk : ∀ l7 l8 : Value, l7.category = 1 → l8.category = 1 → zEx (zCall (d + 3)) 10 false 1 zc_Model_farOf F 195 [.ref 71, .int 1, .int l2, .int (nI (f + j + 1)), .int (nI p), .int (zer (zfV true np pc D S f (j + 1) p)), .int (nI np), l7, l8] [] (X, b, zLay, K, B, M0)) : ∀ (k q : Nat) (l7 l8 : Value), l7.category = 1 → l8.category = 1 → q + k = np → zEx (zCall (d + 3)) 10 false 1 zc_Model_farOf F 63 [.ref 71, .int 1, .int l2, .int (nI (f + j + 1)), .int (nI p), .int (zer (zfo true (fun q => (zfV true np pc D S f j q).isSome && Nat.ble (D (f + j + 1) q p) pc) (fun q => (zfV true np pc D S f j q).getD 0 + D (f + j + 1) q p) q)), .int (nI q), l7, l8] [] (X, b, zLay, K, B, M0) := by
  have hpc := hR.2.2.1
  have h100 := hR.2.2.2.2.1
  have mp : M0 72 0 = nI np := hR.1.1
  have hm : ∀ q, q < np → M0 87 (100 * (f + j + 1) + 10 * q + p) = nI (D (f + j + 1) q p) := fun q hq => hR.2.2.2.1 (f + j + 1) (by omega) q p (by omega) (by omega)
  have hvl : v &&& w < 1024 := by rw [hvw]; exact hS _
  have fb : ∀ q x, zfo true (fun q => (zfV true np pc D S f j q).isSome && Nat.ble (D (f + j + 1) q p) pc) (fun q => (zfV true np pc D S f j q).getD 0 + D (f + j + 1) q p) q = some x → x ≤ 9000 := fun q x hx => by
    refine zfo_le (b := 9000) q (fun r hr hc => ?_) x hx
    simp only [Bool.and_eq_true] at hc
    have h1 := Nat.le_of_ble_eq_true hc.2
    cases hw : zfV true np pc D S f j r with
    | none => rw [hw] at hc; cases hc.1
    | some w =>
      have := zfV_le hpc j r w hw
      show (some w).getD 0 + _ ≤ _
      simp only [Option.getD_some]
      omega
  have vb : ∀ q x, zfV true np pc D S f j q = some x → x ≤ 9000 := fun q x hx => by have := zfV_le hpc j q x hx; omega
  intro k
  induction k with
  | zero =>
    intro q l7 l8 c7 c8 hq
    have hq : q = np := by omega
    subst hq
    have e := kk l7 l8 c7 c8
    unfold zfV at e
    rw [hbit, cond_true] at e
    exact zb_Model_farOfP_63 (mv := 0) (x := 0) hK l2 (f + j + 1) p _ q l7 l8 c7 c8 hf hg hfg mp hb hR.2.1 hpc (by omega) hp (Nat.le_refl _) hv hw hvl (fun z => absurd z (by omega)) (by omega) (fun z => absurd z.1 (by omega)) (fun _ => e) (fun z => absurd z (by omega)) (fun z => absurd z (by omega)) (fun z => absurd z (by omega)) (fun z => absurd z (by omega)) (fun z => absurd z (by omega)) (fun z => absurd z (by omega)) (fun z => absurd z (by omega))
  | succ k ih =>
    intro q l7 l8 c7 c8 hq
    have e := ih (q + 1) (.int (nI (D (f + j + 1) q p))) (.int (zer (zfV true np pc D S f j q))) rfl rfl (by omega)
    have st : zfo true (fun q => (zfV true np pc D S f j q).isSome && Nat.ble (D (f + j + 1) q p) pc) (fun q => (zfV true np pc D S f j q).getD 0 + D (f + j + 1) q p) (q + 1) = bif ((zfV true np pc D S f j q).isSome && Nat.ble (D (f + j + 1) q p) pc) then zcmb true (zfo true (fun q => (zfV true np pc D S f j q).isSome && Nat.ble (D (f + j + 1) q p) pc) (fun q => (zfV true np pc D S f j q).getD 0 + D (f + j + 1) q p) q) ((zfV true np pc D S f j q).getD 0 + D (f + j + 1) q p) else zfo true (fun q => (zfV true np pc D S f j q).isSome && Nat.ble (D (f + j + 1) q p) pc) (fun q => (zfV true np pc D S f j q).getD 0 + D (f + j + 1) q p) q := rfl
    have nb : ¬ (v &&& w).testBit p = false := by rw [hvw, hbit]; decide
    have some_ : ¬ zer (zfV true np pc D S f j q) = -1 → ∃ y, zfV true np pc D S f j q = some y := fun z => by
      cases hv : zfV true np pc D S f j q with
      | none => rw [hv] at z; exact absurd rfl z
      | some y => exact ⟨y, rfl⟩
    have cond_ : D (f + j + 1) q p ≤ pc → ∀ y, zfV true np pc D S f j q = some y → zfo true (fun q => (zfV true np pc D S f j q).isSome && Nat.ble (D (f + j + 1) q p) pc) (fun q => (zfV true np pc D S f j q).getD 0 + D (f + j + 1) q p) (q + 1) = zcmb true (zfo true (fun q => (zfV true np pc D S f j q).isSome && Nat.ble (D (f + j + 1) q p) pc) (fun q => (zfV true np pc D S f j q).getD 0 + D (f + j + 1) q p) q) (y + D (f + j + 1) q p) := fun z y hy => by
      rw [hy, Nat.ble_eq_true_of_le z] at st
      exact st
    have fbq := fb q
    refine zb_Model_farOfP_63 (mv := D (f + j + 1) q p) (x := zer (zfV true np pc D S f j q)) hK l2 (f + j + 1) p _ q l7 l8 c7 c8 hf hg hfg mp hb hR.2.1 hpc (by omega) hp (by omega) hv hw hvl (fun z => hm q z) (h100 _ _ _) (fun z => by rw [show f + j + 1 - 1 = f + j by omega]; exact hx q z.1) (fun z => absurd z (by omega)) (fun _ z => absurd z (by omega)) (fun _ _ z => absurd z nb) (fun _ _ _ z => ?_) (fun _ _ _ _ z => ?_) (fun _ _ _ z z2 z3 => ?_) (fun _ _ _ z z2 z3 z4 => ?_) (fun _ _ _ z z2 z3 z4 => ?_)
    · rw [(zer_1 (vb q)).mp z] at st
      rw [show zfo true _ _ (q + 1) = _ from st] at e
      exact e
    · rw [zble_f z, Bool.and_false, cond_false] at st
      rw [st] at e
      exact e
    · obtain ⟨y, hy⟩ := some_ z
      rw [cond_ z2 y hy, (zer_1 fbq).mp z3] at e
      rw [hy] at e ⊢
      show zEx _ _ _ _ _ _ _ [_, _, _, _, _, .int (nI y + nI (D (f + j + 1) q p)), _, _, _] _ _
      rw [nI_add]
      exact e
    · obtain ⟨y, hy⟩ := some_ z
      rw [cond_ z2 y hy] at e
      rw [hy] at e z4 ⊢
      cases ho : zfo true (fun q => (zfV true np pc D S f j q).isSome && Nat.ble (D (f + j + 1) q p) pc) (fun q => (zfV true np pc D S f j q).getD 0 + D (f + j + 1) q p) q with
      | none => rw [ho] at z3; exact absurd rfl z3
      | some o =>
        have ob := fbq o ho
        have yb := vb q y hy
        rw [ho] at e z4
        have z4 : nI y + nI (D (f + j + 1) q p) ≤ nI o := z4
        rw [nI_add, nI_leI (by omega) (by omega)] at z4
        have : zcmb true (some o) (y + D (f + j + 1) q p) = some o := by
          show some (max o (y + D (f + j + 1) q p)) = some o
          congr 1
          omega
        rw [this] at e
        exact e
    · obtain ⟨y, hy⟩ := some_ z
      rw [cond_ z2 y hy] at e
      rw [hy] at e z4 ⊢
      cases ho : zfo true (fun q => (zfV true np pc D S f j q).isSome && Nat.ble (D (f + j + 1) q p) pc) (fun q => (zfV true np pc D S f j q).getD 0 + D (f + j + 1) q p) q with
      | none => rw [ho] at z3; exact absurd rfl z3
      | some o =>
        have ob := fbq o ho
        have yb := vb q y hy
        rw [ho] at e z4
        have z4 : ¬ nI y + nI (D (f + j + 1) q p) ≤ nI o := z4
        rw [nI_add, nI_leI (by omega) (by omega)] at z4
        have : zcmb true (some o) (y + D (f + j + 1) q p) = some (y + D (f + j + 1) q p) := by
          show some (max o (y + D (f + j + 1) q p)) = some _
          congr 1
          omega
        rw [this] at e
        show zEx _ _ _ _ _ _ _ [_, _, _, _, _, .int (nI y + nI (D (f + j + 1) q p)), _, _, _] _ _
        rw [nI_add]
        exact e
theorem lp_far20P {M0 : Nat → Nat → Int32} {j v w : Nat} (hK : zKok K) (hR : zRf87 M0 np m pc D) (hb : np ≤ 10) (hf : M0 71 33 = nI f) (hg : M0 71 34 = nI g) (hfg : f ≤ g ∧ g < 60) (hj : f + j ≤ g) (hv : M0 89 (f + j) = nI v) (hw : M0 90 (f + j) = nI w) (hvw : v &&& w = S (f + j)) (hS : ∀ e, S e < 1024) (hx : ∀ i q, i < j → q < np → M0 93 (10 * (f + i) + q) = zer (zfV true np pc D S f i q)) (kk : ∀ M (l5 l6 l7 l8 : Value), l5.category = 1 → l6.category = 1 → l7.category = 1 → l8.category = 1 → (∀ c, c ≠ 93 → M c = M0 c) → (∀ i q, i < j + 1 → q < np → M 93 (10 * (f + i) + q) = zer (zfV true np pc D S f i q)) → zEx (zCall (d + 3)) 10 false 1 zc_Model_farOf F 7 [.ref 71, .int 1, .int (zer (zfo true (fun p => (zfV true np pc D S f j p).isSome) (fun p => (zfV true np pc D S f j p).getD 0) np)), .int (nI (f + j + 1)), .int (nI np), l5, l6, l7, l8] [] (X, b, zLay, K, B, M)) : ∀ (k p : Nat) (M : Nat → Nat → Int32) (l5 l6 l7 l8 : Value), l5.category = 1 → l6.category = 1 → l7.category = 1 → l8.category = 1 → p + k = np → (∀ c, c ≠ 93 → M c = M0 c) → (∀ i q, i < j → q < np → M 93 (10 * (f + i) + q) = zer (zfV true np pc D S f i q)) → (∀ q, q < p → M 93 (10 * (f + j) + q) = zer (zfV true np pc D S f j q)) → zEx (zCall (d + 3)) 10 false 1 zc_Model_farOf F 20 [.ref 71, .int 1, .int (zer (zfo true (fun p => (zfV true np pc D S f j p).isSome) (fun p => (zfV true np pc D S f j p).getD 0) p)), .int (nI (f + j)), .int (nI p), l5, l6, l7, l8] [] (X, b, zLay, K, B, M) := by
  have hpc := hR.2.2.1
  have vb : ∀ q x, zfV true np pc D S f j q = some x → x ≤ 9000 := fun q x hx => by have := zfV_le hpc j q x hx; omega
  have fb : ∀ q x, zfo true (fun p => (zfV true np pc D S f j p).isSome) (fun p => (zfV true np pc D S f j p).getD 0) q = some x → x ≤ 9000 := fun q x hx => by
    refine zfo_le (b := 9000) q (fun r hr hc => ?_) x hx
    show (zfV true np pc D S f j r).getD 0 ≤ _
    cases hw : zfV true np pc D S f j r with
    | none => exact Nat.zero_le _
    | some w => exact vb r w hw
  have hvl : v &&& w < 1024 := by rw [hvw]; exact hS _
  intro k
  induction k with
  | zero =>
    intro p M l5 l6 l7 l8 c5 c6 c7 c8 hp u1 u2 u3
    have hp : p = np := by omega
    subst hp
    refine zb_Model_farOfP_20 hK _ (f + j) p l5 l6 l7 l8 c5 c6 c7 c8 (by rw [u1 71 (by decide)]; exact hf) (by rw [u1 71 (by decide)]; exact hg) hfg (by rw [u1 72 (by decide)]; exact hR.1.1) hb (by omega) (Nat.le_refl _) (by rw [u1 89 (by decide)]; exact hv) (by rw [u1 90 (by decide)]; exact hw) hvl (fun _ => kk M l5 l6 l7 l8 c5 c6 c7 c8 u1 (fun i q h1 h2 => ?_)) (fun z => absurd z (by omega)) (fun z => absurd z (by omega)) (fun z => absurd z (by omega))
    by_cases e : i = j
    · rw [e]; exact u3 q h2
    · exact u2 i q (by omega) h2
  | succ k ih =>
    intro p M l5 l6 l7 l8 c5 c6 c7 c8 hp u1 u2 u3
    have e71 : M 71 = M0 71 := u1 71 (by decide)
    have e72 : M 72 = M0 72 := u1 72 (by decide)
    -- behind the loop over the places ahead
    have st : zfo true (fun p => (zfV true np pc D S f j p).isSome) (fun p => (zfV true np pc D S f j p).getD 0) (p + 1) = bif (zfV true np pc D S f j p).isSome then zcmb true (zfo true (fun p => (zfV true np pc D S f j p).isSome) (fun p => (zfV true np pc D S f j p).getD 0) p) ((zfV true np pc D S f j p).getD 0) else zfo true (fun p => (zfV true np pc D S f j p).isSome) (fun p => (zfV true np pc D S f j p).getD 0) p := rfl
    have wr : ∀ i q, i < j → q < np → (zu M 93 (10 * (f + j) + p) (zer (zfV true np pc D S f j p))) 93 (10 * (f + i) + q) = zer (zfV true np pc D S f i q) := fun i q h1 h2 => by rw [zu_at, if_neg (by omega)]; exact u2 i q h1 h2
    have wr2 : ∀ q, q < p + 1 → (zu M 93 (10 * (f + j) + p) (zer (zfV true np pc D S f j p))) 93 (10 * (f + j) + q) = zer (zfV true np pc D S f j q) := fun q h1 => by
      rw [zu_at]
      by_cases e : q = p
      · rw [if_pos (by omega), e]
      · rw [if_neg (by omega)]; exact u3 q (by omega)
    have wr0 : ∀ c, c ≠ 93 → (zu M 93 (10 * (f + j) + p) (zer (zfV true np pc D S f j p))) c = M0 c := fun c hc => by rw [zu_oc hc]; exact u1 c hc
    have after : ∀ (q : Nat) (l7 l8 : Value), l7.category = 1 → l8.category = 1 → zEx (zCall (d + 3)) 10 false 1 zc_Model_farOf F 195 [.ref 71, .int 1, .int (zer (zfo true (fun p => (zfV true np pc D S f j p).isSome) (fun p => (zfV true np pc D S f j p).getD 0) p)), .int (nI (f + j)), .int (nI p), .int (zer (zfV true np pc D S f j p)), .int (nI q), l7, l8] [] (X, b, zLay, K, B, M) := by
      intro q l7 l8 c7 c8
      have e := fun l5 l6 z1 z2 => ih (p + 1) _ l5 l6 l7 l8 z1 z2 c7 c8 (by omega) wr0 wr wr2
      have e := e (.int (zer (zfV true np pc D S f j p))) (.int (nI q)) rfl rfl
      refine zb_Model_farOfP_195 hK _ (f + j) p _ q l7 l8 c7 c8 (by omega) (by omega) (fun z => ?_) (fun z z2 => ?_) (fun z z2 z3 => ?_) (fun z z2 z3 => ?_)
      · rw [(zer_1 (vb p)).mp z] at st
        rw [show zfo true _ _ (p + 1) = _ from st] at e
        exact e
      all_goals
        cases hv : zfV true np pc D S f j p with
        | none => rw [hv] at z; exact absurd rfl z
        | some y =>
          have yb := vb p y hv
          have st : zfo true (fun p => (zfV true np pc D S f j p).isSome) (fun p => (zfV true np pc D S f j p).getD 0) (p + 1) = zcmb true (zfo true (fun p => (zfV true np pc D S f j p).isSome) (fun p => (zfV true np pc D S f j p).getD 0) p) y := by
            rw [hv] at st
            exact st
          rw [st] at e
          rw [hv] at e
          try rw [hv] at z3
          first
          | (rw [(zer_1 (fb p)).mp z2] at e
             exact e)
          | (cases ho : zfo true (fun p => (zfV true np pc D S f j p).isSome) (fun p => (zfV true np pc D S f j p).getD 0) p with
             | none => rw [ho] at z2; exact absurd rfl z2
             | some o =>
               have ob := fb p o ho
               rw [ho] at e z3
               first
               | (have z3 : nI y ≤ nI o := z3
                  rw [nI_leI (by omega) (by omega)] at z3
                  have : zcmb true (some o) y = some o := by
                    show some (max o y) = some o
                    congr 1
                    omega
                  rw [this] at e
                  exact e)
               | (have z3 : ¬ nI y ≤ nI o := z3
                  rw [nI_leI (by omega) (by omega)] at z3
                  have : zcmb true (some o) y = some y := by
                    show some (max o y) = some y
                    congr 1
                    omega
                  rw [this] at e
                  exact e))
    have hR' : zRf87 M np m pc D := zRf87_same hR e72 (u1 87 (by decide))
    have hv' : M 89 (f + j) = nI v := by rw [u1 89 (by decide)]; exact hv
    have hw' : M 90 (f + j) = nI w := by rw [u1 90 (by decide)]; exact hw
    have hf' : M 71 33 = nI f := by rw [e71]; exact hf
    have hg' : M 71 34 = nI g := by rw [e71]; exact hg
    -- a day behind the first
    have late : f + j ≠ f → zEx (zCall (d + 3)) 10 false 1 zc_Model_farOf F 63 [.ref 71, .int 1, .int (zer (zfo true (fun p => (zfV true np pc D S f j p).isSome) (fun p => (zfV true np pc D S f j p).getD 0) p)), .int (nI (f + j)), .int (nI p), .int (-1), .int 0, l7, l8] [] (X, b, zLay, K, B, M) := by
      intro hj0
      cases hbit : (S (f + j)).testBit p
      · have vn : zfV true np pc D S f j p = none := by
          cases j with
          | zero => exact absurd rfl hj0
          | succ j =>
            unfold zfV
            rw [show f + j + 1 = f + (j + 1) by omega, hbit, cond_false]
        have a := after 0 l7 l8 c7 c8
        rw [vn] at a
        refine zb_Model_farOfP_63 (mv := D (f + j) 0 p) (x := M 93 (10 * (f + j - 1) + 0)) hK _ (f + j) p _ 0 l7 l8 c7 c8 hf' hg' hfg hR'.1.1 hb hR'.2.1 hpc (by omega) (by omega) (by omega) hv' hw' hvl (fun z => hR'.2.2.2.1 (f + j) (by omega) 0 p (by omega) (by omega)) (hR.2.2.2.2.1 _ _ _) (fun _ => rfl) (fun z => absurd z (by omega)) (fun _ z => absurd z (by omega)) (fun _ _ _ => a) (fun _ _ z _ => ?_) (fun _ _ z _ _ => ?_) (fun _ _ z _ _ _ => ?_) (fun _ _ z _ _ _ _ => ?_) (fun _ _ z _ _ _ _ => ?_)
        all_goals (rw [hvw, hbit] at z; exact absurd z (by decide))
      · cases j with
        | zero => exact absurd rfl hj0
        | succ j =>
          exact lp_farqP (j := j) hK hR' hb hf' hg' hfg (by omega) (by omega) hv' hw' hvw hS (fun q hq => u2 j q (by omega) hq) hbit (fun l7 l8 c7 c8 => after np l7 l8 c7 c8) np 0 l7 l8 c7 c8 (by omega)
    -- the first
    have first_ : ∀ x : Int32, f + j = f → x = zer (zfV true np pc D S f j p) → zEx (zCall (d + 3)) 10 false 1 zc_Model_farOf F 63 [.ref 71, .int 1, .int (zer (zfo true (fun p => (zfV true np pc D S f j p).isSome) (fun p => (zfV true np pc D S f j p).getD 0) p)), .int (nI (f + j)), .int (nI p), .int x, .int 0, l7, l8] [] (X, b, zLay, K, B, M) := by
      intro x hj0 hx0
      rw [hx0]
      exact zb_Model_farOfP_63 (mv := D (f + j) 0 p) (x := 0) hK _ (f + j) p _ 0 l7 l8 c7 c8 hf' hg' hfg hR'.1.1 hb hR'.2.1 hpc (by omega) (by omega) (by omega) hv' hw' hvl (fun z => hR'.2.2.2.1 (f + j) (by omega) 0 p (by omega) (by omega)) (hR.2.2.2.2.1 _ _ _) (fun z => absurd z.2 (by omega)) (fun z => absurd z (by omega)) (fun _ _ => after 0 l7 l8 c7 c8) (fun _ z => absurd z (by omega)) (fun _ z => absurd z (by omega)) (fun _ z => absurd z (by omega)) (fun _ z => absurd z (by omega)) (fun _ z => absurd z (by omega)) (fun _ z => absurd z (by omega))
    have v0 : f + j = f → zfV true np pc D S f j p = bif (S (f + j)).testBit p then some 0 else none := fun hj0 => by
      have : j = 0 := by omega
      subst this
      rfl
    refine zb_Model_farOfP_20 hK _ (f + j) p l5 l6 l7 l8 c5 c6 c7 c8 hf' hg' hfg hR'.1.1 hb (by omega) (by omega) hv' hw' hvl (fun z => absurd z (by omega)) (fun _ z => late z) (fun _ z z2 => first_ _ z ?_) (fun _ z z2 => first_ _ z ?_)
    · rw [hvw] at z2; rw [v0 z, z2]; rfl
    · rw [hvw] at z2; rw [v0 z, z2]; rfl
theorem lp_far7P {M0 : Nat → Nat → Int32} {v w : Nat → Nat} (hK : zKok K) (hR : zRf87 M0 np m pc D) (hb : np ≤ 10) (hf : M0 71 33 = nI f) (hg : M0 71 34 = nI g) (hfg : f ≤ g ∧ g < 60) (hv : ∀ e, f ≤ e → e ≤ g → M0 89 e = nI (v e)) (hw : ∀ e, f ≤ e → e ≤ g → M0 90 e = nI (w e)) (hvw : ∀ e, f ≤ e → e ≤ g → v e &&& w e = S e) (hS : ∀ e, S e < 1024) (kk : ∀ M, (∀ c, c ≠ 93 → M c = M0 c) → F (some (.int (zer (zfo true (fun p => (zfV true np pc D S f (g - f) p).isSome) (fun p => (zfV true np pc D S f (g - f) p).getD 0) np)))) (X, b, zLay, K, B, M)) : ∀ (k j : Nat) (M : Nat → Nat → Int32) (l4 l5 l6 l7 l8 : Value), l4.category = 1 → l5.category = 1 → l6.category = 1 → l7.category = 1 → l8.category = 1 → f + j + k = g → (∀ c, c ≠ 93 → M c = M0 c) → (∀ i q, i < j + 1 → q < np → M 93 (10 * (f + i) + q) = zer (zfV true np pc D S f i q)) → zEx (zCall (d + 3)) 10 false 1 zc_Model_farOf F 7 [.ref 71, .int 1, .int (zer (zfo true (fun p => (zfV true np pc D S f j p).isSome) (fun p => (zfV true np pc D S f j p).getD 0) np)), .int (nI (f + j + 1)), l4, l5, l6, l7, l8] [] (X, b, zLay, K, B, M) := by
  intro k
  induction k with
  | zero =>
    intro j M l4 l5 l6 l7 l8 c4 c5 c6 c7 c8 hj u1 u2
    have hj : j = g - f := by omega
    subst hj
    exact zb_Model_farOfP_7 _ (f + (g - f) + 1) l4 l5 l6 l7 l8 c4 c5 c6 c7 c8 (by rw [u1 71 (by decide)]; exact hf) (by rw [u1 71 (by decide)]; exact hg) hfg (by omega) (fun _ => kk M u1) (fun z => absurd z (by omega))
  | succ k ih =>
    intro j M l4 l5 l6 l7 l8 c4 c5 c6 c7 c8 hj u1 u2
    have e71 : M 71 = M0 71 := u1 71 (by decide)
    refine zb_Model_farOfP_7 _ (f + j + 1) l4 l5 l6 l7 l8 c4 c5 c6 c7 c8 (by rw [e71]; exact hf) (by rw [e71]; exact hg) hfg (by omega) (fun z => absurd z (by omega)) (fun _ => ?_)
    refine lp_far20P (j := j + 1) (v := v (f + (j + 1))) (w := w (f + (j + 1))) hK (zRf87_same hR (u1 72 (by decide)) (u1 87 (by decide))) hb (by rw [e71]; exact hf) (by rw [e71]; exact hg) hfg (by omega) (by rw [u1 89 (by decide)]; exact hv _ (by omega) (by omega)) (by rw [u1 90 (by decide)]; exact hw _ (by omega) (by omega)) (hvw _ (by omega) (by omega)) hS u2 (fun M1 l5 l6 l7 l8 c5 c6 c7 c8 v1 v2 => ?_) np 0 M l5 l6 l7 l8 c5 c6 c7 c8 (by omega) (fun _ _ => rfl) u2 (fun q hq => absurd hq (Nat.not_lt_zero q))
    exact ih (j + 1) M1 _ l5 l6 l7 l8 rfl c5 c6 c7 c8 (by omega) (fun c hc => (v1 c hc).trans (u1 c hc)) v2
theorem sp_farOfP {v w : Nat → Nat} (hK : zKok K) (hR : zRf87 M np m pc D) (hb : np ≤ 10) (hV : zVok true np pc D S f g) (hf : M 71 33 = nI f) (hg : M 71 34 = nI g) (hfg : f ≤ g ∧ g < 60) (hv : ∀ e, f ≤ e → e ≤ g → M 89 e = nI (v e)) (hw : ∀ e, f ≤ e → e ≤ g → M 90 e = nI (w e)) (hvw : ∀ e, f ≤ e → e ≤ g → v e &&& w e = S e) (hS : ∀ e, S e < 1024) (kk : ∀ M', (∀ c, c ≠ 93 → M' c = M c) → F (some (.int (zer (zfR true np pc D S f g)))) (X, b, zLay, K, B, M')) : zCall (d + 4) zm_Model_farOf [.ref 71, .int 1] (X, b, zLay, K, B, M) F := by
  have er : zfR true np pc D S f g = zfo true (fun p => (zfV true np pc D S f (g - f) p).isSome) (fun p => (zfV true np pc D S f (g - f) p).getD 0) np := by
    unfold zfR
    refine zfo_ext np (fun q hq => ?_)
    have := hV (g - f) (by omega) q hq
    rw [show f + (g - f) = g by omega] at this
    exact this.symm
  rw [er] at kk
  refine zb_Model_farOfP_0 hf hg hfg ?_
  refine zb_Model_farOfP_7 _ f .null .null .null .null .null rfl rfl rfl rfl rfl hf hg hfg (by omega) (fun z => absurd z (by omega)) (fun _ => ?_)
  refine lp_far20P (j := 0) (v := v f) (w := w f) hK hR hb hf hg hfg (by omega) (hv f (by omega) (by omega)) (hw f (by omega) (by omega)) (hvw f (by omega) (by omega)) hS (fun i q h1 _ => absurd h1 (Nat.not_lt_zero i)) (fun M1 l5 l6 l7 l8 c5 c6 c7 c8 v1 v2 => ?_) np 0 M .null .null .null .null rfl rfl rfl rfl (by omega) (fun _ _ => rfl) (fun i q h1 _ => absurd h1 (Nat.not_lt_zero i)) (fun q hq => absurd hq (Nat.not_lt_zero q))
  exact lp_far7P hK hR hb hf hg hfg hv hw hvw hS kk (g - f) 0 M1 _ l5 l6 l7 l8 rfl c5 c6 c7 c8 (by omega) v1 v2
theorem lp_fToM {j p t bf : Nat} (hK : zKok K) (hbf : K 41 6 = some bf) (hyb : zget zLay bf = some (.inr (0, 10))) (hX : zKx A M np nw ns pc m D) (hpc : pc ≤ 60) (hV : zVok false np pc D S f g) (hg : f + j < g ∧ g < 60) (hp : p < np) (ht : M 9 (f + j + 1) = nI t) (ht2 : t < 22) (hdv : ∀ q, q < np → M 11 (100 * t + 10 * q + p) = nI (min 9999 (D (f + j + 1) q p))) (hS : ∀ e, S e < 1024) (hbe : ∀ q, q < np → (S (f + j)).testBit q = true → M bf q = zec false (zfV false np pc D S f j q)) (kk : F (some (.int (zec false (zfo false (fun q => (zfV false np pc D S f j q).isSome && Nat.ble (D (f + j + 1) q p) pc) (fun q => (zfV false np pc D S f j q).getD 0 + D (f + j + 1) q p) np)))) (X, b, zLay, K, B, M)) : ∀ (k q : Nat), q + k = np → zEx (zCall (d + 5)) 2 false 1 zc_Journeys_furthestTo F 28 [.ref 41, .int (nI (f + j + 1)), .int (nI p), .int (-1), .int (nI (S (f + j) &&& zsb (fun q => Nat.ble (D (f + j + 1) p q) pc) np)), .int (zec false (zfo false (fun q => (zfV false np pc D S f j q).isSome && Nat.ble (D (f + j + 1) q p) pc) (fun q => (zfV false np pc D S f j q).getD 0 + D (f + j + 1) q p) q)), .int (nI q)] [] (X, b, zLay, K, B, M) := by
  have hb := hX.1.2.2.2.2.1.1
  have hDs := hX.2.2.2.2.2.2.2.2.1
  have l4 : S (f + j) &&& zsb (fun q => Nat.ble (D (f + j + 1) p q) pc) np < 1024 := zand_lt10 (hS _)
  intro k
  induction k with
  | zero =>
    intro q hq
    have hq : q = np := by omega
    subst hq
    exact zb_Journeys_furthestToM_28 (w := 0) (dv := 0) hK (f + j + 1) p _ _ q hbf hyb (by omega) (by omega) ht ht2 hX.1.1 hb l4 (Nat.le_refl _) (fun z => absurd z (by omega)) (fun z => absurd z (by omega)) (fun _ => kk) (fun z _ => absurd z (by omega)) (fun z _ => absurd z (by omega))
  | succ k ih =>
    intro q hq
    have e := ih (q + 1) (by omega)
    have st : zfo false (fun q => (zfV false np pc D S f j q).isSome && Nat.ble (D (f + j + 1) q p) pc) (fun q => (zfV false np pc D S f j q).getD 0 + D (f + j + 1) q p) (q + 1) = bif ((zfV false np pc D S f j q).isSome && Nat.ble (D (f + j + 1) q p) pc) then zcmb false (zfo false (fun q => (zfV false np pc D S f j q).isSome && Nat.ble (D (f + j + 1) q p) pc) (fun q => (zfV false np pc D S f j q).getD 0 + D (f + j + 1) q p) q) ((zfV false np pc D S f j q).getD 0 + D (f + j + 1) q p) else zfo false (fun q => (zfV false np pc D S f j q).isSome && Nat.ble (D (f + j + 1) q p) pc) (fun q => (zfV false np pc D S f j q).getD 0 + D (f + j + 1) q p) q := rfl
    have iv := hV j (by omega) q (by omega)
    have bt : (S (f + j) &&& zsb (fun q => Nat.ble (D (f + j + 1) p q) pc) np).testBit q = ((zfV false np pc D S f j q).isSome && Nat.ble (D (f + j + 1) q p) pc) := by
      rw [Nat.testBit_and, zsb_bit, iv, decide_eq_true (show q < np by omega), Bool.true_and, hDs]
    refine zb_Journeys_furthestToM_28 (w := M bf q) (dv := min 9999 (D (f + j + 1) q p)) hK (f + j + 1) p _ _ q hbf hyb (by omega) (by omega) ht ht2 hX.1.1 hb l4 (by omega) (fun _ => rfl) (fun z => hdv q z) (fun z => absurd z (by omega)) (fun _ z => ?_) (fun _ z => ?_)
    · rw [bt] at z
      rw [eq_false_of_ne_true z, cond_false] at st
      rw [st] at e
      exact e
    · rw [bt] at z
      rw [z, cond_true] at st
      rw [Bool.and_eq_true] at z
      have z2 := Nat.le_of_ble_eq_true z.2
      rw [hbe q (by omega) (by rw [← iv]; exact z.1)]
      cases hv : zfV false np pc D S f j q with
      | none => rw [hv] at z; cases z.1
      | some y =>
        have hy := zfV_le hpc j q y hv
        have eq : zec false (some y) + (-1) * nI (min 9999 (D (f + j + 1) q p)) = zec false (some (y + D (f + j + 1) q p)) := by
          rw [Nat.min_eq_right (by omega)]
          exact zec_addM (by omega) (by omega)
        rw [eq, zec_c false _ _ (fun x hx => ?_) (by omega)]
        · rw [st, hv] at e
          exact e
        · have := zfo_le (b := 9000) q (fun r hr hc => ?_) x hx
          · exact this
          · simp only [Bool.and_eq_true] at hc
            have h1 := Nat.le_of_ble_eq_true hc.2
            cases hw : zfV false np pc D S f j r with
            | none => rw [hw] at hc; cases hc.1
            | some w =>
              have := zfV_le hpc j r w hw
              show (some w).getD 0 + _ ≤ _
              simp only [Option.getD_some]
              omega
theorem sp_fToM {j p bf : Nat} (hK : zKok K) (hbf : K 41 6 = some bf) (hyb : zget zLay bf = some (.inr (0, 10))) (hX : zKx A M np nw ns pc m D) (hpc : pc ≤ 60) (hV : zVok false np pc D S f g) (hg : f + j < g ∧ g < 60) (hp : p < np) (hS : ∀ e, S e < 1024) (h43 : ∀ e, e < 60 → M 43 e = nI (S e)) (hbe : ∀ q, q < np → (S (f + j)).testBit q = true → M bf q = zec false (zfV false np pc D S f j q)) (hbit : (S (f + j + 1)).testBit p = true) (kk : F (some (.int (zec false (zfV false np pc D S f (j + 1) p)))) (X, b, zLay, K, B, M)) : zCall (d + 6) zm_Journeys_furthestTo [.ref 41, .int (nI (f + j + 1)), .int (nI p), .int (-1)] (X, b, zLay, K, B, M) F := by
  have hb := hX.1.2.2.2.2.1.1
  obtain ⟨t, ht2, ht, h11, h12⟩ := hX.2.2.2.2.2.1 (f + j + 1) (by omega)
  unfold zfV at kk
  rw [hbit, cond_true] at kk
  refine zb_Journeys_furthestToM_0 hK (f + j + 1) p (by omega) (by omega) ht ht2 (h12 p hp) (by rw [show f + j + 1 - 1 = f + j by omega]; exact h43 _ (by omega)) ?_
  exact lp_fToM hK hbf hyb hX hpc hV hg hp ht ht2 (fun q hq => h11 q p hq hp) hS hbe kk np 0 (by omega)
theorem lp_fur25M {M0 : Nat → Nat → Int32} {j bf th : Nat} (hK : zKok K) (hbf : K 41 6 = some bf) (hth : K 41 7 = some th) (hbt : (bf = 44 ∧ th = 45) ∨ (bf = 45 ∧ th = 44)) (hX : zKx A M0 np nw ns pc m D) (hpc : pc ≤ 60) (hV : zVok false np pc D S f g) (hg : f + j < g ∧ g < 60) (hS : ∀ e, S e < 1024) (h43 : ∀ e, e < 60 → M0 43 e = nI (S e)) (hbe : ∀ q, q < np → (S (f + j)).testBit q = true → M0 bf q = zec false (zfV false np pc D S f j q)) (kk : ∀ M, (∀ c, c ≠ th → M c = M0 c) → (∀ q, q < np → (S (f + j + 1)).testBit q = true → M th q = zec false (zfV false np pc D S f (j + 1) q)) → zEx (zCall (d + 7)) 2 false 1 zc_Journeys_furthest F 68 [.ref 41, .int (-1), .int (nI (f + j + 1)), .int (nI np)] [] (X, b, zLay, K, B, M)) : ∀ (k p : Nat) (M : Nat → Nat → Int32), p + k = np → (∀ c, c ≠ th → M c = M0 c) → (∀ q, q < p → (S (f + j + 1)).testBit q = true → M th q = zec false (zfV false np pc D S f (j + 1) q)) → zEx (zCall (d + 7)) 2 false 1 zc_Journeys_furthest F 25 [.ref 41, .int (-1), .int (nI (f + j + 1)), .int (nI p)] [] (X, b, zLay, K, B, M) := by
  have hb := hX.1.2.2.2.2.1.1
  obtain ⟨y1, y2, y3, y4, y5⟩ := zL44 hbt
  intro k
  induction k with
  | zero =>
    intro p M hp u1 u2
    have hp : p = np := by omega
    subst hp
    exact zb_Journeys_furthestM_25 (sv := S (f + j + 1)) hK (f + j + 1) p (by rw [u1 1 (by omega)]; exact hX.1.1) hb (by omega) (Nat.le_refl _) (fun z => absurd z (by omega)) (hS _) hth y2 (fun _ => kk M u1 u2) (fun z _ => absurd z (by omega)) (fun z _ => absurd z (by omega))
  | succ k ih =>
    intro p M hp u1 u2
    refine zb_Journeys_furthestM_25 (sv := S (f + j + 1)) hK (f + j + 1) p (by rw [u1 1 (by omega)]; exact hX.1.1) hb (by omega) (by omega) (fun _ => by rw [u1 43 (by omega)]; exact h43 _ (by omega)) (hS _) hth y2 (fun z => absurd z (by omega)) (fun _ z => ?_) (fun _ z => ?_)
    · refine ih (p + 1) M (by omega) u1 (fun q hq hz => ?_)
      by_cases e : q = p
      · rw [e] at hz; exact absurd hz z
      · exact u2 q (by omega) hz
    · refine sp_fToM (d := d + 1) hK hbf y1 (zKx_same (fun c hc => u1 c (by omega)) hX) hpc hV hg (by omega) hS (by rw [u1 43 (by omega)]; exact h43) (by rw [u1 bf y3]; exact hbe) z ?_
      refine zb_Journeys_furthestM_61 (f + j + 1) p _ (by omega) (by omega) hth y2 ?_
      refine ih (p + 1) _ (by omega) (fun c hc => ?_) (fun q hq hz => ?_)
      · rw [zu_oc hc]; exact u1 c hc
      · rw [zu_at]
        by_cases e : q = p
        · rw [if_pos e, e]
        · rw [if_neg e]; exact u2 q (by omega) hz
theorem lp_fur98M {bf : Nat} (hK : zKok K) (hbf : K 41 6 = some bf) (hyb : zget zLay bf = some (.inr (0, 10))) (hX : zKx A M np nw ns pc m D) (hpc : pc ≤ 60) (hV : zVok false np pc D S f g) (hf : M 41 1 = nI f) (hg : M 41 2 = nI g) (hfg : f ≤ g ∧ g < 60) (hS : ∀ e, S e < 1024) (h43 : ∀ e, e < 60 → M 43 e = nI (S e)) (hbe : ∀ q, q < np → (S g).testBit q = true → M bf q = zec false (zfV false np pc D S f (g - f) q)) (kk : F (some (.int (zec false (zfR false np pc D S f g)))) (X, b, zLay, K, B, M)) : ∀ (k p : Nat), p + k = np → zEx (zCall (d + 7)) 2 false 1 zc_Journeys_furthest F 98 [.ref 41, .int (-1), .int (zec false (zfo false (fun p => (S g).testBit p) (fun p => (zfV false np pc D S f (g - f) p).getD 0) p)), .int (nI p)] [] (X, b, zLay, K, B, M) := by
  have hb := hX.1.2.2.2.2.1.1
  intro k
  induction k with
  | zero =>
    intro p hp
    have hp : p = np := by omega
    subst hp
    exact zb_Journeys_furthestM_98 (w := 0) hK _ p hf hg hfg hX.1.1 hb (Nat.le_refl _) (h43 g (by omega)) (hS g) (fun z => absurd z (by omega)) hbf hyb (fun _ => kk) (fun z _ => absurd z (by omega)) (fun z _ => absurd z (by omega))
  | succ k ih =>
    intro p hp
    have e := ih (p + 1) (by omega)
    have st : zfo false (fun p => (S g).testBit p) (fun p => (zfV false np pc D S f (g - f) p).getD 0) (p + 1) = bif (S g).testBit p then zcmb false (zfo false (fun p => (S g).testBit p) (fun p => (zfV false np pc D S f (g - f) p).getD 0) p) ((zfV false np pc D S f (g - f) p).getD 0) else zfo false (fun p => (S g).testBit p) (fun p => (zfV false np pc D S f (g - f) p).getD 0) p := rfl
    refine zb_Journeys_furthestM_98 (w := M bf p) hK _ p hf hg hfg hX.1.1 hb (by omega) (h43 g (by omega)) (hS g) (fun _ => rfl) hbf hyb (fun z => absurd z (by omega)) (fun _ z => ?_) (fun _ z => ?_)
    · rw [eq_false_of_ne_true z, cond_false] at st
      rw [st] at e
      exact e
    · rw [z, cond_true] at st
      have iv := hV (g - f) (by omega) p (by omega)
      rw [show f + (g - f) = g by omega, z] at iv
      rw [hbe p (by omega) z]
      have bd : ∀ q x, zfV false np pc D S f (g - f) q = some x → x ≤ 9000 := fun q x hx => by have := zfV_le hpc (g - f) q x hx; omega
      cases hv : zfV false np pc D S f (g - f) p with
      | none => rw [hv] at iv; cases iv
      | some y =>
        have hy := bd p y hv
        rw [zec_c false _ _ (fun x hx => ?_) hy]
        · rw [st, hv] at e
          exact e
        · refine zfo_le (b := 9000) p (fun r hr hc => ?_) x hx
          show (zfV false np pc D S f (g - f) r).getD 0 ≤ _
          cases hw : zfV false np pc D S f (g - f) r with
          | none => exact Nat.zero_le _
          | some w => exact bd r w hw
theorem lp_fur15M {M0 : Nat → Nat → Int32} (hX : zKx A M0 np nw ns pc m D) (hpc : pc ≤ 60) (hV : zVok false np pc D S f g) (hf : M0 41 1 = nI f) (hg : M0 41 2 = nI g) (hfg : f ≤ g ∧ g < 60) (hS : ∀ e, S e < 1024) (h43 : ∀ e, e < 60 → M0 43 e = nI (S e)) (kk : ∀ K M, zKok K → zSw K → (∀ c, c ≠ 44 → c ≠ 45 → M c = M0 c) → F (some (.int (zec false (zfR false np pc D S f g)))) (X, b, zLay, K, B, M)) : ∀ (k j : Nat) (K : Nat → Nat → Option Nat) (M : Nat → Nat → Int32) (bf th : Nat) (l3 : Value), l3.category = 1 → zKok K → zSw K → K 41 6 = some bf → K 41 7 = some th → ((bf = 44 ∧ th = 45) ∨ (bf = 45 ∧ th = 44)) → f + j + k = g → (∀ c, c ≠ 44 → c ≠ 45 → M c = M0 c) → (∀ q, q < np → (S (f + j)).testBit q = true → M bf q = zec false (zfV false np pc D S f j q)) → zEx (zCall (d + 7)) 2 false 1 zc_Journeys_furthest F 15 [.ref 41, .int (-1), .int (nI (f + j + 1)), l3] [] (X, b, zLay, K, B, M) := by
  intro k
  induction k with
  | zero =>
    intro j K M bf th l3 c3 hK hSw hbf hth hbt hj u1 u2
    have hj : j = g - f := by omega
    obtain ⟨y1, y2, y3, y4, y5⟩ := zL44 hbt
    have e41 : M 41 = M0 41 := u1 41 (by decide) (by decide)
    have e43 : M 43 = M0 43 := u1 43 (by decide) (by decide)
    refine zb_Journeys_furthestM_15 (f + j + 1) l3 c3 (by rw [e41]; exact hf) (by rw [e41]; exact hg) hfg (by omega) (fun _ => ?_) (fun z => absurd z (by omega))
    rw [hj, show f + (g - f) = g by omega] at u2
    exact lp_fur98M hK hbf y1 (zKx_same (fun c hc => u1 c (by omega) (by omega)) hX) hpc hV (by rw [e41]; exact hf) (by rw [e41]; exact hg) hfg hS (by rw [e43]; exact h43) u2 (kk K M hK hSw u1) np 0 (by omega)
  | succ k ih =>
    intro j K M bf th l3 c3 hK hSw hbf hth hbt hj u1 u2
    obtain ⟨y1, y2, y3, y4, y5⟩ := zL44 hbt
    have e41 : M 41 = M0 41 := u1 41 (by decide) (by decide)
    have e43 : M 43 = M0 43 := u1 43 (by decide) (by decide)
    refine zb_Journeys_furthestM_15 (f + j + 1) l3 c3 (by rw [e41]; exact hf) (by rw [e41]; exact hg) hfg (by omega) (fun z => absurd z (by omega)) (fun _ => ?_)
    refine lp_fur25M hK hbf hth hbt (zKx_same (fun c hc => u1 c (by omega) (by omega)) hX) hpc hV (by omega) hS (by rw [e43]; exact h43) u2 (fun M1 v1 v2 => ?_) np 0 M (by omega) (fun _ _ => rfl) (fun q hq => absurd hq (Nat.not_lt_zero q))
    refine zb_Journeys_furthestM_68 (f + j + 1) np (by omega) hbf y1 hth y2 ?_
    refine ih (j + 1) _ M1 th bf (.ref bf) rfl (zKok_put (zKok_put hK rfl) rfl) (zSw_41 hSw hbt) ?_ ?_ ?_ (by omega) (fun c h1 h2 => ?_) v2
    · rfl
    · rfl
    · omega
    · rw [v1 c (by omega)]; exact u1 c h1 h2
theorem sp_furM (hK : zKok K) (hSw : zSw K) (hX : zKx A M np nw ns pc m D) (hpc : pc ≤ 60) (hV : zVok false np pc D S f g) (hf : M 41 1 = nI f) (hg : M 41 2 = nI g) (hfg : f ≤ g ∧ g < 60) (hS : ∀ e, S e < 1024) (h43 : ∀ e, e < 60 → M 43 e = nI (S e)) (kk : ∀ K' M', zKok K' → zSw K' → (∀ c, c ≠ 44 → c ≠ 45 → M' c = M c) → F (some (.int (zec false (zfR false np pc D S f g)))) (X, b, zLay, K', B, M')) : zCall (d + 8) zm_Journeys_furthest [.ref 41, .int (-1)] (X, b, zLay, K, B, M) F := by
  have hb := hX.1.2.2.2.2.1.1
  have go : ∀ bf th, K 41 6 = some bf → K 41 7 = some th → ((bf = 44 ∧ th = 45) ∨ (bf = 45 ∧ th = 44)) → zCall (d + 8) zm_Journeys_furthest [.ref 41, .int (-1)] (X, b, zLay, K, B, M) F := by
    intro bf th hbf hth hbt
    obtain ⟨y1, y2, y3, y4, y5⟩ := zL44 hbt
    refine zb_Journeys_furthestM_0 hbf y1 ?_
    refine sp_fill (d := d + 6) y1 rfl ?_
    have u1 : ∀ c, c ≠ 44 → c ≠ 45 → zw M bf (fun i => if i < 10 then 0 else M bf i) c = M c := fun c h1 h2 => zw_no (by omega)
    have e41 := u1 41 (by decide) (by decide)
    refine zb_Journeys_furthestM_8 (by rw [e41]; exact hf) (by rw [e41]; exact hg) hfg ?_
    refine lp_fur15M hX hpc hV hf hg hfg hS h43 kk (g - f) 0 K _ bf th .null rfl hK hSw hbf hth hbt (by omega) u1 (fun q hq hz => ?_)
    rw [zw_yes]
    unfold zfV
    rw [show (S f).testBit q = true from hz, cond_true]
    show (if q < 10 then 0 else _) = -(nI 0)
    rw [if_pos (by omega)]
    rfl
  rcases hSw.1 with ⟨h1, h2⟩ | ⟨h1, h2⟩
  · exact go 44 45 h1 h2 (Or.inl ⟨rfl, rfl⟩)
  · exact go 45 44 h1 h2 (Or.inr ⟨rfl, rfl⟩)
/-- the reference -/
theorem lp_farqM {M0 : Nat → Nat → Int32} {j p : Nat} {l2 : Int32} (hK : zKok K) (hR : zRf87 M0 np m pc D) (hb : np ≤ 10) (hf : M0 71 33 = nI f) (hg : M0 71 34 = nI g) (hfg : f ≤ g ∧ g < 60) (hj : f + j + 1 ≤ g) (hp : p < np) {v w : Nat} (hv : M0 89 (f + j + 1) = nI v) (hw : M0 90 (f + j + 1) = nI w) (hvw : v &&& w = S (f + j + 1)) (hS : ∀ e, S e < 1024) (hx : ∀ q, q < np → M0 93 (10 * (f + j) + q) = zer (zfV false np pc D S f j q)) (hbit : (S (f + j + 1)).testBit p = true) (kk : ∀ l7 l8 : Value, l7.category = 1 → l8.category = 1 → zEx (zCall (d + 3)) 10 false 1 zc_Model_farOf F 195 [.ref 71, .int 0, .int l2, .int (nI (f + j + 1)), .int (nI p), .int (zer (zfV false np pc D S f (j + 1) p)), .int (nI np), l7, l8] [] (X, b, zLay, K, B, M0)) : ∀ (k q : Nat) (l7 l8 : Value), l7.category = 1 → l8.category = 1 → q + k = np → zEx (zCall (d + 3)) 10 false 1 zc_Model_farOf F 63 [.ref 71, .int 0, .int l2, .int (nI (f + j + 1)), .int (nI p), .int (zer (zfo false (fun q => (zfV false np pc D S f j q).isSome && Nat.ble (D (f + j + 1) q p) pc) (fun q => (zfV false np pc D S f j q).getD 0 + D (f + j + 1) q p) q)), .int (nI q), l7, l8] [] (X, b, zLay, K, B, M0) := by
  have hpc := hR.2.2.1
  have h100 := hR.2.2.2.2.1
  have mp : M0 72 0 = nI np := hR.1.1
  have hm : ∀ q, q < np → M0 87 (100 * (f + j + 1) + 10 * q + p) = nI (D (f + j + 1) q p) := fun q hq => hR.2.2.2.1 (f + j + 1) (by omega) q p (by omega) (by omega)
  have hvl : v &&& w < 1024 := by rw [hvw]; exact hS _
  have fb : ∀ q x, zfo false (fun q => (zfV false np pc D S f j q).isSome && Nat.ble (D (f + j + 1) q p) pc) (fun q => (zfV false np pc D S f j q).getD 0 + D (f + j + 1) q p) q = some x → x ≤ 9000 := fun q x hx => by
    refine zfo_le (b := 9000) q (fun r hr hc => ?_) x hx
    simp only [Bool.and_eq_true] at hc
    have h1 := Nat.le_of_ble_eq_true hc.2
    cases hw : zfV false np pc D S f j r with
    | none => rw [hw] at hc; cases hc.1
    | some w =>
      have := zfV_le hpc j r w hw
      show (some w).getD 0 + _ ≤ _
      simp only [Option.getD_some]
      omega
  have vb : ∀ q x, zfV false np pc D S f j q = some x → x ≤ 9000 := fun q x hx => by have := zfV_le hpc j q x hx; omega
  intro k
  induction k with
  | zero =>
    intro q l7 l8 c7 c8 hq
    have hq : q = np := by omega
    subst hq
    have e := kk l7 l8 c7 c8
    unfold zfV at e
    rw [hbit, cond_true] at e
    exact zb_Model_farOfM_63 (mv := 0) (x := 0) hK l2 (f + j + 1) p _ q l7 l8 c7 c8 hf hg hfg mp hb hR.2.1 hpc (by omega) hp (Nat.le_refl _) hv hw hvl (fun z => absurd z (by omega)) (by omega) (fun z => absurd z.1 (by omega)) (fun _ => e) (fun z => absurd z (by omega)) (fun z => absurd z (by omega)) (fun z => absurd z (by omega)) (fun z => absurd z (by omega)) (fun z => absurd z (by omega)) (fun z => absurd z (by omega)) (fun z => absurd z (by omega))
  | succ k ih =>
    intro q l7 l8 c7 c8 hq
    have e := ih (q + 1) (.int (nI (D (f + j + 1) q p))) (.int (zer (zfV false np pc D S f j q))) rfl rfl (by omega)
    have st : zfo false (fun q => (zfV false np pc D S f j q).isSome && Nat.ble (D (f + j + 1) q p) pc) (fun q => (zfV false np pc D S f j q).getD 0 + D (f + j + 1) q p) (q + 1) = bif ((zfV false np pc D S f j q).isSome && Nat.ble (D (f + j + 1) q p) pc) then zcmb false (zfo false (fun q => (zfV false np pc D S f j q).isSome && Nat.ble (D (f + j + 1) q p) pc) (fun q => (zfV false np pc D S f j q).getD 0 + D (f + j + 1) q p) q) ((zfV false np pc D S f j q).getD 0 + D (f + j + 1) q p) else zfo false (fun q => (zfV false np pc D S f j q).isSome && Nat.ble (D (f + j + 1) q p) pc) (fun q => (zfV false np pc D S f j q).getD 0 + D (f + j + 1) q p) q := rfl
    have nb : ¬ (v &&& w).testBit p = false := by rw [hvw, hbit]; decide
    have some_ : ¬ zer (zfV false np pc D S f j q) = -1 → ∃ y, zfV false np pc D S f j q = some y := fun z => by
      cases hv : zfV false np pc D S f j q with
      | none => rw [hv] at z; exact absurd rfl z
      | some y => exact ⟨y, rfl⟩
    have cond_ : D (f + j + 1) q p ≤ pc → ∀ y, zfV false np pc D S f j q = some y → zfo false (fun q => (zfV false np pc D S f j q).isSome && Nat.ble (D (f + j + 1) q p) pc) (fun q => (zfV false np pc D S f j q).getD 0 + D (f + j + 1) q p) (q + 1) = zcmb false (zfo false (fun q => (zfV false np pc D S f j q).isSome && Nat.ble (D (f + j + 1) q p) pc) (fun q => (zfV false np pc D S f j q).getD 0 + D (f + j + 1) q p) q) (y + D (f + j + 1) q p) := fun z y hy => by
      rw [hy, Nat.ble_eq_true_of_le z] at st
      exact st
    have fbq := fb q
    refine zb_Model_farOfM_63 (mv := D (f + j + 1) q p) (x := zer (zfV false np pc D S f j q)) hK l2 (f + j + 1) p _ q l7 l8 c7 c8 hf hg hfg mp hb hR.2.1 hpc (by omega) hp (by omega) hv hw hvl (fun z => hm q z) (h100 _ _ _) (fun z => by rw [show f + j + 1 - 1 = f + j by omega]; exact hx q z.1) (fun z => absurd z (by omega)) (fun _ z => absurd z (by omega)) (fun _ _ z => absurd z nb) (fun _ _ _ z => ?_) (fun _ _ _ _ z => ?_) (fun _ _ _ z z2 z3 => ?_) (fun _ _ _ z z2 z3 z4 => ?_) (fun _ _ _ z z2 z3 z4 => ?_)
    · rw [(zer_1 (vb q)).mp z] at st
      rw [show zfo false _ _ (q + 1) = _ from st] at e
      exact e
    · rw [zble_f z, Bool.and_false, cond_false] at st
      rw [st] at e
      exact e
    · obtain ⟨y, hy⟩ := some_ z
      rw [cond_ z2 y hy, (zer_1 fbq).mp z3] at e
      rw [hy] at e ⊢
      show zEx _ _ _ _ _ _ _ [_, _, _, _, _, .int (nI y + nI (D (f + j + 1) q p)), _, _, _] _ _
      rw [nI_add]
      exact e
    · obtain ⟨y, hy⟩ := some_ z
      rw [cond_ z2 y hy] at e
      rw [hy] at e z4 ⊢
      cases ho : zfo false (fun q => (zfV false np pc D S f j q).isSome && Nat.ble (D (f + j + 1) q p) pc) (fun q => (zfV false np pc D S f j q).getD 0 + D (f + j + 1) q p) q with
      | none => rw [ho] at z3; exact absurd rfl z3
      | some o =>
        have ob := fbq o ho
        have yb := vb q y hy
        rw [ho] at e z4
        have z4 : nI o ≤ nI y + nI (D (f + j + 1) q p) := z4
        rw [nI_add, nI_leI (by omega) (by omega)] at z4
        have : zcmb false (some o) (y + D (f + j + 1) q p) = some o := by
          show some (min o (y + D (f + j + 1) q p)) = some o
          congr 1
          omega
        rw [this] at e
        exact e
    · obtain ⟨y, hy⟩ := some_ z
      rw [cond_ z2 y hy] at e
      rw [hy] at e z4 ⊢
      cases ho : zfo false (fun q => (zfV false np pc D S f j q).isSome && Nat.ble (D (f + j + 1) q p) pc) (fun q => (zfV false np pc D S f j q).getD 0 + D (f + j + 1) q p) q with
      | none => rw [ho] at z3; exact absurd rfl z3
      | some o =>
        have ob := fbq o ho
        have yb := vb q y hy
        rw [ho] at e z4
        have z4 : ¬ nI o ≤ nI y + nI (D (f + j + 1) q p) := z4
        rw [nI_add, nI_leI (by omega) (by omega)] at z4
        have : zcmb false (some o) (y + D (f + j + 1) q p) = some (y + D (f + j + 1) q p) := by
          show some (min o (y + D (f + j + 1) q p)) = some _
          congr 1
          omega
        rw [this] at e
        show zEx _ _ _ _ _ _ _ [_, _, _, _, _, .int (nI y + nI (D (f + j + 1) q p)), _, _, _] _ _
        rw [nI_add]
        exact e
theorem lp_far20M {M0 : Nat → Nat → Int32} {j v w : Nat} (hK : zKok K) (hR : zRf87 M0 np m pc D) (hb : np ≤ 10) (hf : M0 71 33 = nI f) (hg : M0 71 34 = nI g) (hfg : f ≤ g ∧ g < 60) (hj : f + j ≤ g) (hv : M0 89 (f + j) = nI v) (hw : M0 90 (f + j) = nI w) (hvw : v &&& w = S (f + j)) (hS : ∀ e, S e < 1024) (hx : ∀ i q, i < j → q < np → M0 93 (10 * (f + i) + q) = zer (zfV false np pc D S f i q)) (kk : ∀ M (l5 l6 l7 l8 : Value), l5.category = 1 → l6.category = 1 → l7.category = 1 → l8.category = 1 → (∀ c, c ≠ 93 → M c = M0 c) → (∀ i q, i < j + 1 → q < np → M 93 (10 * (f + i) + q) = zer (zfV false np pc D S f i q)) → zEx (zCall (d + 3)) 10 false 1 zc_Model_farOf F 7 [.ref 71, .int 0, .int (zer (zfo false (fun p => (zfV false np pc D S f j p).isSome) (fun p => (zfV false np pc D S f j p).getD 0) np)), .int (nI (f + j + 1)), .int (nI np), l5, l6, l7, l8] [] (X, b, zLay, K, B, M)) : ∀ (k p : Nat) (M : Nat → Nat → Int32) (l5 l6 l7 l8 : Value), l5.category = 1 → l6.category = 1 → l7.category = 1 → l8.category = 1 → p + k = np → (∀ c, c ≠ 93 → M c = M0 c) → (∀ i q, i < j → q < np → M 93 (10 * (f + i) + q) = zer (zfV false np pc D S f i q)) → (∀ q, q < p → M 93 (10 * (f + j) + q) = zer (zfV false np pc D S f j q)) → zEx (zCall (d + 3)) 10 false 1 zc_Model_farOf F 20 [.ref 71, .int 0, .int (zer (zfo false (fun p => (zfV false np pc D S f j p).isSome) (fun p => (zfV false np pc D S f j p).getD 0) p)), .int (nI (f + j)), .int (nI p), l5, l6, l7, l8] [] (X, b, zLay, K, B, M) := by
  have hpc := hR.2.2.1
  have vb : ∀ q x, zfV false np pc D S f j q = some x → x ≤ 9000 := fun q x hx => by have := zfV_le hpc j q x hx; omega
  have fb : ∀ q x, zfo false (fun p => (zfV false np pc D S f j p).isSome) (fun p => (zfV false np pc D S f j p).getD 0) q = some x → x ≤ 9000 := fun q x hx => by
    refine zfo_le (b := 9000) q (fun r hr hc => ?_) x hx
    show (zfV false np pc D S f j r).getD 0 ≤ _
    cases hw : zfV false np pc D S f j r with
    | none => exact Nat.zero_le _
    | some w => exact vb r w hw
  have hvl : v &&& w < 1024 := by rw [hvw]; exact hS _
  intro k
  induction k with
  | zero =>
    intro p M l5 l6 l7 l8 c5 c6 c7 c8 hp u1 u2 u3
    have hp : p = np := by omega
    subst hp
    refine zb_Model_farOfM_20 hK _ (f + j) p l5 l6 l7 l8 c5 c6 c7 c8 (by rw [u1 71 (by decide)]; exact hf) (by rw [u1 71 (by decide)]; exact hg) hfg (by rw [u1 72 (by decide)]; exact hR.1.1) hb (by omega) (Nat.le_refl _) (by rw [u1 89 (by decide)]; exact hv) (by rw [u1 90 (by decide)]; exact hw) hvl (fun _ => kk M l5 l6 l7 l8 c5 c6 c7 c8 u1 (fun i q h1 h2 => ?_)) (fun z => absurd z (by omega)) (fun z => absurd z (by omega)) (fun z => absurd z (by omega))
    by_cases e : i = j
    · rw [e]; exact u3 q h2
    · exact u2 i q (by omega) h2
  | succ k ih =>
    intro p M l5 l6 l7 l8 c5 c6 c7 c8 hp u1 u2 u3
    have e71 : M 71 = M0 71 := u1 71 (by decide)
    have e72 : M 72 = M0 72 := u1 72 (by decide)
    -- behind the loop over the places ahead
    have st : zfo false (fun p => (zfV false np pc D S f j p).isSome) (fun p => (zfV false np pc D S f j p).getD 0) (p + 1) = bif (zfV false np pc D S f j p).isSome then zcmb false (zfo false (fun p => (zfV false np pc D S f j p).isSome) (fun p => (zfV false np pc D S f j p).getD 0) p) ((zfV false np pc D S f j p).getD 0) else zfo false (fun p => (zfV false np pc D S f j p).isSome) (fun p => (zfV false np pc D S f j p).getD 0) p := rfl
    have wr : ∀ i q, i < j → q < np → (zu M 93 (10 * (f + j) + p) (zer (zfV false np pc D S f j p))) 93 (10 * (f + i) + q) = zer (zfV false np pc D S f i q) := fun i q h1 h2 => by rw [zu_at, if_neg (by omega)]; exact u2 i q h1 h2
    have wr2 : ∀ q, q < p + 1 → (zu M 93 (10 * (f + j) + p) (zer (zfV false np pc D S f j p))) 93 (10 * (f + j) + q) = zer (zfV false np pc D S f j q) := fun q h1 => by
      rw [zu_at]
      by_cases e : q = p
      · rw [if_pos (by omega), e]
      · rw [if_neg (by omega)]; exact u3 q (by omega)
    have wr0 : ∀ c, c ≠ 93 → (zu M 93 (10 * (f + j) + p) (zer (zfV false np pc D S f j p))) c = M0 c := fun c hc => by rw [zu_oc hc]; exact u1 c hc
    have after : ∀ (q : Nat) (l7 l8 : Value), l7.category = 1 → l8.category = 1 → zEx (zCall (d + 3)) 10 false 1 zc_Model_farOf F 195 [.ref 71, .int 0, .int (zer (zfo false (fun p => (zfV false np pc D S f j p).isSome) (fun p => (zfV false np pc D S f j p).getD 0) p)), .int (nI (f + j)), .int (nI p), .int (zer (zfV false np pc D S f j p)), .int (nI q), l7, l8] [] (X, b, zLay, K, B, M) := by
      intro q l7 l8 c7 c8
      have e := fun l5 l6 z1 z2 => ih (p + 1) _ l5 l6 l7 l8 z1 z2 c7 c8 (by omega) wr0 wr wr2
      have e := e (.int (zer (zfV false np pc D S f j p))) (.int (nI q)) rfl rfl
      refine zb_Model_farOfM_195 hK _ (f + j) p _ q l7 l8 c7 c8 (by omega) (by omega) (fun z => ?_) (fun z z2 => ?_) (fun z z2 z3 => ?_) (fun z z2 z3 => ?_)
      · rw [(zer_1 (vb p)).mp z] at st
        rw [show zfo false _ _ (p + 1) = _ from st] at e
        exact e
      all_goals
        cases hv : zfV false np pc D S f j p with
        | none => rw [hv] at z; exact absurd rfl z
        | some y =>
          have yb := vb p y hv
          have st : zfo false (fun p => (zfV false np pc D S f j p).isSome) (fun p => (zfV false np pc D S f j p).getD 0) (p + 1) = zcmb false (zfo false (fun p => (zfV false np pc D S f j p).isSome) (fun p => (zfV false np pc D S f j p).getD 0) p) y := by
            rw [hv] at st
            exact st
          rw [st] at e
          rw [hv] at e
          try rw [hv] at z3
          first
          | (rw [(zer_1 (fb p)).mp z2] at e
             exact e)
          | (cases ho : zfo false (fun p => (zfV false np pc D S f j p).isSome) (fun p => (zfV false np pc D S f j p).getD 0) p with
             | none => rw [ho] at z2; exact absurd rfl z2
             | some o =>
               have ob := fb p o ho
               rw [ho] at e z3
               first
               | (have z3 : nI o ≤ nI y := z3
                  rw [nI_leI (by omega) (by omega)] at z3
                  have : zcmb false (some o) y = some o := by
                    show some (min o y) = some o
                    congr 1
                    omega
                  rw [this] at e
                  exact e)
               | (have z3 : ¬ nI o ≤ nI y := z3
                  rw [nI_leI (by omega) (by omega)] at z3
                  have : zcmb false (some o) y = some y := by
                    show some (min o y) = some y
                    congr 1
                    omega
                  rw [this] at e
                  exact e))
    have hR' : zRf87 M np m pc D := zRf87_same hR e72 (u1 87 (by decide))
    have hv' : M 89 (f + j) = nI v := by rw [u1 89 (by decide)]; exact hv
    have hw' : M 90 (f + j) = nI w := by rw [u1 90 (by decide)]; exact hw
    have hf' : M 71 33 = nI f := by rw [e71]; exact hf
    have hg' : M 71 34 = nI g := by rw [e71]; exact hg
    -- a day behind the first
    have late : f + j ≠ f → zEx (zCall (d + 3)) 10 false 1 zc_Model_farOf F 63 [.ref 71, .int 0, .int (zer (zfo false (fun p => (zfV false np pc D S f j p).isSome) (fun p => (zfV false np pc D S f j p).getD 0) p)), .int (nI (f + j)), .int (nI p), .int (-1), .int 0, l7, l8] [] (X, b, zLay, K, B, M) := by
      intro hj0
      cases hbit : (S (f + j)).testBit p
      · have vn : zfV false np pc D S f j p = none := by
          cases j with
          | zero => exact absurd rfl hj0
          | succ j =>
            unfold zfV
            rw [show f + j + 1 = f + (j + 1) by omega, hbit, cond_false]
        have a := after 0 l7 l8 c7 c8
        rw [vn] at a
        refine zb_Model_farOfM_63 (mv := D (f + j) 0 p) (x := M 93 (10 * (f + j - 1) + 0)) hK _ (f + j) p _ 0 l7 l8 c7 c8 hf' hg' hfg hR'.1.1 hb hR'.2.1 hpc (by omega) (by omega) (by omega) hv' hw' hvl (fun z => hR'.2.2.2.1 (f + j) (by omega) 0 p (by omega) (by omega)) (hR.2.2.2.2.1 _ _ _) (fun _ => rfl) (fun z => absurd z (by omega)) (fun _ z => absurd z (by omega)) (fun _ _ _ => a) (fun _ _ z _ => ?_) (fun _ _ z _ _ => ?_) (fun _ _ z _ _ _ => ?_) (fun _ _ z _ _ _ _ => ?_) (fun _ _ z _ _ _ _ => ?_)
        all_goals (rw [hvw, hbit] at z; exact absurd z (by decide))
      · cases j with
        | zero => exact absurd rfl hj0
        | succ j =>
          exact lp_farqM (j := j) hK hR' hb hf' hg' hfg (by omega) (by omega) hv' hw' hvw hS (fun q hq => u2 j q (by omega) hq) hbit (fun l7 l8 c7 c8 => after np l7 l8 c7 c8) np 0 l7 l8 c7 c8 (by omega)
    -- the first
    have first_ : ∀ x : Int32, f + j = f → x = zer (zfV false np pc D S f j p) → zEx (zCall (d + 3)) 10 false 1 zc_Model_farOf F 63 [.ref 71, .int 0, .int (zer (zfo false (fun p => (zfV false np pc D S f j p).isSome) (fun p => (zfV false np pc D S f j p).getD 0) p)), .int (nI (f + j)), .int (nI p), .int x, .int 0, l7, l8] [] (X, b, zLay, K, B, M) := by
      intro x hj0 hx0
      rw [hx0]
      exact zb_Model_farOfM_63 (mv := D (f + j) 0 p) (x := 0) hK _ (f + j) p _ 0 l7 l8 c7 c8 hf' hg' hfg hR'.1.1 hb hR'.2.1 hpc (by omega) (by omega) (by omega) hv' hw' hvl (fun z => hR'.2.2.2.1 (f + j) (by omega) 0 p (by omega) (by omega)) (hR.2.2.2.2.1 _ _ _) (fun z => absurd z.2 (by omega)) (fun z => absurd z (by omega)) (fun _ _ => after 0 l7 l8 c7 c8) (fun _ z => absurd z (by omega)) (fun _ z => absurd z (by omega)) (fun _ z => absurd z (by omega)) (fun _ z => absurd z (by omega)) (fun _ z => absurd z (by omega)) (fun _ z => absurd z (by omega))
    have v0 : f + j = f → zfV false np pc D S f j p = bif (S (f + j)).testBit p then some 0 else none := fun hj0 => by
      have : j = 0 := by omega
      subst this
      rfl
    refine zb_Model_farOfM_20 hK _ (f + j) p l5 l6 l7 l8 c5 c6 c7 c8 hf' hg' hfg hR'.1.1 hb (by omega) (by omega) hv' hw' hvl (fun z => absurd z (by omega)) (fun _ z => late z) (fun _ z z2 => first_ _ z ?_) (fun _ z z2 => first_ _ z ?_)
    · rw [hvw] at z2; rw [v0 z, z2]; rfl
    · rw [hvw] at z2; rw [v0 z, z2]; rfl
theorem lp_far7M {M0 : Nat → Nat → Int32} {v w : Nat → Nat} (hK : zKok K) (hR : zRf87 M0 np m pc D) (hb : np ≤ 10) (hf : M0 71 33 = nI f) (hg : M0 71 34 = nI g) (hfg : f ≤ g ∧ g < 60) (hv : ∀ e, f ≤ e → e ≤ g → M0 89 e = nI (v e)) (hw : ∀ e, f ≤ e → e ≤ g → M0 90 e = nI (w e)) (hvw : ∀ e, f ≤ e → e ≤ g → v e &&& w e = S e) (hS : ∀ e, S e < 1024) (kk : ∀ M, (∀ c, c ≠ 93 → M c = M0 c) → F (some (.int (zer (zfo false (fun p => (zfV false np pc D S f (g - f) p).isSome) (fun p => (zfV false np pc D S f (g - f) p).getD 0) np)))) (X, b, zLay, K, B, M)) : ∀ (k j : Nat) (M : Nat → Nat → Int32) (l4 l5 l6 l7 l8 : Value), l4.category = 1 → l5.category = 1 → l6.category = 1 → l7.category = 1 → l8.category = 1 → f + j + k = g → (∀ c, c ≠ 93 → M c = M0 c) → (∀ i q, i < j + 1 → q < np → M 93 (10 * (f + i) + q) = zer (zfV false np pc D S f i q)) → zEx (zCall (d + 3)) 10 false 1 zc_Model_farOf F 7 [.ref 71, .int 0, .int (zer (zfo false (fun p => (zfV false np pc D S f j p).isSome) (fun p => (zfV false np pc D S f j p).getD 0) np)), .int (nI (f + j + 1)), l4, l5, l6, l7, l8] [] (X, b, zLay, K, B, M) := by
  intro k
  induction k with
  | zero =>
    intro j M l4 l5 l6 l7 l8 c4 c5 c6 c7 c8 hj u1 u2
    have hj : j = g - f := by omega
    subst hj
    exact zb_Model_farOfM_7 _ (f + (g - f) + 1) l4 l5 l6 l7 l8 c4 c5 c6 c7 c8 (by rw [u1 71 (by decide)]; exact hf) (by rw [u1 71 (by decide)]; exact hg) hfg (by omega) (fun _ => kk M u1) (fun z => absurd z (by omega))
  | succ k ih =>
    intro j M l4 l5 l6 l7 l8 c4 c5 c6 c7 c8 hj u1 u2
    have e71 : M 71 = M0 71 := u1 71 (by decide)
    refine zb_Model_farOfM_7 _ (f + j + 1) l4 l5 l6 l7 l8 c4 c5 c6 c7 c8 (by rw [e71]; exact hf) (by rw [e71]; exact hg) hfg (by omega) (fun z => absurd z (by omega)) (fun _ => ?_)
    refine lp_far20M (j := j + 1) (v := v (f + (j + 1))) (w := w (f + (j + 1))) hK (zRf87_same hR (u1 72 (by decide)) (u1 87 (by decide))) hb (by rw [e71]; exact hf) (by rw [e71]; exact hg) hfg (by omega) (by rw [u1 89 (by decide)]; exact hv _ (by omega) (by omega)) (by rw [u1 90 (by decide)]; exact hw _ (by omega) (by omega)) (hvw _ (by omega) (by omega)) hS u2 (fun M1 l5 l6 l7 l8 c5 c6 c7 c8 v1 v2 => ?_) np 0 M l5 l6 l7 l8 c5 c6 c7 c8 (by omega) (fun _ _ => rfl) u2 (fun q hq => absurd hq (Nat.not_lt_zero q))
    exact ih (j + 1) M1 _ l5 l6 l7 l8 rfl c5 c6 c7 c8 (by omega) (fun c hc => (v1 c hc).trans (u1 c hc)) v2
theorem sp_farOfM {v w : Nat → Nat} (hK : zKok K) (hR : zRf87 M np m pc D) (hb : np ≤ 10) (hV : zVok false np pc D S f g) (hf : M 71 33 = nI f) (hg : M 71 34 = nI g) (hfg : f ≤ g ∧ g < 60) (hv : ∀ e, f ≤ e → e ≤ g → M 89 e = nI (v e)) (hw : ∀ e, f ≤ e → e ≤ g → M 90 e = nI (w e)) (hvw : ∀ e, f ≤ e → e ≤ g → v e &&& w e = S e) (hS : ∀ e, S e < 1024) (kk : ∀ M', (∀ c, c ≠ 93 → M' c = M c) → F (some (.int (zer (zfR false np pc D S f g)))) (X, b, zLay, K, B, M')) : zCall (d + 4) zm_Model_farOf [.ref 71, .int 0] (X, b, zLay, K, B, M) F := by
  have er : zfR false np pc D S f g = zfo false (fun p => (zfV false np pc D S f (g - f) p).isSome) (fun p => (zfV false np pc D S f (g - f) p).getD 0) np := by
    unfold zfR
    refine zfo_ext np (fun q hq => ?_)
    have := hV (g - f) (by omega) q hq
    rw [show f + (g - f) = g by omega] at this
    exact this.symm
  rw [er] at kk
  refine zb_Model_farOfM_0 hf hg hfg ?_
  refine zb_Model_farOfM_7 _ f .null .null .null .null .null rfl rfl rfl rfl rfl hf hg hfg (by omega) (fun z => absurd z (by omega)) (fun _ => ?_)
  refine lp_far20M (j := 0) (v := v f) (w := w f) hK hR hb hf hg hfg (by omega) (hv f (by omega) (by omega)) (hw f (by omega) (by omega)) (hvw f (by omega) (by omega)) hS (fun i q h1 _ => absurd h1 (Nat.not_lt_zero i)) (fun M1 l5 l6 l7 l8 c5 c6 c7 c8 v1 v2 => ?_) np 0 M .null .null .null .null rfl rfl rfl rfl (by omega) (fun _ _ => rfl) (fun i q h1 _ => absurd h1 (Nat.not_lt_zero i)) (fun q hq => absurd hq (Nat.not_lt_zero q))
  exact lp_far7M hK hR hb hf hg hfg hv hw hvw hS kk (g - f) 0 M1 _ l5 l6 l7 l8 rfl c5 c6 c7 c8 (by omega) v1 v2
end FA
