/-! ===== stays: the reference ===== -/
def zRH (M : Nat → Nat → Int32) (f g np m pc : Nat) (D : Nat → Nat → Nat → Nat) (S v w : Nat → Nat) (rd : Nat) (ex : Nat → Nat → Bool) : Prop := M 71 33 = nI f ∧ M 71 34 = nI g ∧ (f ≤ g ∧ g < 60) ∧ zRf87 M np m pc D ∧ np ≤ 10 ∧ (∀ e, f ≤ e → e ≤ g → M 89 e = nI (v e) ∧ M 90 e = nI (w e) ∧ v e &&& w e = S e) ∧ (∀ e, S e < 1024) ∧ rd < 1024 ∧ (∀ e p, f ≤ e → e ≤ g → p < np → M 92 (10 * e + p) = zbi (decide (ex e p = true)))
theorem zRH_same {M M2 : Nat → Nat → Int32} {f g np m pc : Nat} {D : Nat → Nat → Nat → Nat} {S v w : Nat → Nat} {rd : Nat} {ex : Nat → Nat → Bool} (h : ∀ c, c ≠ 91 → M2 c = M c) (j : zRH M f g np m pc D S v w rd ex) : zRH M2 f g np m pc D S v w rd ex := by
  obtain ⟨j1, j2, j3, j4, j5, j6, j7, j8, j9⟩ := j
  exact ⟨by rw [h 71 (by decide)]; exact j1, by rw [h 71 (by decide)]; exact j2, j3, zRf87_same j4 (h 72 (by decide)) (h 87 (by decide)), j5, by rw [h 89 (by decide), h 90 (by decide)]; exact j6, j7, j8, by rw [h 92 (by decide)]; exact j9⟩
def zeF (n : Nat) : Nat := if n = 9999 then 100000 else n
theorem zeF_le {n : Nat} (h : n ≤ 9999) : zeF n ≤ 100000 := by
  unfold zeF
  split <;> omega
theorem zeF_9 {n : Nat} (h : n ≤ 9999) : zeF n = 100000 ↔ n = 9999 := by
  unfold zeF
  constructor
  · intro q
    split at q
    · assumption
    · omega
  · intro q
    rw [if_pos q]
theorem zeF_m1 {x y : Nat} (hx : x ≤ 9999) (hy : y ≤ 9999) (h : zeF x ≤ zeF y) : zeF (min x y) = zeF x := by
  have : x ≤ y := by
    unfold zeF at h
    split at h <;> split at h <;> omega
  rw [Nat.min_eq_left this]
theorem zeF_m2 {x y : Nat} (hx : x ≤ 9999) (hy : y ≤ 9999) (h : zeF y < zeF x) : zeF (min x y) = zeF y := by
  have : y ≤ x := by
    unfold zeF at h
    split at h <;> split at h <;> omega
  rw [Nat.min_eq_right this]
theorem zeF_9a : zeF 9999 = 100000 := if_pos rfl
theorem zeF_n {n : Nat} (h : n ≠ 9999) : zeF n = n := if_neg h
theorem zkF {lm s : Nat} {bt rb ex : Bool} (hs : s ≤ 9999) (hl : lm ≤ 99) : zeF (bif bt then zk9 lm rb ex s else 9999) = if bt = false then 100000 else if 100000 ≤ zeF s then 100000 else if rb = true then (if ex = true then (if zeF s ≤ lm then zeF s else 100000) else (if zeF s + 1 ≤ lm then zeF s + 1 else 100000)) else 0 := by
  cases bt
  · rw [cond_false, zeF_9a, if_pos rfl]
  · rw [cond_true, if_neg (show ¬ (true = false) by decide)]
    by_cases e : s = 9999
    · subst e
      unfold zk9
      rw [if_pos rfl, zeF_9a, if_pos (Nat.le_refl _)]
    · rw [zeF_n e, if_neg (by omega)]
      unfold zk9
      rw [if_neg e]
      cases rb
      · rw [if_neg (show ¬ (false = true) by decide), if_neg (show ¬ (false = true) by decide), zeF_n (by decide)]
      · rw [if_pos rfl, if_pos rfl]
        cases ex
        · rw [if_neg (show ¬ (false = true) by decide), if_neg (show ¬ (false = true) by decide)]
          by_cases q : s + 1 ≤ lm
          · rw [if_pos q, if_pos q, zeF_n (by omega)]
          · rw [if_neg q, if_neg q, zeF_9a]
        · rw [if_pos rfl, if_pos rfl]
          by_cases q : s ≤ lm
          · rw [if_pos q, if_pos q, zeF_n (by omega)]
          · rw [if_neg q, if_neg q, zeF_9a]
section SR
variable {d : Nat} {F : Option Value → zS → Prop} {X : zX} {b : Nat × Nat} {K : Nat → Nat → Option Nat} {B : Nat → Nat → Int64} {M : Nat → Nat → Int32} {np m pc : Nat} {D : Nat → Nat → Nat → Nat} {S v w : Nat → Nat} {f g rd lm : Nat} {ex : Nat → Nat → Bool}
theorem zRH_o {M0 : Nat → Nat → Int32} {j i q p : Nat} {x : Int32} (h10 : np ≤ 10) (hq : q < np) (hji : j = i + 1) : zu M0 91 (10 * (f + j) + p) x 91 (10 * (f + i) + q) = M0 91 (10 * (f + i) + q) := by
  rw [zu_at, if_neg (by omega)]

theorem lp_rm49 {j p l2 : Nat} (hK : zKok K) (hH : zRH M f g np m pc D S v w rd ex) (hj : f + j + 1 ≤ g) (hp : p < np) (hx : ∀ q, q < np → (S (f + j)).testBit q = true → M 91 (10 * (f + j) + q) = nI (zaV np pc D S f rd ex j q)) (kk : ∀ l6, zEx (zCall (d + 5)) 10 false 1 zc_Model_atMost F 157 [.ref 71, .int (nI rd), .int (nI l2), .int (nI (f + j + 1)), .int (nI p), .int (nI (zmx0 (fun q => (S (f + j)).testBit q && Nat.ble (D (f + j + 1) q p) pc) (zaV np pc D S f rd ex j) np)), .int (nI l6)] [] (X, b, zLay, K, B, M)) : ∀ (k q : Nat), q + k = np → zEx (zCall (d + 5)) 10 false 1 zc_Model_atMost F 49 [.ref 71, .int (nI rd), .int (nI l2), .int (nI (f + j + 1)), .int (nI p), .int (nI (zmx0 (fun q => (S (f + j)).testBit q && Nat.ble (D (f + j + 1) q p) pc) (zaV np pc D S f rd ex j) q)), .int (nI q)] [] (X, b, zLay, K, B, M) := by
  obtain ⟨j1, j2, j3, j4, j5, j6, j7, j8, j9⟩ := hH
  obtain ⟨i1, i2, i3⟩ := j6 (f + j) (by omega) (by omega)
  have vb : ∀ q, zaV np pc D S f rd ex j q ≤ 1000 := fun q => by have := zaV_le (np := np) (pc := pc) (D := D) (S := S) (f := f) (rd := rd) (ex := ex) j q; omega
  have fb : ∀ q, zmx0 (fun q => (S (f + j)).testBit q && Nat.ble (D (f + j + 1) q p) pc) (zaV np pc D S f rd ex j) q ≤ 1000 := fun q => by have := zmx0_le (c := (fun q => (S (f + j)).testBit q && Nat.ble (D (f + j + 1) q p) pc)) (v := zaV np pc D S f rd ex j) (b := j + 1) q (fun r _ _ => zaV_le j r); omega
  have hs : v (f + j) &&& w (f + j) < 1024 := by rw [i3]; exact j7 _
  intro k
  induction k with
  | zero =>
    intro q hq
    have hq : q = np := by omega
    subst hq
    exact zb_Model_atMost_49 (v1 := v (f + j)) (w1 := w (f + j)) (mv := 0) (sx := 0) hK rd l2 (f + j + 1) p _ q j1 j2 j3 j4.1.1 j5 j4.2.1 j4.2.2.1 (by omega) hp (Nat.le_refl _) (fb _) (fun _ => i1) (fun _ => i2) hs (fun z => absurd z (by omega)) (by omega) (fun z => absurd z.1 (by omega)) (by omega) (fun _ => kk _) (fun z => absurd z (by omega)) (fun z => absurd z (by omega)) (fun z => absurd z (by omega)) (fun z => absurd z (by omega)) (fun z => absurd z (by omega))
  | succ k ih =>
    intro q hq
    have e := ih (q + 1) (by omega)
    have st : zmx0 (fun q => (S (f + j)).testBit q && Nat.ble (D (f + j + 1) q p) pc) (zaV np pc D S f rd ex j) (q + 1) = bif ((S (f + j)).testBit q && Nat.ble (D (f + j + 1) q p) pc) then max (zmx0 (fun q => (S (f + j)).testBit q && Nat.ble (D (f + j + 1) q p) pc) (zaV np pc D S f rd ex j) q) (zaV np pc D S f rd ex j q) else zmx0 (fun q => (S (f + j)).testBit q && Nat.ble (D (f + j + 1) q p) pc) (zaV np pc D S f rd ex j) q := rfl
    refine zb_Model_atMost_49 (v1 := v (f + j)) (w1 := w (f + j)) (mv := D (f + j + 1) q p) (sx := zaV np pc D S f rd ex j q) hK rd l2 (f + j + 1) p _ q j1 j2 j3 j4.1.1 j5 j4.2.1 j4.2.2.1 (by omega) hp (by omega) (fb _) (fun _ => i1) (fun _ => i2) hs (fun _ => j4.2.2.2.1 (f + j + 1) (by omega) q p (by omega) (by omega)) (j4.2.2.2.2.1 _ _ _) (fun _ z => hx q (by omega) (by rw [← i3]; exact z)) (vb q) (fun z => absurd z (by omega)) (fun _ z => absurd z (by omega)) (fun _ _ z => ?_) (fun _ _ z z2 => ?_) (fun _ _ z z2 z3 => ?_) (fun _ _ z z2 z3 => ?_)
    · rw [i3] at z
      rw [z, Bool.false_and, cond_false] at st
      rw [st] at e
      exact e
    · rw [i3] at z
      rw [z, Bool.true_and, zble_f z2, cond_false] at st
      rw [st] at e
      exact e
    · rw [i3] at z
      rw [z, Bool.true_and, Nat.ble_eq_true_of_le z2, cond_true] at st
      rw [st, Nat.max_eq_left z3] at e
      exact e
    · rw [i3] at z
      rw [z, Bool.true_and, Nat.ble_eq_true_of_le z2, cond_true] at st
      rw [st, Nat.max_eq_right (Nat.le_of_lt z3)] at e
      exact e

theorem lp_cs54 {j p l3 : Nat} {l8 : Value} (hK : zKok K) (c8 : l8.category = 1) (hlm : lm ≤ 99) (hH : zRH M f g np m pc D S v w rd ex) (hj : f + j + 1 ≤ g) (hp : p < np) (hx : ∀ q, q < np → (S (f + j)).testBit q = true → M 91 (10 * (f + j) + q) = nI (zeF (zkV np pc D S f rd ex lm j q))) (kk : ∀ l6, zEx (zCall (d + 5)) 10 false 2 zc_Model_canStay F 167 [.ref 71, .int (nI rd), .int (nI lm), .int (nI l3), .int (nI (f + j + 1)), .int (nI p), .int (nI (zeF (zmn9 (fun q => (S (f + j)).testBit q && Nat.ble (D (f + j + 1) q p) pc) (zkV np pc D S f rd ex lm j) np))), .int (nI l6), l8] [] (X, b, zLay, K, B, M)) : ∀ (k q : Nat), q + k = np → zEx (zCall (d + 5)) 10 false 2 zc_Model_canStay F 54 [.ref 71, .int (nI rd), .int (nI lm), .int (nI l3), .int (nI (f + j + 1)), .int (nI p), .int (nI (zeF (zmn9 (fun q => (S (f + j)).testBit q && Nat.ble (D (f + j + 1) q p) pc) (zkV np pc D S f rd ex lm j) q))), .int (nI q), l8] [] (X, b, zLay, K, B, M) := by
  obtain ⟨j1, j2, j3, j4, j5, j6, j7, j8, j9⟩ := hH
  obtain ⟨i1, i2, i3⟩ := j6 (f + j) (by omega) (by omega)
  have vb : ∀ q, zeF (zkV np pc D S f rd ex lm j q) ≤ 100000 := fun q => zeF_le (zkV_le (by omega) j q)
  have fb : ∀ q, zeF (zmn9 (fun q => (S (f + j)).testBit q && Nat.ble (D (f + j + 1) q p) pc) (zkV np pc D S f rd ex lm j) q) ≤ 100000 := fun q => zeF_le (zmn9_le _ _ q)
  have hs : v (f + j) &&& w (f + j) < 1024 := by rw [i3]; exact j7 _
  intro k
  induction k with
  | zero =>
    intro q hq
    have hq : q = np := by omega
    subst hq
    exact zb_Model_canStay_54 (v1 := v (f + j)) (w1 := w (f + j)) (mv := 0) (sx := 0) hK rd lm l3 (f + j + 1) p _ q l8 c8 j1 j2 j3 j4.1.1 j5 j4.2.1 j4.2.2.1 (by omega) hp (Nat.le_refl _) (fb _) (fun _ => i1) (fun _ => i2) hs (fun z => absurd z (by omega)) (by omega) (fun z => absurd z.1 (by omega)) (by omega) (fun _ => kk _) (fun z => absurd z (by omega)) (fun z => absurd z (by omega)) (fun z => absurd z (by omega)) (fun z => absurd z (by omega)) (fun z => absurd z (by omega))
  | succ k ih =>
    intro q hq
    have e := ih (q + 1) (by omega)
    have st : zmn9 (fun q => (S (f + j)).testBit q && Nat.ble (D (f + j + 1) q p) pc) (zkV np pc D S f rd ex lm j) (q + 1) = bif ((S (f + j)).testBit q && Nat.ble (D (f + j + 1) q p) pc) then min (zmn9 (fun q => (S (f + j)).testBit q && Nat.ble (D (f + j + 1) q p) pc) (zkV np pc D S f rd ex lm j) q) (zkV np pc D S f rd ex lm j q) else zmn9 (fun q => (S (f + j)).testBit q && Nat.ble (D (f + j + 1) q p) pc) (zkV np pc D S f rd ex lm j) q := rfl
    refine zb_Model_canStay_54 (v1 := v (f + j)) (w1 := w (f + j)) (mv := D (f + j + 1) q p) (sx := zeF (zkV np pc D S f rd ex lm j q)) hK rd lm l3 (f + j + 1) p _ q l8 c8 j1 j2 j3 j4.1.1 j5 j4.2.1 j4.2.2.1 (by omega) hp (by omega) (fb _) (fun _ => i1) (fun _ => i2) hs (fun _ => j4.2.2.2.1 (f + j + 1) (by omega) q p (by omega) (by omega)) (j4.2.2.2.2.1 _ _ _) (fun _ z => hx q (by omega) (by rw [← i3]; exact z)) (vb q) (fun z => absurd z (by omega)) (fun _ z => absurd z (by omega)) (fun _ _ z => ?_) (fun _ _ z z2 => ?_) (fun _ _ z z2 z3 => ?_) (fun _ _ z z2 z3 => ?_)
    · rw [i3] at z
      rw [z, Bool.false_and, cond_false] at st
      rw [st] at e
      exact e
    · rw [i3] at z
      rw [z, Bool.true_and, zble_f z2, cond_false] at st
      rw [st] at e
      exact e
    · rw [i3] at z
      rw [z, Bool.true_and, Nat.ble_eq_true_of_le z2, cond_true] at st
      rw [st, zeF_m1 (zmn9_le _ _ q) (zkV_le (by omega) j q) z3] at e
      exact e
    · rw [i3] at z
      rw [z, Bool.true_and, Nat.ble_eq_true_of_le z2, cond_true] at st
      rw [st, zeF_m2 (zmn9_le _ _ q) (zkV_le (by omega) j q) z3] at e
      exact e

theorem lp_rm18 {M0 : Nat → Nat → Int32} {j : Nat} (hK : zKok K) (hH0 : zRH M0 f g np m pc D S v w rd ex) (hj : f + j ≤ g) (kk : ∀ M (l5 l6 : Value), l5.category = 1 → l6.category = 1 → (∀ c, c ≠ 91 → M c = M0 c) → (∀ q, q < np → (S (f + j)).testBit q = true → M 91 (10 * (f + j) + q) = nI (zaV np pc D S f rd ex j q)) → zEx (zCall (d + 5)) 10 false 1 zc_Model_atMost F 7 [.ref 71, .int (nI rd), .int (nI (zmoD np pc D S f rd ex (j + 1))), .int (nI (f + j + 1)), .int (nI np), l5, l6] [] (X, b, zLay, K, B, M)) : ∀ (k p : Nat) (M : Nat → Nat → Int32) (l5 l6 : Value), l5.category = 1 → l6.category = 1 → p + k = np → (∀ c, c ≠ 91 → M c = M0 c) → (∀ i, j = i + 1 → ∀ q, q < np → (S (f + i)).testBit q = true → M 91 (10 * (f + i) + q) = nI (zaV np pc D S f rd ex i q)) → (∀ q, q < p → (S (f + j)).testBit q = true → M 91 (10 * (f + j) + q) = nI (zaV np pc D S f rd ex j q)) → zEx (zCall (d + 5)) 10 false 1 zc_Model_atMost F 18 [.ref 71, .int (nI rd), .int (nI (zmoP np pc D S f rd ex j (zmoD np pc D S f rd ex j) p)), .int (nI (f + j)), .int (nI p), l5, l6] [] (X, b, zLay, K, B, M) := by
  intro k
  induction k with
  | zero =>
    intro p M l5 l6 c5 c6 hp u1 u2 u3
    have hp : p = np := by omega
    subst hp
    obtain ⟨j1, j2, j3, j4, j5, j6, j7, j8, j9⟩ := zRH_same u1 hH0
    obtain ⟨i1, i2, i3⟩ := j6 (f + j) (by omega) (by omega)
    exact zb_Model_atMost_18 hK rd _ (f + j) p l5 l6 c5 c6 j4.1.1 j5 (by omega) (Nat.le_refl _) i1 i2 (by rw [i3]; exact j7 _) (fun _ => kk M l5 l6 c5 c6 u1 u3) (fun z => absurd z (by omega)) (fun z => absurd z (by omega))
  | succ k ih =>
    intro p M l5 l6 c5 c6 hp u1 u2 u3
    have hH := zRH_same u1 hH0
    obtain ⟨j1, j2, j3, j4, j5, j6, j7, j8, j9⟩ := hH
    obtain ⟨i1, i2, i3⟩ := j6 (f + j) (by omega) (by omega)
    have st : zmoP np pc D S f rd ex j (zmoD np pc D S f rd ex j) (p + 1) = bif (S (f + j)).testBit p then max (zmoP np pc D S f rd ex j (zmoD np pc D S f rd ex j) p) (zaV np pc D S f rd ex j p) else zmoP np pc D S f rd ex j (zmoD np pc D S f rd ex j) p := rfl
    refine zb_Model_atMost_18 hK rd _ (f + j) p l5 l6 c5 c6 j4.1.1 j5 (by omega) (by omega) i1 i2 (by rw [i3]; exact j7 _) (fun z => absurd z (by omega)) (fun _ z => ?_) (fun _ z => ?_)
    · rw [i3] at z
      rw [z, cond_false] at st
      have e := ih (p + 1) M l5 l6 c5 c6 (by omega) u1 u2 (fun q hq hz => by
        by_cases e : q = p
        · rw [e, z] at hz; exact absurd hz (by decide)
        · exact u3 q (by omega) hz)
      rw [st] at e
      exact e
    · rw [i3] at z
      rw [z, cond_true] at st
      have pl := zpL_le (np := np) (pc := pc) (D := D) (S := S) (f := f) (rd := rd) (ex := ex) j p
      have ml := zmoP_le (np := np) (pc := pc) (D := D) (S := S) (f := f) (rd := rd) (ex := ex) (j := j) (m0 := zmoD np pc D S f rd ex j) (b := 100) (by have := zmoD_le (np := np) (pc := pc) (D := D) (S := S) (f := f) (rd := rd) (ex := ex) j; omega) (by omega) p
      have ae := zaV_eq (np := np) (pc := pc) (D := D) (S := S) (f := f) (rd := rd) (ex := ex) j p
      have next : ∀ (V mx l5 l6 : Nat), V = zs0 (rd.testBit p) (ex (f + j) p) (zpL np pc D S f rd ex j p) → mx = max (zmoP np pc D S f rd ex j (zmoD np pc D S f rd ex j) p) V → zEx (zCall (d + 5)) 10 false 1 zc_Model_atMost F 18 [.ref 71, .int (nI rd), .int (nI mx), .int (nI (f + j)), .int (nI (p + 1)), .int (nI l5), .int (nI l6)] [] (X, b, zLay, K, B, zu M 91 (10 * (f + j) + p) (nI V)) := by
        intro V mx l5 l6 hv hm
        rw [← ae] at hv
        subst hv hm
        rw [← st]
        refine ih (p + 1) _ _ _ rfl rfl (by omega) (fun c hc => ?_) (fun i hi q hq hz => ?_) (fun q hq hz => ?_)
        · rw [zu_oc hc]; exact u1 c hc
        · rw [zRH_o j5 hq hi]; exact u2 i hi q hq hz
        · rw [zu_at]
          by_cases e : q = p
          · rw [if_pos (by rw [e]), e]
          · rw [if_neg (by omega)]; exact u3 q (by omega) hz
      have fin : ∀ l6 : Nat, zEx (zCall (d + 5)) 10 false 1 zc_Model_atMost F 157 [.ref 71, .int (nI rd), .int (nI (zmoP np pc D S f rd ex j (zmoD np pc D S f rd ex j) p)), .int (nI (f + j)), .int (nI p), .int (nI (zpL np pc D S f rd ex j p)), .int (nI l6)] [] (X, b, zLay, K, B, M) := by
        intro l6
        generalize zpL np pc D S f rd ex j p = s0 at next pl ⊢
        generalize zmoP np pc D S f rd ex j (zmoD np pc D S f rd ex j) p = m0 at next ml ⊢
        exact zb_Model_atMost_157 (E := ex (f + j) p) hK rd m0 (f + j) p s0 l6 j8 (by omega) (by omega) (by omega) (by omega) (j9 _ _ (by omega) (by omega) (by omega)) (fun q0 q1 q2 => next ((s0 + 1)) (m0) _ _ (by unfold zs0; rw [if_pos q0, if_neg q1]) (by omega)) (fun q0 q1 q2 => next ((s0 + 1)) ((s0 + 1)) _ _ (by unfold zs0; rw [if_pos q0, if_neg q1]) (by omega)) (fun q0 q1 q2 => next (s0) (m0) _ _ (by unfold zs0; rw [if_pos q0, if_pos q1]) (by omega)) (fun q0 q1 q2 => next (s0) (s0) _ _ (by unfold zs0; rw [if_pos q0, if_pos q1]) (by omega)) (fun q0 q1 => next (0) (m0) _ _ (by unfold zs0; rw [if_neg (by rw [q0]; decide)]) (by omega)) (fun q0 q1 => next (0) (0) _ _ (by unfold zs0; rw [if_neg (by rw [q0]; decide)]) (by omega))
      cases j with
      | zero =>
        exact zb_Model_atMost_49 (v1 := 0) (w1 := 0) (mv := D (f + 0) 0 p) (sx := 0) hK rd _ (f + 0) p 0 0 j1 j2 j3 j4.1.1 j5 j4.2.1 j4.2.2.1 (by omega) (by omega) (by omega) (by omega) (fun z => absurd z (by omega)) (fun z => absurd z (by omega)) (by decide) (fun _ => j4.2.2.2.1 (f + 0) (by omega) 0 p (by omega) (by omega)) (j4.2.2.2.2.1 _ _ _) (fun z => absurd z.2 (by omega)) (by omega) (fun z => absurd z (by omega)) (fun _ _ => fin 0) (fun _ z => absurd z (by omega)) (fun _ z => absurd z (by omega)) (fun _ z => absurd z (by omega)) (fun _ z => absurd z (by omega))
      | succ i =>
        exact lp_rm49 (v := v) (w := w) hK (zRH_same u1 hH0) hj (by omega) (u2 i rfl) fin np 0 (by omega)
theorem lp_rm7 {M0 : Nat → Nat → Int32} (hK : zKok K) (hH0 : zRH M0 f g np m pc D S v w rd ex) (kk : ∀ M, (∀ c, c ≠ 91 → M c = M0 c) → F (some (.int (nI (zmoD np pc D S f rd ex (g - f + 1))))) (X, b, zLay, K, B, M)) : ∀ (k j : Nat) (M : Nat → Nat → Int32) (l4 l5 l6 : Value), l4.category = 1 → l5.category = 1 → l6.category = 1 → f + j + k = g + 1 → (∀ c, c ≠ 91 → M c = M0 c) → (∀ i, j = i + 1 → ∀ q, q < np → (S (f + i)).testBit q = true → M 91 (10 * (f + i) + q) = nI (zaV np pc D S f rd ex i q)) → zEx (zCall (d + 5)) 10 false 1 zc_Model_atMost F 7 [.ref 71, .int (nI rd), .int (nI (zmoD np pc D S f rd ex j)), .int (nI (f + j)), l4, l5, l6] [] (X, b, zLay, K, B, M) := by
  intro k
  induction k with
  | zero =>
    intro j M l4 l5 l6 c4 c5 c6 hj u1 u2
    obtain ⟨j1, j2, j3, -⟩ := zRH_same u1 hH0
    have hj : j = g - f + 1 := by omega
    subst hj
    exact zb_Model_atMost_7 rd _ _ l4 l5 l6 c4 c5 c6 j1 j2 j3 (by omega) (fun _ => kk M u1) (fun z => absurd z (by omega))
  | succ k ih =>
    intro j M l4 l5 l6 c4 c5 c6 hj u1 u2
    have hH := zRH_same u1 hH0
    obtain ⟨j1, j2, j3, -⟩ := zRH_same u1 hH0
    refine zb_Model_atMost_7 rd _ (f + j) l4 l5 l6 c4 c5 c6 j1 j2 j3 (by omega) (fun z => absurd z (by omega)) (fun _ => ?_)
    refine lp_rm18 hK hH (by omega) (fun M1 l5 l6 c5 c6 v1 v2 => ?_) np 0 M l5 l6 c5 c6 (by omega) (fun _ _ => rfl) u2 (fun q hq => absurd hq (Nat.not_lt_zero q))
    refine ih (j + 1) M1 _ l5 l6 rfl c5 c6 (by omega) (fun c hc => by rw [v1 c hc]; exact u1 c hc) (fun i hi => ?_)
    have : i = j := by omega
    subst this
    exact v2
theorem sp_amR (hK : zKok K) (hH : zRH M f g np m pc D S v w rd ex) (kk : ∀ M', (∀ c, c ≠ 91 → M' c = M c) → F (some (.int (nI (zmoD np pc D S f rd ex (g - f + 1))))) (X, b, zLay, K, B, M')) : zCall (d + 6) zm_Model_atMost [.ref 71, .int (nI rd)] (X, b, zLay, K, B, M) F := by
  refine zb_Model_atMost_0 rd hH.1 hH.2.1 hH.2.2.1 ?_
  exact lp_rm7 hK hH kk (g - f + 1) 0 M .null .null .null rfl rfl rfl (by have := hH.2.2.1; omega) (fun _ _ => rfl) (fun i hi => absurd hi (by omega))
/-- canStay -/
theorem lp_cs22 {M0 : Nat → Nat → Int32} {j : Nat} (hK : zKok K) (hlm : lm ≤ 99) (hH0 : zRH M0 f g np m pc D S v w rd ex) (hj : f + j ≤ g) (kk : ∀ M (l6 l7 l8 : Value), l6.category = 1 → l7.category = 1 → l8.category = 1 → (∀ c, c ≠ 91 → M c = M0 c) → (∀ q, q < np → M 91 (10 * (f + j) + q) = nI (zeF (zkV np pc D S f rd ex lm j q))) → zEx (zCall (d + 5)) 10 false 2 zc_Model_canStay F 8 [.ref 71, .int (nI rd), .int (nI lm), .int (nI (zkc np pc D S f rd ex lm j np).toNat), .int (nI (f + j + 1)), .int (nI np), l6, l7, l8] [] (X, b, zLay, K, B, M)) : ∀ (k p : Nat) (M : Nat → Nat → Int32) (l6 l7 l8 : Value), l6.category = 1 → l7.category = 1 → l8.category = 1 → p + k = np → (∀ c, c ≠ 91 → M c = M0 c) → (∀ i, j = i + 1 → ∀ q, q < np → M 91 (10 * (f + i) + q) = nI (zeF (zkV np pc D S f rd ex lm i q))) → (∀ q, q < p → M 91 (10 * (f + j) + q) = nI (zeF (zkV np pc D S f rd ex lm j q))) → zEx (zCall (d + 5)) 10 false 2 zc_Model_canStay F 22 [.ref 71, .int (nI rd), .int (nI lm), .int (nI (zkc np pc D S f rd ex lm j p).toNat), .int (nI (f + j)), .int (nI p), l6, l7, l8] [] (X, b, zLay, K, B, M) := by
  have tn : ∀ x : Bool, x.toNat ≤ 1 := fun x => by cases x <;> decide
  intro k
  induction k with
  | zero =>
    intro p M l6 l7 l8 c6 c7 c8 hp u1 u2 u3
    have hp : p = np := by omega
    subst hp
    obtain ⟨j1, j2, j3, j4, j5, j6, j7, j8, j9⟩ := zRH_same u1 hH0
    exact zb_Model_canStay_22 hK rd lm _ (f + j) p l6 l7 l8 c6 c7 c8 j1 j2 j3 j4.1.1 j5 (by omega) (Nat.le_refl _) (fun _ => kk M l6 l7 l8 c6 c7 c8 u1 u3) (fun z => absurd z (by omega)) (fun z => absurd z (by omega))
  | succ k ih =>
    intro p M l6 l7 l8 c6 c7 c8 hp u1 u2 u3
    have hH := zRH_same u1 hH0
    obtain ⟨j1, j2, j3, j4, j5, j6, j7, j8, j9⟩ := hH
    obtain ⟨i1, i2, i3⟩ := j6 (f + j) (by omega) (by omega)
    have kv := zkV_eq (np := np) (pc := pc) (D := D) (S := S) (f := f) (rd := rd) (ex := ex) (lm := lm) j p
    have st := zkc_s (np := np) (pc := pc) (D := D) (S := S) (f := f) (rd := rd) (ex := ex) (lm := lm) j p
    have pl := zpS_le (np := np) (pc := pc) (D := D) (S := S) (f := f) (rd := rd) (ex := ex) (lm := lm) j p
    have kl := zkV_le (np := np) (pc := pc) (D := D) (S := S) (f := f) (rd := rd) (ex := ex) (lm := lm) (by omega) j p
    have next : ∀ (V L : Nat) (l6 l7 l8 : Value), l6.category = 1 → l7.category = 1 → l8.category = 1 → V = zeF (bif (v (f + j) &&& w (f + j)).testBit p then zk9 lm (rd.testBit p) (ex (f + j) p) (zpS np pc D S f rd ex lm j p) else 9999) → L = (if (zkc np pc D S f rd ex lm j p).toNat ≠ 0 ∨ V ≠ 100000 then 1 else 0) → zEx (zCall (d + 5)) 10 false 2 zc_Model_canStay F 22 [.ref 71, .int (nI rd), .int (nI lm), .int (nI L), .int (nI (f + j)), .int (nI (p + 1)), l6, l7, l8] [] (X, b, zLay, K, B, zu M 91 (10 * (f + j) + p) (nI V)) := by
      intro V L l6 l7 l8 c6 c7 c8 hv hL
      rw [i3, ← kv] at hv
      have hL2 : L = (zkc np pc D S f rd ex lm j (p + 1)).toNat := by
        rw [hL, st, hv]
        by_cases e : zkV np pc D S f rd ex lm j p = 9999
        · rw [e, zeF_9a]
          simp only [ne_eq, not_true_eq_false]
        · rw [if_pos (Or.inr e), if_pos (Or.inr (fun q => e ((zeF_9 kl).mp q)))]
      rw [hL2, hv]
      refine ih (p + 1) _ _ _ _ c6 c7 c8 (by omega) (fun c hc => ?_) (fun i hi q hq => ?_) (fun q hq => ?_)
      · rw [zu_oc hc]; exact u1 c hc
      · rw [zRH_o j5 hq hi]; exact u2 i hi q hq
      · rw [zu_at]
        by_cases e : q = p
        · rw [if_pos (by rw [e]), e]
        · rw [if_neg (by omega)]; exact u3 q (by omega)
    have fin : ∀ (l7 : Nat), zEx (zCall (d + 5)) 10 false 2 zc_Model_canStay F 167 [.ref 71, .int (nI rd), .int (nI lm), .int (nI (zkc np pc D S f rd ex lm j p).toNat), .int (nI (f + j)), .int (nI p), .int (nI (zeF (zpS np pc D S f rd ex lm j p))), .int (nI l7), l8] [] (X, b, zLay, K, B, M) := by
      intro l7
      have ze := zkF (lm := lm) (bt := (v (f + j) &&& w (f + j)).testBit p) (rb := rd.testBit p) (ex := ex (f + j) p) pl hlm
      rw [ze] at next
      have zl := zeF_le pl
      generalize hl3 : (zkc np pc D S f rd ex lm j p).toNat = l3 at next ⊢
      have l31 : l3 ≤ 1 := by rw [← hl3]; exact tn _
      generalize zeF (zpS np pc D S f rd ex lm j p) = s0 at next zl ⊢
      exact zb_Model_canStay_167 (E := ex (f + j) p) (v := v (f + j)) (w := w (f + j)) hK rd lm l3 (f + j) p s0 l7 l8 c8 j8 (by omega) (by omega) (by omega) zl l31 (j9 _ _ (by omega) (by omega) (by omega)) i1 i2 (by rw [i3]; exact j7 _) (fun q0 q1 q2 => next (100000) (1) _ _ _ rfl rfl rfl (by first | (exfalso; omega) | rw [if_pos q0]) (by split <;> omega)) (fun q0 q1 q2 => next (100000) (0) _ _ _ rfl rfl rfl (by first | (exfalso; omega) | rw [if_pos q0]) (by split <;> omega)) (fun q0 q1 q2 => next (100000) (1) _ _ _ rfl rfl rfl (by first | (exfalso; omega) | rw [if_pos q0]) (by split <;> omega)) (fun q0 q1 q2 => next (100000) (0) _ _ _ rfl rfl rfl (by first | (exfalso; omega) | rw [if_pos q0]) (by split <;> omega)) (fun q0 q1 q2 q3 => next (100000) (1) _ _ _ rfl rfl rfl (by first | (exfalso; omega) | rw [if_neg (by rw [q0]; decide), if_pos q1]) (by split <;> omega)) (fun q0 q1 q2 q3 => next (100000) (0) _ _ _ rfl rfl rfl (by first | (exfalso; omega) | rw [if_neg (by rw [q0]; decide), if_pos q1]) (by split <;> omega)) (fun q0 q1 q2 q3 => next (100000) (1) _ _ _ rfl rfl rfl (by first | (exfalso; omega) | rw [if_neg (by rw [q0]; decide), if_pos q1]) (by split <;> omega)) (fun q0 q1 q2 q3 => next (100000) (0) _ _ _ rfl rfl rfl (by first | (exfalso; omega) | rw [if_neg (by rw [q0]; decide), if_pos q1]) (by split <;> omega)) (fun q0 q1 q2 q3 q4 q5 => next ((s0 + 1)) (1) _ _ _ rfl rfl rfl (by first | (exfalso; omega) | rw [if_neg (by rw [q0]; decide), if_neg (by omega), if_pos q2, if_neg q3, if_pos q4]) (by split <;> omega)) (fun q0 q1 q2 q3 q4 q5 q6 => next ((s0 + 1)) (0) _ _ _ rfl rfl rfl (by first | (exfalso; omega) | rw [if_neg (by rw [q0]; decide), if_neg (by omega), if_pos q2, if_neg q3, if_pos q4]) (by split <;> omega)) (fun q0 q1 q2 q3 q4 q5 q6 => next ((s0 + 1)) (1) _ _ _ rfl rfl rfl (by first | (exfalso; omega) | rw [if_neg (by rw [q0]; decide), if_neg (by omega), if_pos q2, if_neg q3, if_pos q4]) (by split <;> omega)) (fun q0 q1 q2 q3 q4 q5 => next (100000) (1) _ _ _ rfl rfl rfl (by first | (exfalso; omega) | rw [if_neg (by rw [q0]; decide), if_neg (by omega), if_pos q2, if_neg q3, if_neg (by omega)]) (by split <;> omega)) (fun q0 q1 q2 q3 q4 q5 => next (100000) (0) _ _ _ rfl rfl rfl (by first | (exfalso; omega) | rw [if_neg (by rw [q0]; decide), if_neg (by omega), if_pos q2, if_neg q3, if_neg (by omega)]) (by split <;> omega)) (fun q0 q1 q2 q3 q4 q5 => next (s0) (1) _ _ _ rfl rfl rfl (by first | (exfalso; omega) | rw [if_neg (by rw [q0]; decide), if_neg (by omega), if_pos q2, if_pos q3, if_pos q4]) (by split <;> omega)) (fun q0 q1 q2 q3 q4 q5 q6 => next (s0) (0) _ _ _ rfl rfl rfl (by first | (exfalso; omega) | rw [if_neg (by rw [q0]; decide), if_neg (by omega), if_pos q2, if_pos q3, if_pos q4]) (by split <;> omega)) (fun q0 q1 q2 q3 q4 q5 q6 => next (s0) (1) _ _ _ rfl rfl rfl (by first | (exfalso; omega) | rw [if_neg (by rw [q0]; decide), if_neg (by omega), if_pos q2, if_pos q3, if_pos q4]) (by split <;> omega)) (fun q0 q1 q2 q3 q4 q5 => next (100000) (1) _ _ _ rfl rfl rfl (by first | (exfalso; omega) | rw [if_neg (by rw [q0]; decide), if_neg (by omega), if_pos q2, if_pos q3, if_neg (by omega)]) (by split <;> omega)) (fun q0 q1 q2 q3 q4 q5 => next (100000) (0) _ _ _ rfl rfl rfl (by first | (exfalso; omega) | rw [if_neg (by rw [q0]; decide), if_neg (by omega), if_pos q2, if_pos q3, if_neg (by omega)]) (by split <;> omega)) (fun q0 q1 q2 q3 q4 => next (0) (1) _ _ _ rfl rfl rfl (by first | (exfalso; omega) | rw [if_neg (by rw [q0]; decide), if_neg (by omega), if_neg (by rw [q2]; decide)]) (by split <;> omega)) (fun q0 q1 q2 q3 q4 => next (0) (1) _ _ _ rfl rfl rfl (by first | (exfalso; omega) | rw [if_neg (by rw [q0]; decide), if_neg (by omega), if_neg (by rw [q2]; decide)]) (by split <;> omega)) (fun q0 q1 q2 q3 q4 => next (100000) (1) _ _ _ rfl rfl rfl (by first | (exfalso; omega) | rw [if_neg (by rw [q0]; decide), if_neg (by omega), if_neg (by rw [q2]; decide)]) (by split <;> omega)) (fun q0 q1 q2 q3 q4 => next (100000) (0) _ _ _ rfl rfl rfl (by first | (exfalso; omega) | rw [if_neg (by rw [q0]; decide), if_neg (by omega), if_neg (by rw [q2]; decide)]) (by split <;> omega))
    refine zb_Model_canStay_22 hK rd lm _ (f + j) p l6 l7 l8 c6 c7 c8 j1 j2 j3 j4.1.1 j5 (by omega) (by omega) (fun z => absurd z (by omega)) (fun _ z => ?_) (fun _ z => ?_)
    · cases j with
      | zero => exact absurd rfl z
      | succ i =>
        exact lp_cs54 (v := v) (w := w) (rd := rd) (ex := ex) hK c8 hlm (zRH_same u1 hH0) hj (by omega) (fun q hq _ => u2 i rfl q hq) fin np 0 (by omega)
    · have : j = 0 := by omega
      subst this
      exact zb_Model_canStay_54 (v1 := 0) (w1 := 0) (mv := D (f + 0) 0 p) (sx := 0) hK rd lm _ (f + 0) p 0 0 l8 c8 j1 j2 j3 j4.1.1 j5 j4.2.1 j4.2.2.1 (by omega) (by omega) (by omega) (by omega) (fun z => absurd z (by omega)) (fun z => absurd z (by omega)) (by decide) (fun _ => j4.2.2.2.1 (f + 0) (by omega) 0 p (by omega) (by omega)) (j4.2.2.2.2.1 _ _ _) (fun z => absurd z.2 (by omega)) (by omega) (fun z => absurd z (by omega)) (fun _ _ => fin 0) (fun _ z => absurd z (by omega)) (fun _ z => absurd z (by omega)) (fun _ z => absurd z (by omega)) (fun _ z => absurd z (by omega))
theorem lp_cs8 {M0 : Nat → Nat → Int32} (hK : zKok K) (hlm : lm ≤ 99) (hH0 : zRH M0 f g np m pc D S v w rd ex) (kk : ∀ M, (∀ c, c ≠ 91 → M c = M0 c) → F (some (.int (nI (zkc np pc D S f rd ex lm (g - f) np).toNat))) (X, b, zLay, K, B, M)) : ∀ (k j : Nat) (M : Nat → Nat → Int32) (l5 l6 l7 l8 : Value), l5.category = 1 → l6.category = 1 → l7.category = 1 → l8.category = 1 → f + j + k = g + 1 → (∀ c, c ≠ 91 → M c = M0 c) → (∀ i, j = i + 1 → ∀ q, q < np → M 91 (10 * (f + i) + q) = nI (zeF (zkV np pc D S f rd ex lm i q))) → ∀ c3 : Nat, (j = 0 ∧ c3 = 0 ∨ ∃ i, j = i + 1 ∧ c3 = (zkc np pc D S f rd ex lm i np).toNat) → zEx (zCall (d + 5)) 10 false 2 zc_Model_canStay F 8 [.ref 71, .int (nI rd), .int (nI lm), .int (nI c3), .int (nI (f + j)), l5, l6, l7, l8] [] (X, b, zLay, K, B, M) := by
  have tn : ∀ x : Bool, x.toNat ≤ 1 := fun x => by cases x <;> decide
  have b01 : ∀ x : Bool, nI x.toNat = 0 ∨ nI x.toNat = 1 := fun x => by cases x <;> decide
  intro k
  induction k with
  | zero =>
    intro j M l5 l6 l7 l8 c5 c6 c7 c8 hj u1 u2 c3 hc3
    obtain ⟨j1, j2, j3, -⟩ := zRH_same u1 hH0
    rcases hc3 with ⟨z, -⟩ | ⟨i, hi, rfl⟩
    · omega
    · have hi2 : i = g - f := by omega
      subst hi2
      exact zb_Model_canStay_8 rd lm _ (f + j) l5 l6 l7 l8 c5 c6 c7 c8 j1 j2 j3 (by omega) (tn _) (fun _ => b01 _) (fun _ => kk M u1) (fun z => absurd z (by omega))
  | succ k ih =>
    intro j M l5 l6 l7 l8 c5 c6 c7 c8 hj u1 u2 c3 hc3
    have hH := zRH_same u1 hH0
    obtain ⟨j1, j2, j3, -⟩ := zRH_same u1 hH0
    have c31 : c3 ≤ 1 := by
      rcases hc3 with ⟨-, z⟩ | ⟨i, -, z⟩
      · omega
      · rw [z]; exact tn _
    refine zb_Model_canStay_8 rd lm c3 (f + j) l5 l6 l7 l8 c5 c6 c7 c8 j1 j2 j3 (by omega) c31 (fun z => absurd z (by omega)) (fun z => absurd z (by omega)) (fun _ => ?_)
    refine lp_cs22 hK hlm hH (by omega) (fun M1 l6 l7 l8 c6 c7 c8 v1 v2 => ?_) np 0 M l6 l7 l8 c6 c7 c8 (by omega) (fun _ _ => rfl) u2 (fun q hq => absurd hq (Nat.not_lt_zero q))
    refine ih (j + 1) M1 _ l6 l7 l8 rfl c6 c7 c8 (by omega) (fun c hc => by rw [v1 c hc]; exact u1 c hc) (fun i hi => ?_) _ (Or.inr ⟨j, rfl, rfl⟩)
    have : i = j := by omega
    subst this
    exact v2
theorem sp_csR (hK : zKok K) (hlm : lm ≤ 99) (hH : zRH M f g np m pc D S v w rd ex) (kk : ∀ M', (∀ c, c ≠ 91 → M' c = M c) → F (some (.int (nI (zkc np pc D S f rd ex lm (g - f) np).toNat))) (X, b, zLay, K, B, M')) : zCall (d + 6) zm_Model_canStay [.ref 71, .int (nI rd), .int (nI lm)] (X, b, zLay, K, B, M) F := by
  refine zb_Model_canStay_0 rd lm hH.1 hH.2.1 hH.2.2.1 ?_
  exact lp_cs8 hK hlm hH kk (g - f + 1) 0 M .null .null .null .null rfl rfl rfl rfl (by have := hH.2.2.1; omega) (fun _ _ => rfl) (fun i hi => absurd hi (by omega)) 0 (Or.inl ⟨rfl, rfl⟩)
/-- atLeast -/
def zLst (np pc : Nat) (D : Nat → Nat → Nat → Nat) (S : Nat → Nat) (f rd : Nat) (ex : Nat → Nat → Bool) (j L : Nat) : Prop := L ≤ 60 ∧ zkc np pc D S f rd ex L j np = true ∧ ∀ l, l < L → zkc np pc D S f rd ex l j np = false
theorem lp_alR {M0 : Nat → Nat → Int32} {L : Nat} (hK : zKok K) (hL : zLst np pc D S f rd ex (g - f) L) (hH0 : zRH M0 f g np m pc D S v w rd ex) (kk : ∀ M, (∀ c, c ≠ 91 → M c = M0 c) → F (some (.int (nI L))) (X, b, zLay, K, B, M)) : ∀ (k l : Nat) (M : Nat → Nat → Int32), l + k = L → (∀ c, c ≠ 91 → M c = M0 c) → zEx (zCall (d + 7)) 10 false 1 zc_Model_atLeast F 2 [.ref 71, .int (nI rd), .int (nI l)] [] (X, b, zLay, K, B, M) := by
  obtain ⟨hL1, hL2, hL3⟩ := hL
  intro k
  induction k with
  | zero =>
    intro l M hl u1
    have hl : l = L := by omega
    subst hl
    refine zb_Model_atLeast_2 rd l (by omega) ?_
    refine sp_csR (d := d + 1) hK (by omega) (zRH_same u1 hH0) (fun M1 v1 => ?_)
    rw [hL2]
    exact zb_Model_atLeast_8 rd l _ (by omega) (fun _ => kk M1 (fun c hc => by rw [v1 c hc]; exact u1 c hc)) (fun z => absurd z (by decide))
  | succ k ih =>
    intro l M hl u1
    refine zb_Model_atLeast_2 rd l (by omega) ?_
    refine sp_csR (d := d + 1) hK (by omega) (zRH_same u1 hH0) (fun M1 v1 => ?_)
    rw [hL3 l (by omega)]
    exact zb_Model_atLeast_8 rd l _ (by omega) (fun z => absurd rfl z) (fun _ => ih (l + 1) M1 (by omega) (fun c hc => by rw [v1 c hc]; exact u1 c hc))
theorem sp_alR {L : Nat} (hK : zKok K) (hL : zLst np pc D S f rd ex (g - f) L) (hH : zRH M f g np m pc D S v w rd ex) (kk : ∀ M', (∀ c, c ≠ 91 → M' c = M c) → F (some (.int (nI L))) (X, b, zLay, K, B, M')) : zCall (d + 8) zm_Model_atLeast [.ref 71, .int (nI rd)] (X, b, zLay, K, B, M) F :=
  zb_Model_atLeast_0 rd (lp_alR hK hL hH kk L 0 M (by omega) (fun _ _ => rfl))
end SR
section SL
variable {d : Nat} {F : Option Value → zS → Prop} {X : zX} {b : Nat × Nat} {K : Nat → Nat → Option Nat} {B : Nat → Nat → Int64} {M : Nat → Nat → Int32} {A : Nat → Int32} {np nw ns pc m : Nat} {D : Nat → Nat → Nat → Nat} {S : Nat → Nat} {f g rd : Nat} {ex : Nat → Nat → Bool}
theorem zkc_up {L j l : Nat} (h : zkc np pc D S f rd ex L j np = true) (hl : L ≤ l) (h9 : l ≤ 9000) : zkc np pc D S f rd ex l j np = true := by
  have : ∀ k, L + k ≤ 9000 → zkc np pc D S f rd ex (L + k) j np = true := by
    intro k
    induction k with
    | zero => intro _; exact h
    | succ k ih => intro hk; exact zkc_mono (lm := L + k) (by omega) (ih (by omega))
  have e := this (l - L) (by omega)
  rw [show L + (l - L) = l by omega] at e
  exact e
def zh2 : Nat → Nat
  | 0 => 0
  | k + 1 => 2 ^ k
theorem zh2_2 (i : Nat) : zh2 (i + 2) = 2 * zh2 (i + 1) := by
  show 2 ^ (i + 1) = 2 * 2 ^ i
  rw [Nat.pow_succ, Nat.mul_comm]
theorem zh2_1 (i : Nat) : zh2 (i + 1) / 2 = zh2 i := by
  cases i with
  | zero => rfl
  | succ i => rw [zh2_2]; omega
theorem zh2_p (i : Nat) : 0 < zh2 (i + 1) := Nat.pow_pos (by decide)
def zCH (A : Nat → Int32) (M : Nat → Nat → Int32) (f g np nw ns m pc : Nat) (D : Nat → Nat → Nat → Nat) (S : Nat → Nat) (rd : Nat) (ex : Nat → Nat → Bool) (xv : Nat → Nat) : Prop := zKx A M np nw ns pc m D ∧ M 41 1 = nI f ∧ M 41 2 = nI g ∧ (f ≤ g ∧ g < 60) ∧ (∀ e, S e < 1024) ∧ (∀ e, e < 60 → M 43 e = nI (S e)) ∧ M 51 3 = nI rd ∧ rd < 1024 ∧ (∀ e, f ≤ e → e ≤ g → M 52 e = nI (xv e)) ∧ (∀ e, xv e < 1024) ∧ (∀ e p, f ≤ e → e ≤ g → (S e).testBit p = true → (xv e).testBit p = ex e p)
theorem zCH_same {M2 : Nat → Nat → Int32} {xv : Nat → Nat} (h : ∀ c, c ≠ 53 → c ≠ 54 → M2 c = M c) (j : zCH A M f g np nw ns m pc D S rd ex xv) : zCH A M2 f g np nw ns m pc D S rd ex xv := by
  obtain ⟨j1, j2, j3, j4, j5, j6, j7, j8, j9, j10⟩ := j
  exact ⟨zKx_same (fun c hc => h c (by omega) (by omega)) j1, by rw [h 41 (by decide) (by decide)]; exact j2, by rw [h 41 (by decide) (by decide)]; exact j3, j4, j5, by rw [h 43 (by decide) (by decide)]; exact j6, by rw [h 51 (by decide) (by decide)]; exact j7, j8, by rw [h 52 (by decide) (by decide)]; exact j9, j10⟩
theorem lp_alC {M0 : Nat → Nat → Int32} {L : Nat} {xv : Nat → Nat} (hL : zLst np pc D S f rd ex (g - f) L) (hH0 : zCH A M0 f g np nw ns m pc D S rd ex xv) (kk : ∀ K M, zKok K → zSw K → (∀ c, c ≠ 53 → c ≠ 54 → M c = M0 c) → F (some (.int (nI L))) (X, b, zLay, K, B, M)) : ∀ (i l : Nat) (K : Nat → Nat → Option Nat) (M : Nat → Nat → Int32), zKok K → zSw K → i ≤ 6 → l ≤ L → L < l + zh2 (i + 1) → l + zh2 (i + 1) ≤ 64 → (∀ c, c ≠ 53 → c ≠ 54 → M c = M0 c) → zEx (zCall (d + 9)) 7 false 1 zc_Stays_atLeast F 5 [.ref 51, .int (nI l), .int (nI (zh2 i))] [] (X, b, zLay, K, B, M) := by
  obtain ⟨hL1, hL2, hL3⟩ := hL
  intro i
  induction i with
  | zero =>
    intro l K M hK hSw hi h1 h2 h3 u1
    have : zh2 (0 + 1) = 1 := rfl
    have hl : l = L := by omega
    subst hl
    exact zb_Stays_atLeast_5 l 0 (by omega) (by omega) (fun _ => kk K M hK hSw u1) (fun z => absurd z (by omega))
  | succ i ih =>
    intro l K M hK hSw hi h1 h2 h3 u1
    rw [zh2_2] at h2 h3
    have hp := zh2_p i
    refine zb_Stays_atLeast_5 l (zh2 (i + 1)) (by omega) (by omega) (fun z => absurd z (by omega)) (fun _ => ?_)
    obtain ⟨j1, j2, j3, j4, j5, j6, j7, j8, j9, j10, j11⟩ := zCH_same u1 hH0
    refine sp_ckC (d := d + 1) (rd := rd) (ex := ex) hK hSw (by omega) j1 j2 j3 j4 j5 j6 j7 j8 j9 j10 j11 (fun K1 M1 k1 s1 v1 => ?_)
    have u2 : ∀ c, c ≠ 53 → c ≠ 54 → M1 c = M0 c := fun c c1 c2 => by rw [v1 c c1 c2]; exact u1 c c1 c2
    by_cases q : L ≤ l + zh2 (i + 1) - 1
    · rw [zkc_up hL2 q (by omega)]
      refine zb_Stays_atLeast_18 l (zh2 (i + 1)) _ (by omega) (by omega) (fun _ => ?_) (fun z => absurd z (by decide))
      rw [zh2_1]
      exact ih l K1 M1 k1 s1 (by omega) h1 (by omega) (by omega) u2
    · rw [hL3 _ (by omega)]
      refine zb_Stays_atLeast_18 l (zh2 (i + 1)) _ (by omega) (by omega) (fun z => absurd rfl z) (fun _ => ?_)
      rw [zh2_1]
      exact ih (l + zh2 (i + 1)) K1 M1 k1 s1 (by omega) (by omega) (by omega) (by omega) u2
theorem sp_alC {L : Nat} {xv : Nat → Nat} (hK : zKok K) (hSw : zSw K) (hL : zLst np pc D S f rd ex (g - f) L) (hH : zCH A M f g np nw ns m pc D S rd ex xv) (kk : ∀ K' M', zKok K' → zSw K' → (∀ c, c ≠ 53 → c ≠ 54 → M' c = M c) → F (some (.int (nI L))) (X, b, zLay, K', B, M')) : zCall (d + 10) zm_Stays_atLeast [.ref 51] (X, b, zLay, K, B, M) F :=
  zb_Stays_atLeast_0 (lp_alC hL hH kk 6 0 K M hK hSw (by omega) (Nat.zero_le _) (by have := hL.1; show L < 0 + 64; omega) (Nat.le_refl _) (fun _ _ _ => rfl))
/-- a least limit there is -/
theorem zLst_ex (hst : ∀ d p, f ≤ d → d < g → (S (d + 1)).testBit p = true → ∃ q, q < np ∧ (S d).testBit q = true ∧ D (d + 1) q p ≤ pc) (hfg : f ≤ g ∧ g < 60) (hne : ∃ p, p < np ∧ (S g).testBit p = true) : ∃ L, zLst np pc D S f rd ex (g - f) L := by
  obtain ⟨p, hp1, hp2⟩ := hne
  have e := zkV_60 (np := np) (pc := pc) (D := D) (S := S) (f := f) (rd := rd) (ex := ex) (g := g) (by omega) hst (g - f) p (by omega) (by rw [show f + (g - f) = g by omega]; exact hp2)
  have h60 : zkc np pc D S f rd ex 60 (g - f) np = true := zkc_iff.mpr ⟨p, hp1, by omega⟩
  obtain ⟨L, h1, h2, h3⟩ := zleast (fun l => zkc np pc D S f rd ex l (g - f) np) 60 h60
  exact ⟨L, h1, h2, h3⟩
end SL
