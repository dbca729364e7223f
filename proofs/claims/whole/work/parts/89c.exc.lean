/-! ===== excuses: both sides ===== -/
def zxn (A : Nat → Int32) (j : Nat) : Nat := (A j).toNatClampNeg
def zte (A : Nat → Int32) (bt k dy i : Nat) : Bool := decide (zxn A (340 + 4 * i) = bt ∧ zxn A (341 + 4 * i) ≤ dy ∧ dy ≤ zxn A (342 + 4 * i) ∧ zxn A (343 + 4 * i) ≤ k)
def zTo (A : Nat → Int32) (bt k dy : Nat) : Nat → Bool
  | 0 => false
  | i + 1 => zTo A bt k dy i || zte A bt k dy i
def zXa (A : Nat → Int32) (ne : Nat) : Prop := ∀ i, i < ne → (A (340 + 4 * i) = nI (zxn A (340 + 4 * i)) ∧ A (341 + 4 * i) = nI (zxn A (341 + 4 * i)) ∧ A (342 + 4 * i) = nI (zxn A (342 + 4 * i)) ∧ A (343 + 4 * i) = nI (zxn A (343 + 4 * i))) ∧ (zxn A (340 + 4 * i) < 8 ∧ zxn A (341 + 4 * i) < 60 ∧ zxn A (342 + 4 * i) < 60 ∧ zxn A (343 + 4 * i) < 60)
theorem zxn_n {A : Nat → Int32} {j x : Nat} (h : A j = nI x) (hx : x < 1000) : zxn A j = x := by
  unfold zxn
  rw [h, nI_clamp (by omega)]
theorem zIn_xa {M : Nat → Nat → Int32} {n n' : Nat → Nat} (h : zIn M n n') : zXa (M 72) (n 6) ∧ ∀ i, i < n 6 → M 18 i = nI (zxn (M 72) (340 + 4 * i)) ∧ M 19 i = nI (zxn (M 72) (341 + 4 * i)) ∧ M 20 i = nI (zxn (M 72) (342 + 4 * i)) ∧ M 21 i = nI (zxn (M 72) (343 + 4 * i)) := by
  have hb := h.1.2
  obtain ⟨-, -, -, -, -, ⟨-, -, -, -, r6⟩, -⟩ := h
  have g : zXa (M 72) (n 6) := fun i hi => by
    obtain ⟨-, -, -, -, b, f, t, p, h1, h2, h3, h4, e1, e2, e3, e4⟩ := r6 i hi
    rw [zxn_n e1 (by omega), zxn_n e2 (by omega), zxn_n e3 (by omega), zxn_n e4 (by omega)]
    exact ⟨⟨e1, e2, e3, e4⟩, by omega, by omega, by omega, by omega⟩
  refine ⟨g, fun i hi => ?_⟩
  obtain ⟨a1, a2, a3, a4, -⟩ := r6 i hi
  obtain ⟨⟨g1, g2, g3, g4⟩, -⟩ := g i hi
  exact ⟨a1.trans g1, a2.trans g2, a3.trans g3, a4.trans g4⟩
theorem zTo_t {A : Nat → Int32} {bt k dy i : Nat} (h : zte A bt k dy i = true) : ∀ {ne : Nat}, i < ne → zTo A bt k dy ne = true := by
  intro ne
  induction ne with
  | zero => intro q; exact absurd q (Nat.not_lt_zero _)
  | succ ne ih =>
    intro q
    show (zTo A bt k dy ne || zte A bt k dy ne) = true
    by_cases e : i = ne
    · rw [← e, h, Bool.or_true]
    · rw [ih (by omega), Bool.true_or]
def zxC (A : Nat → Int32) (cl : Nat → Option (List (Nat × Nat))) (dy p : Nat) : Bool := match cl 2 with
  | none => false
  | some c => decide (zval (znme p (zpa A p) 0 0 0 dy 0) c ≠ 0)
def zex (A : Nat → Int32) (bt k ne : Nat) (cl : Nat → Option (List (Nat × Nat))) (dy p : Nat) : Bool := zTo A bt k dy ne || zxC A cl dy p
def zxv (A : Nat → Int32) (bt k ne np : Nat) (S : Nat → Nat) (cl : Nat → Option (List (Nat × Nat))) (dy : Nat) : Nat := bif zTo A bt k dy ne then S dy else zsb (fun p => (S dy).testBit p && zxC A cl dy p) np
section EX
variable {d : Nat} {F : Option Value → zS → Prop} {X : zX} {b : Nat × Nat} {K : Nat → Nat → Option Nat} {B : Nat → Nat → Int64} {A : Nat → Int32} {n : Nat → Nat} {tx bt k ne np dy : Nat} {cl : Nat → Option (List (Nat × Nat))} {ru : Int32} {S : Nat → Nat}
theorem lp_isx {M : Nat → Nat → Int32} (hK : zKok K) (h1 : M 13 10 = nI ne) (h2 : ne ≤ 20) (hA : zXa A ne) (hc : ∀ i, i < ne → M 18 i = nI (zxn A (340 + 4 * i)) ∧ M 19 i = nI (zxn A (341 + 4 * i)) ∧ M 20 i = nI (zxn A (342 + 4 * i)) ∧ M 21 i = nI (zxn A (343 + 4 * i))) (hb : bt < 8) (hd : dy < 60) (hk : k < 60) (kk : F (some (.int (zbi (zTo A bt k dy ne)))) (X, b, zLay, K, B, M)) : ∀ (q i : Nat) (l5 : Value), l5.category = 1 → i + q = ne → zTo A bt k dy i = false → zEx (zCall d) 5 false 2 zc_Logbook_isExcused F 3 [.ref 13, .int (nI bt), .int (nI dy), .int (nI k), .int (nI i), l5] [] (X, b, zLay, K, B, M) := by
  intro q
  induction q with
  | zero =>
    intro i l5 c5 hi e
    have hi : i = ne := by omega
    subst hi
    rw [e] at kk
    exact zb_Logbook_isExcused_3 (eb := 0) (ef := 0) (et := 0) (ep := 0) hK bt dy k i l5 c5 h1 h2 hb hd hk (Nat.le_refl _) (fun z => absurd z (by omega)) (by omega) (fun _ => kk) (fun z => absurd z (by omega)) (fun z => absurd z (by omega)) (fun z => absurd z (by omega)) (fun z => absurd z (by omega)) (fun z => absurd z (by omega)) (fun z => absurd z (by omega)) (fun z => absurd z (by omega))
  | succ q ih =>
    intro i l5 c5 hi e
    obtain ⟨-, g2⟩ := hA i (by omega)
    have st : zTo A bt k dy (i + 1) = (zTo A bt k dy i || zte A bt k dy i) := rfl
    rw [e, Bool.false_or] at st
    have no : ¬ (zxn A (340 + 4 * i) = bt ∧ zxn A (341 + 4 * i) ≤ dy ∧ dy ≤ zxn A (342 + 4 * i) ∧ zxn A (343 + 4 * i) ≤ k) → ∀ l5 : Int32, zEx (zCall d) 5 false 2 zc_Logbook_isExcused F 3 [.ref 13, .int (nI bt), .int (nI dy), .int (nI k), .int (nI (i + 1)), .int l5] [] (X, b, zLay, K, B, M) := fun z l5 => ih (i + 1) _ rfl (by omega) (by rw [st]; exact decide_eq_false z)
    refine zb_Logbook_isExcused_3 hK bt dy k i l5 c5 h1 h2 hb hd hk (by omega) (fun _ => hc i (by omega)) g2 (fun z => absurd z (by omega)) (fun _ _ _ => no (by omega) _) (fun _ _ _ => no (by omega) _) (fun _ _ _ _ => no (by omega) _) (fun _ _ _ _ => no (by omega) _) (fun _ _ _ _ => no (by omega) _) (fun _ _ _ _ _ => no (by omega) _) (fun _ y1 y2 y3 y4 => ?_)
    rw [zTo_t (i := i) (decide_eq_true ⟨y3, y1, y2, y4⟩) (by omega)] at kk
    exact kk
theorem sp_isx {M : Nat → Nat → Int32} (hK : zKok K) (h1 : M 13 10 = nI ne) (h2 : ne ≤ 20) (hA : zXa A ne) (hc : ∀ i, i < ne → M 18 i = nI (zxn A (340 + 4 * i)) ∧ M 19 i = nI (zxn A (341 + 4 * i)) ∧ M 20 i = nI (zxn A (342 + 4 * i)) ∧ M 21 i = nI (zxn A (343 + 4 * i))) (hb : bt < 8) (hd : dy < 60) (hk : k < 60) (kk : F (some (.int (zbi (zTo A bt k dy ne)))) (X, b, zLay, K, B, M)) : zCall (d + 1) zm_Logbook_isExcused [.ref 13, .int (nI bt), .int (nI dy), .int (nI k)] (X, b, zLay, K, B, M) F :=
  zb_Logbook_isExcused_0 bt dy k (lp_isx hK h1 h2 hA hc hb hd hk kk ne 0 .null rfl (by omega) rfl)
theorem znmx_b {h : Nat} (hh : h < 10) (hp : zpa A h < 10) (hd : dy < 60) : ∀ j, j < 7 → (zmsk 2).testBit j = true → -1000000 ≤ znme h (zpa A h) 0 0 0 dy 0 j ∧ znme h (zpa A h) 0 0 0 dy 0 j ≤ 1000000 := by
  intro j hj _
  have z : j = 0 ∨ j = 1 ∨ j = 2 ∨ j = 3 ∨ j = 4 ∨ j = 5 ∨ j = 6 := by omega
  rcases z with rfl | rfl | rfl | rfl | rfl | rfl | rfl <;> (unfold znme; simp only; omega)
theorem lp_plx {M0 : Nat → Nat → Int32} {s : Nat} (hK : zKok K) (hnp : M0 1 1 = nI np) (hb : np ≤ 10) (hpa : ∀ p, p < np → M0 2 p = nI (zpa A p)) (hp9 : ∀ p, p < np → zpa A p < 10) (hRc : zRc M0 tx cl) (hs : s < 1024) (hd : dy < 60) (kk : ∀ M, (∀ c, c ≠ 39 → c ≠ 40 → M c = M0 c) → F (some (.int (nI (zsb (fun p => s.testBit p && zxC A cl dy p) np)))) (X, b, zLay, K, B, M)) : ∀ (q j : Nat) (M : Nat → Nat → Int32), j + q = np → (∀ c, c ≠ 39 → c ≠ 40 → M c = M0 c) → zEx (zCall (d + 7)) 3 false 1 zc_Judge_placesExcused F 6 [.ref 38, .ref tx, .int (nI s), .int (nI dy), .int (nI (zsb (fun p => s.testBit p && zxC A cl dy p) j)), .int (nI j)] [] (X, b, zLay, K, B, M) := by
  have l3 : ∀ j, j ≤ np → zsb (fun p => s.testBit p && zxC A cl dy p) j < 1024 := fun j hj => zsb_lt10 _ (by omega)
  intro q
  induction q with
  | zero =>
    intro j M hj u1
    have hj : j = np := by omega
    subst hj
    exact zb_Judge_placesExcused_6 hK s dy _ j (zRc_tx hRc) (zRc_same (fun c hc => u1 c (by unfold zIk at hc; omega) (by unfold zIk at hc; omega)) hRc) (by rw [u1 1 (by decide) (by decide)]; exact hnp) hb (by rw [u1 2 (by decide) (by decide)]; exact hpa) hp9 hs (Nat.le_refl _) (l3 _ (Nat.le_refl _)) (fun _ => kk M u1) (fun z => absurd z (by omega)) (fun z => absurd z (by omega)) (fun z => absurd z (by omega))
  | succ q ih =>
    intro j M hj u1
    have hR1 : zRc M tx cl := zRc_same (fun c hc => u1 c (by unfold zIk at hc; omega) (by unfold zIk at hc; omega)) hRc
    have st : zsb (fun p => s.testBit p && zxC A cl dy p) (j + 1) = zsb (fun p => s.testBit p && zxC A cl dy p) j ||| (bif (s.testBit j && zxC A cl dy j) then 2 ^ j else 0) := rfl
    refine zb_Judge_placesExcused_6 hK s dy _ j (zRc_tx hRc) hR1 (by rw [u1 1 (by decide) (by decide)]; exact hnp) hb (by rw [u1 2 (by decide) (by decide)]; exact hpa) hp9 hs (by omega) (l3 _ (by omega)) (fun z => absurd z (by omega)) (fun _ z => ?_) (fun _ z z2 => ?_) (fun _ z z2 => ?_)
    · have e0 : cl 2 = none := by
        cases e : cl 2 with
        | none => rfl
        | some c => rw [e] at z; exact absurd rfl z
      have ef : ∀ t, (s.testBit t && zxC A cl dy t) = false := fun t => by unfold zxC; rw [e0]; exact Bool.and_false _
      have e := kk M u1
      rw [zsb_none (fun t _ => ef t)] at e
      rw [zsb_none (fun t _ => ef t)]
      exact e
    · cases e0 : cl 2 with
      | none => rw [e0] at z; cases z
      | some c =>
      refine sp_valC (d := d + 3) (nm := znme j (zpa A j) 0 0 0 dy 0) (w := 2) hK (zRc_same (fun c hc => ?_) hR1) (by decide) e0 (fun i hi hm => ⟨?_, znmx_b (by omega) (hp9 j (by omega)) hd i hi hm⟩) (fun v M2 v1 v2 => ?_)
      · have : c ≠ 39 := by unfold zIk at hc; omega
        simp [zu, this]
      · have y : i = 0 ∨ i = 1 ∨ i = 2 ∨ i = 3 ∨ i = 4 ∨ i = 5 ∨ i = 6 := by omega
        rcases y with rfl | rfl | rfl | rfl | rfl | rfl | rfl
        · exact nI_toInt (by omega)
        · exact nI_toInt (by have := hp9 j (by omega); omega)
        · exact absurd hm (by decide)
        · exact absurd hm (by decide)
        · exact absurd hm (by decide)
        · exact nI_toInt (by omega)
        · exact absurd hm (by decide)
      · have w1 : ∀ c, c ≠ 39 → c ≠ 40 → M2 c = M0 c := fun c h1 h2 => by
          rw [v1 c h2, zu_oc h1, zu_oc h1, zu_oc h1]
          exact u1 c h1 h2
        have e := ih (j + 1) M2 (by omega) w1
        have rn : zxC A cl dy j = decide (zval (znme j (zpa A j) 0 0 0 dy 0) c ≠ 0) := by unfold zxC; rw [e0]
        refine zb_Judge_placesExcused_57 s dy _ j v (by omega) (l3 j (by omega)) (fun y => ?_) (fun y => ?_)
        · rw [zeq, zl0, v2] at y
          rw [rn, decide_eq_false (by rw [y]; decide), Bool.and_false, cond_false, Nat.or_zero] at st
          rw [st] at e
          exact e
        · rw [zeq, zl0, v2] at y
          rw [rn, decide_eq_true y, z2, Bool.and_self, cond_true] at st
          rw [st] at e
          exact e
    · have e := ih (j + 1) M (by omega) u1
      rw [Bool.eq_false_iff.mpr z2, Bool.false_and, cond_false, Nat.or_zero] at st
      rw [st] at e
      exact e
theorem sp_plx {M : Nat → Nat → Int32} {s : Nat} (hK : zKok K) (hnp : M 1 1 = nI np) (hb : np ≤ 10) (hpa : ∀ p, p < np → M 2 p = nI (zpa A p)) (hp9 : ∀ p, p < np → zpa A p < 10) (hRc : zRc M tx cl) (hs : s < 1024) (hd : dy < 60) (kk : ∀ M', (∀ c, c ≠ 39 → c ≠ 40 → M' c = M c) → F (some (.int (nI (zsb (fun p => s.testBit p && zxC A cl dy p) np)))) (X, b, zLay, K, B, M')) : zCall (d + 8) zm_Judge_placesExcused [.ref 38, .ref tx, .int (nI s), .int (nI dy)] (X, b, zLay, K, B, M) F :=
  zb_Judge_placesExcused_0 s dy (lp_plx hK hnp hb hpa hp9 hRc hs hd kk np 0 M (by omega) (fun _ _ _ => rfl))
/-- what prepareStays needs -/
def zPh (A : Nat → Int32) (M : Nat → Nat → Int32) (ne np tx : Nat) (cl : Nat → Option (List (Nat × Nat))) : Prop := (M 13 10 = nI ne ∧ ne ≤ 20 ∧ zXa A ne ∧ ∀ i, i < ne → M 18 i = nI (zxn A (340 + 4 * i)) ∧ M 19 i = nI (zxn A (341 + 4 * i)) ∧ M 20 i = nI (zxn A (342 + 4 * i)) ∧ M 21 i = nI (zxn A (343 + 4 * i))) ∧ M 1 1 = nI np ∧ np ≤ 10 ∧ (∀ p, p < np → M 2 p = nI (zpa A p)) ∧ (∀ p, p < np → zpa A p < 10) ∧ zRc M tx cl
theorem zPh_same {M M2 : Nat → Nat → Int32} (h : ∀ c, c ≤ 21 ∨ zIk c → M2 c = M c) (k : zPh A M ne np tx cl) : zPh A M2 ne np tx cl := by
  obtain ⟨⟨k1, k2, k3, k4⟩, k5, k6, k7, k8, k9⟩ := k
  refine ⟨⟨by rw [h 13 (by omega)]; exact k1, k2, k3, by rw [h 18 (by omega), h 19 (by omega), h 20 (by omega), h 21 (by omega)]; exact k4⟩, by rw [h 1 (by omega)]; exact k5, k6, by rw [h 2 (by omega)]; exact k7, k8, zRc_same (fun c hc => h c (Or.inr hc)) k9⟩
theorem zxv_lt (hS : ∀ e, S e < 1024) (hb : np ≤ 10) : zxv A bt k ne np S cl dy < 1024 := by
  unfold zxv
  cases zTo A bt k dy ne
  · exact zsb_lt10 _ hb
  · exact hS dy
theorem zxv_ex {p : Nat} (hp : p < np) (h : (S dy).testBit p = true) : (zxv A bt k ne np S cl dy).testBit p = zex A bt k ne cl dy p := by
  unfold zxv zex
  cases zTo A bt k dy ne
  · rw [cond_false, Bool.false_or, zsb_bit, h, Bool.true_and, decide_eq_true hp, Bool.true_and]
  · rw [cond_true, h, Bool.true_or]
theorem lp_prs {M0 : Nat → Nat → Int32} {f g : Nat} (hK : zKok K) (hf : M0 41 1 = nI f) (hg : M0 41 2 = nI g) (hfg : f ≤ g ∧ g < 60) (h43 : ∀ e, e < 60 → M0 43 e = nI (S e)) (hS : ∀ e, S e < 1024) (hP : zPh A M0 ne np tx cl) (hb : bt < 8) (hk : k < 60) (kk : ∀ M, (∀ c, c ≠ 39 → c ≠ 40 → c ≠ 52 → M c = M0 c) → (∀ e, f ≤ e → e ≤ g → M 52 e = nI (zxv A bt k ne np S cl e)) → F none (X, b, zLay, K, B, M)) : ∀ (q dd : Nat) (M : Nat → Nat → Int32), dd + q = g + 1 → f ≤ dd → (∀ c, c ≠ 39 → c ≠ 40 → c ≠ 52 → M c = M0 c) → (∀ e, f ≤ e → e < dd → M 52 e = nI (zxv A bt k ne np S cl e)) → zEx (zCall (d + 9)) 9 false 0 zc_Boats_prepareStays F 9 [.ref 0, .int (nI bt), .ref tx, .int (nI k), .int (nI dd)] [] (X, b, zLay, K, B, M) := by
  have go : ∀ M, (∀ c, c ≠ 39 → c ≠ 40 → c ≠ 52 → M c = M0 c) → M 41 1 = nI f ∧ M 41 2 = nI g ∧ (∀ e, e < 60 → M 43 e = nI (S e)) ∧ zPh A M ne np tx cl := fun M u => ⟨by rw [u 41 (by decide) (by decide) (by decide)]; exact hf, by rw [u 41 (by decide) (by decide) (by decide)]; exact hg, by rw [u 43 (by decide) (by decide) (by decide)]; exact h43, zPh_same (fun c hc => by unfold zIk at hc; exact u c (by omega) (by omega) (by omega)) hP⟩
  intro q
  induction q with
  | zero =>
    intro dd M hd hd2 u1 u2
    obtain ⟨g1, g2, g3, g4⟩ := go M u1
    exact zb_Boats_prepareStays_9 hK bt k dd g1 g2 hfg (by omega) (fun _ => kk M u1 (fun e h1 h2 => u2 e h1 (by omega))) (fun z => absurd z (by omega))
  | succ q ih =>
    intro dd M hd hd2 u1 u2
    obtain ⟨g1, g2, g3, g4⟩ := go M u1
    refine zb_Boats_prepareStays_9 hK bt k dd g1 g2 hfg (by omega) (fun z => absurd z (by omega)) (fun _ => ?_)
    refine sp_isx (d := d + 8) hK g4.1.1 g4.1.2.1 g4.1.2.2.1 g4.1.2.2.2 hb (by omega) hk ?_
    refine zb_Boats_prepareStays_32 hK bt k dd _ (by omega) (g3 dd (by omega)) (fun y => ?_) (fun y => ?_)
    · have e0 : zTo A bt k dd ne = false := by
        cases e : zTo A bt k dd ne with
        | false => rfl
        | true => rw [e] at y; exact absurd y (by decide)
      refine sp_plx (d := d + 1) hK g4.2.1 g4.2.2.1 g4.2.2.2.1 g4.2.2.2.2.1 g4.2.2.2.2.2 (hS dd) (by omega) (fun M2 v2 => ?_)
      refine zb_Boats_prepareStays_87 bt k dd _ dd (by omega) rfl ?_
      refine ih (dd + 1) _ (by omega) (by omega) (fun c c1 c2 c3 => by rw [zu_oc c3, v2 c c1 c2]; exact u1 c c1 c2 c3) (fun e h1 h2 => ?_)
      rw [zu_at]
      by_cases q : e = dd
      · rw [if_pos (by rw [q]), q]
        unfold zxv
        rw [e0, cond_false]
      · rw [if_neg (by omega), v2 52 (by decide) (by decide)]
        exact u2 e h1 (by omega)
    · have e0 : zTo A bt k dd ne = true := by
        cases e : zTo A bt k dd ne with
        | false => rw [e] at y; exact absurd rfl y
        | true => rfl
      refine ih (dd + 1) _ (by omega) (by omega) (fun c c1 c2 c3 => by rw [zu_oc c3]; exact u1 c c1 c2 c3) (fun e h1 h2 => ?_)
      rw [zu_at]
      by_cases q : e = dd
      · rw [if_pos (by rw [q]), q]
        unfold zxv
        rw [e0, cond_true]
      · rw [if_neg (by omega)]
        exact u2 e h1 (by omega)
theorem sp_prs {M : Nat → Nat → Int32} {f g : Nat} (hK : zKok K) (hf : M 41 1 = nI f) (hg : M 41 2 = nI g) (hfg : f ≤ g ∧ g < 60) (h43 : ∀ e, e < 60 → M 43 e = nI (S e)) (hS : ∀ e, S e < 1024) (hP : zPh A M ne np tx cl) (hb : bt < 8) (hk : k < 60) (kk : ∀ M', (∀ c, c ≠ 39 → c ≠ 40 → c ≠ 52 → M' c = M c) → (∀ e, f ≤ e → e ≤ g → M' 52 e = nI (zxv A bt k ne np S cl e)) → F none (X, b, zLay, K, B, M')) : zCall (d + 10) zm_Boats_prepareStays [.ref 0, .int (nI bt), .ref tx, .int (nI k)] (X, b, zLay, K, B, M) F :=
  zb_Boats_prepareStays_0 hK bt k hf hg hfg (lp_prs hK hf hg hfg h43 hS hP hb hk kk (g + 1 - f) f M (by omega) (Nat.le_refl _) (fun _ _ _ _ => rfl) (fun e h1 h2 => absurd h2 (by omega)))
/-- the reference -/
theorem lp_lx21 {M : Nat → Nat → Int32} (hK : zKok K) (h1 : M 72 6 = nI ne) (h2 : ne ≤ 20) (hA : zXa (M 72) ne) (hb : bt < 8) (hd : dy < 60) (hk : k < 60) (kk : ∀ l7 : Value, l7.category = 1 → zEx (zCall (d + 9)) 10 false 0 zc_Model_laysExcused F 114 [.ref 71, .int (nI bt), .int ru, .int (nI k), .int (nI dy), .int (nI (zTo (M 72) bt k dy ne).toNat), .int 0, l7] [] (X, b, zLay, K, B, M)) : ∀ (q i : Nat) (l7 : Value), l7.category = 1 → i + q = ne → zEx (zCall (d + 9)) 10 false 0 zc_Model_laysExcused F 21 [.ref 71, .int (nI bt), .int ru, .int (nI k), .int (nI dy), .int (nI (zTo (M 72) bt k dy i).toNat), .int (nI i), l7] [] (X, b, zLay, K, B, M) := by
  have tn : ∀ x : Bool, x.toNat ≤ 1 := fun x => by cases x <;> decide
  intro q
  induction q with
  | zero =>
    intro i l7 c7 hi
    have hi : i = ne := by omega
    subst hi
    exact zb_Model_laysExcused_21 (eb := 0) (ef := 0) (et := 0) (ep := 0) hK bt ru k dy _ i l7 c7 h1 h2 hb hd hk (tn _) (Nat.le_refl _) (fun z => absurd z (by omega)) (by omega) (fun _ => kk l7 c7) (fun z => absurd z (by omega)) (fun z => absurd z (by omega)) (fun z => absurd z (by omega)) (fun z => absurd z (by omega)) (fun z => absurd z (by omega)) (fun z => absurd z (by omega))
  | succ q ih =>
    intro i l7 c7 hi
    obtain ⟨g1, g2⟩ := hA i (by omega)
    have st : zTo (M 72) bt k dy (i + 1) = (zTo (M 72) bt k dy i || zte (M 72) bt k dy i) := rfl
    have e := ih (i + 1) (.int (nI (340 + 4 * i))) rfl (by omega)
    rw [st] at e
    have no : (zTo (M 72) bt k dy i).toNat = 0 → ¬ (zxn (M 72) (340 + 4 * i) = bt ∧ zxn (M 72) (341 + 4 * i) ≤ dy ∧ dy ≤ zxn (M 72) (342 + 4 * i) ∧ zxn (M 72) (343 + 4 * i) ≤ k) → zEx (zCall (d + 9)) 10 false 0 zc_Model_laysExcused F 21 [.ref 71, .int (nI bt), .int ru, .int (nI k), .int (nI dy), .int 0, .int (nI (i + 1)), .int (nI (340 + 4 * i))] [] (X, b, zLay, K, B, M) := fun y z => by
      have y : zTo (M 72) bt k dy i = false := by
        cases q : zTo (M 72) bt k dy i with
        | false => rfl
        | true => rw [q] at y; exact absurd y (by decide)
      rw [y, show zte (M 72) bt k dy i = false from decide_eq_false z] at e
      exact e
    refine zb_Model_laysExcused_21 hK bt ru k dy _ i l7 c7 h1 h2 hb hd hk (tn _) (by omega) (fun _ => g1) g2 (fun z => absurd z (by omega)) (fun _ y => ?_) (fun _ y _ => no y (by omega)) (fun _ y _ _ => no y (by omega)) (fun _ y _ _ _ => no y (by omega)) (fun _ y _ _ _ _ => no y (by omega)) (fun _ _ y1 y2 y3 y4 => ?_)
    · have y : zTo (M 72) bt k dy i = true := by
        cases q : zTo (M 72) bt k dy i with
        | false => rw [q] at y; exact absurd rfl y
        | true => rfl
      rw [y, Bool.true_or] at e
      exact e
    · rw [show zte (M 72) bt k dy i = true from decide_eq_true ⟨y1, y3, y4, y2⟩, Bool.or_true] at e
      exact e
theorem znar_b (x : Bool) : vp_nar .boolean (nI x.toNat) = zbi x := by cases x <;> rfl
theorem zbid (x : Bool) : zbi (decide (x = true)) = zbi x := by cases x <;> rfl
theorem lp_lx114 {M0 : Nat → Nat → Int32} (hK : zKok K) (h72 : M0 72 = A) (hmp : A 0 = nI np) (hb : np ≤ 10) (hPa : zPa A np) (hRr : zRr M0 ru cl) (hd : dy < 60) (kk : ∀ B' M (l6 l7 : Value), l6.category = 1 → l7.category = 1 → (∀ c, c ≠ 85 → c ≠ 92 → M c = M0 c) → (∀ e p, e ≠ dy → p < np → M 92 (10 * e + p) = M0 92 (10 * e + p)) → (∀ p, p < np → M 92 (10 * dy + p) = zbi (decide (zex A bt k ne cl dy p = true))) → zEx (zCall (d + 9)) 10 false 0 zc_Model_laysExcused F 6 [.ref 71, .int (nI bt), .int ru, .int (nI k), .int (nI (dy + 1)), .int (nI (zTo A bt k dy ne).toNat), l6, l7] [] (X, b, zLay, K, B', M)) : ∀ (q p : Nat) (B : Nat → Nat → Int64) (M : Nat → Nat → Int32) (l7 : Value), l7.category = 1 → p + q = np → (∀ c, c ≠ 85 → c ≠ 92 → M c = M0 c) → (∀ e p, e ≠ dy → p < np → M 92 (10 * e + p) = M0 92 (10 * e + p)) → (∀ x, x < p → M 92 (10 * dy + x) = zbi (decide (zex A bt k ne cl dy x = true))) → zEx (zCall (d + 9)) 10 false 0 zc_Model_laysExcused F 114 [.ref 71, .int (nI bt), .int ru, .int (nI k), .int (nI dy), .int (nI (zTo A bt k dy ne).toNat), .int (nI p), l7] [] (X, b, zLay, K, B, M) := by
  have tn : ∀ x : Bool, x.toNat ≤ 1 := fun x => by cases x <;> decide
  have hp9 := hPa.2
  intro q
  induction q with
  | zero =>
    intro p B M l7 c7 hp u1 u2 u3
    have hp : p = np := by omega
    subst hp
    have e72 : M 72 = A := (u1 72 (by decide) (by decide)).trans h72
    exact zb_Model_laysExcused_114 hK bt ru k dy _ p l7 c7 (zRr_same (fun c _ _ => u1 c (by omega) (by omega)) hRr) (by rw [e72]; exact hmp) hb (by rw [e72]; exact hPa.1) hp9 hd (tn _) (Nat.le_refl _) (fun _ => kk B M _ l7 rfl c7 u1 u2 u3) (fun z => absurd z (by omega)) (fun z => absurd z (by omega)) (fun z => absurd z (by omega))
  | succ q ih =>
    intro p B M l7 c7 hp u1 u2 u3
    have e72 : M 72 = A := (u1 72 (by decide) (by decide)).trans h72
    have hR1 : zRr M ru cl := zRr_same (fun c _ _ => u1 c (by omega) (by omega)) hRr
    have next : ∀ (B2 : Nat → Nat → Int64) (M2 : Nat → Nat → Int32) (v : Int32) (l7 : Value), l7.category = 1 → (∀ c, c ≠ 85 → M2 c = M c) → v = zbi (zex A bt k ne cl dy p) → zEx (zCall (d + 9)) 10 false 0 zc_Model_laysExcused F 114 [.ref 71, .int (nI bt), .int ru, .int (nI k), .int (nI dy), .int (nI (zTo A bt k dy ne).toNat), .int (nI (p + 1)), l7] [] (X, b, zLay, K, B2, zu M2 92 (10 * dy + p) v) := by
      intro B2 M2 v l7 c7 w1 hv
      refine ih (p + 1) B2 _ l7 c7 (by omega) (fun c c1 c2 => by rw [zu_oc c2, w1 c c1]; exact u1 c c1 c2) (fun e x he hx => ?_) (fun x hx => ?_)
      · rw [zu_at, if_neg (by omega), w1 92 (by decide)]
        exact u2 e x he hx
      · rw [zu_at]
        by_cases y : x = p
        · rw [if_pos (by rw [y]), hv, y, zbid]
        · rw [if_neg (by omega), w1 92 (by decide)]
          exact u3 x (by omega)
    refine zb_Model_laysExcused_114 hK bt ru k dy _ p l7 c7 hR1 (by rw [e72]; exact hmp) hb (by rw [e72]; exact hPa.1) hp9 hd (tn _) (by omega) (fun z => absurd z (by omega)) (fun _ y => ?_) (fun _ y y2 => ?_) (fun _ y y2 => ?_)
    · refine next B M _ _ rfl (fun _ _ => rfl) ?_
      rw [znar_b]
      unfold zex
      cases q : zTo A bt k dy ne with
      | false => rw [q] at y; exact absurd rfl y
      | true => rw [Bool.true_or]
    · refine next B M _ _ rfl (fun _ _ => rfl) ?_
      rw [znar_b]
      unfold zex zxC
      cases q : zTo A bt k dy ne with
      | true => rw [q] at y; exact absurd y (by decide)
      | false =>
        cases e0 : cl 2 with
        | none => rfl
        | some c => rw [e0] at y2; exact absurd rfl y2
    · cases e0 : cl 2 with
      | none => rw [e0] at y2; cases y2
      | some c =>
      have nb := znmx_b (A := A) (dy := dy) (h := p) (by omega) (hp9 p (by omega)) hd
      refine sp_saysR (d := d + 3) (nm := znme p (zpa A p) 0 0 0 dy 0) (w := 2) hK (zRr_same (fun c h1 h2 => ?_) hR1) (by decide) e0 (fun i hi hm => ⟨?_, nb i hi hm⟩) (fun v B2 v2 => ?_)
      · have : c ≠ 85 := by omega
        simp [zu, this]
      · have y : i = 0 ∨ i = 1 ∨ i = 2 ∨ i = 3 ∨ i = 4 ∨ i = 5 ∨ i = 6 := by omega
        rcases y with rfl | rfl | rfl | rfl | rfl | rfl | rfl
        · exact nI_toInt (by omega)
        · exact nI_toInt (by have := hp9 p (by omega); omega)
        · exact absurd hm (by decide)
        · exact absurd hm (by decide)
        · exact absurd hm (by decide)
        · exact nI_toInt (by omega)
        · exact absurd hm (by decide)
      · have v01 := zval_01 (w := 2) rfl nb (zRr_ty hRr (by decide) e0)
        have ez : zex A bt k ne cl dy p = decide (zval (znme p (zpa A p) 0 0 0 dy 0) c ≠ 0) := by
          unfold zex zxC
          rw [e0]
          cases q : zTo A bt k dy ne with
          | true => rw [q] at y; exact absurd y (by decide)
          | false => rfl
        refine zb_Model_laysExcused_181 hK bt ru k dy _ p _ v hd (by omega) (fun z => ?_) (fun z => ?_)
        · rw [lg_cmp_le, zLle, v2, zL0] at z
          refine next B2 _ _ _ rfl (fun c h1 => by rw [zu_oc h1, zu_oc h1, zu_oc h1]) ?_
          rw [ez, decide_eq_false (by omega)]
          rfl
        · rw [lg_cmp_le, zLle, v2, zL0] at z
          refine next B2 _ _ _ rfl (fun c h1 => by rw [zu_oc h1, zu_oc h1, zu_oc h1]) ?_
          rw [ez, decide_eq_true (by omega)]
          rfl
theorem lp_lx6 {M0 : Nat → Nat → Int32} {f g : Nat} (hK : zKok K) (hf : M0 71 33 = nI f) (hg : M0 71 34 = nI g) (hfg : f ≤ g ∧ g < 60) (h72 : M0 72 = A) (hmp : A 0 = nI np) (hne : A 6 = nI ne) (h20 : ne ≤ 20) (hb10 : np ≤ 10) (hPa : zPa A np) (hA : zXa A ne) (hRr : zRr M0 ru cl) (hb : bt < 8) (hk : k < 60) (kk : ∀ B' M, (∀ c, c ≠ 85 → c ≠ 92 → M c = M0 c) → (∀ e p, f ≤ e → e ≤ g → p < np → M 92 (10 * e + p) = zbi (decide (zex A bt k ne cl e p = true))) → F none (X, b, zLay, K, B', M)) : ∀ (q dd : Nat) (B : Nat → Nat → Int64) (M : Nat → Nat → Int32) (l5 l6 l7 : Value), l5.category = 1 → l6.category = 1 → l7.category = 1 → dd + q = g + 1 → f ≤ dd → (∀ c, c ≠ 85 → c ≠ 92 → M c = M0 c) → (∀ e p, f ≤ e → e < dd → p < np → M 92 (10 * e + p) = zbi (decide (zex A bt k ne cl e p = true))) → zEx (zCall (d + 9)) 10 false 0 zc_Model_laysExcused F 6 [.ref 71, .int (nI bt), .int ru, .int (nI k), .int (nI dd), l5, l6, l7] [] (X, b, zLay, K, B, M) := by
  intro q
  induction q with
  | zero =>
    intro dd B M l5 l6 l7 c5 c6 c7 hd hd2 u1 u2
    exact zb_Model_laysExcused_6 bt ru k dd l5 l6 l7 c5 c6 c7 (by rw [u1 71 (by decide) (by decide)]; exact hf) (by rw [u1 71 (by decide) (by decide)]; exact hg) hfg (by omega) (fun _ => kk B M u1 (fun e p h1 h2 h3 => u2 e p h1 (by omega) h3)) (fun z => absurd z (by omega))
  | succ q ih =>
    intro dd B M l5 l6 l7 c5 c6 c7 hd hd2 u1 u2
    have e72 : M 72 = A := (u1 72 (by decide) (by decide)).trans h72
    refine zb_Model_laysExcused_6 bt ru k dd l5 l6 l7 c5 c6 c7 (by rw [u1 71 (by decide) (by decide)]; exact hf) (by rw [u1 71 (by decide) (by decide)]; exact hg) hfg (by omega) (fun z => absurd z (by omega)) (fun _ => ?_)
    refine lp_lx21 (ne := ne) hK (by rw [e72]; exact hne) h20 (by rw [e72]; exact hA) hb (by omega) hk (fun l7 c7 => ?_) ne 0 l7 c7 (by omega)
    rw [e72]
    refine lp_lx114 (A := A) (np := np) (cl := cl) hK e72 hmp hb10 hPa (zRr_same (fun c _ _ => u1 c (by omega) (by omega)) hRr) (by omega) (fun B2 M2 l6 l7 c6 c7 w1 w2 w3 => ?_) np 0 B M l7 c7 (by omega) (fun _ _ _ => rfl) (fun _ _ _ _ => rfl) (fun x hx => absurd hx (Nat.not_lt_zero _))
    refine ih (dd + 1) B2 M2 _ l6 l7 rfl c6 c7 (by omega) (by omega) (fun c c1 c2 => (w1 c c1 c2).trans (u1 c c1 c2)) (fun e p h1 h2 h3 => ?_)
    by_cases y : e = dd
    · rw [y]; exact w3 p h3
    · rw [w2 e p y h3]
      exact u2 e p h1 (by omega) h3
theorem sp_lx {M : Nat → Nat → Int32} {f g : Nat} (hK : zKok K) (hf : M 71 33 = nI f) (hg : M 71 34 = nI g) (hfg : f ≤ g ∧ g < 60) (h72 : M 72 = A) (hmp : A 0 = nI np) (hne : A 6 = nI ne) (h20 : ne ≤ 20) (hb10 : np ≤ 10) (hPa : zPa A np) (hA : zXa A ne) (hRr : zRr M ru cl) (hb : bt < 8) (hk : k < 60) (kk : ∀ B' M', (∀ c, c ≠ 85 → c ≠ 92 → M' c = M c) → (∀ e p, f ≤ e → e ≤ g → p < np → M' 92 (10 * e + p) = zbi (decide (zex A bt k ne cl e p = true))) → F none (X, b, zLay, K, B', M')) : zCall (d + 10) zm_Model_laysExcused [.ref 71, .int (nI bt), .int ru, .int (nI k)] (X, b, zLay, K, B, M) F :=
  zb_Model_laysExcused_0 bt ru k hf hg hfg (lp_lx6 hK hf hg hfg h72 hmp hne h20 hb10 hPa hA hRr hb hk kk (g + 1 - f) f B M .null .null .null rfl rfl rfl (by omega) (Nat.le_refl _) (fun _ _ _ => rfl) (fun e p h1 h2 => absurd h2 (by omega)))
end EX
