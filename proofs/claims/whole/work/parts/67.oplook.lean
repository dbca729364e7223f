/-! ===== look, its loops ===== -/
def zlv (np pc : Nat) (D : Nat → Nat → Nat → Nat) (al : Nat → Nat) (f g dd p : Nat) : Int32 := if zdw np pc D (zup1 al dd (al dd &&& 2 ^ p)) f g ≤ zdw np pc D (zup1 al dd (al dd &&& (1023 - 2 ^ p))) f g then zdw np pc D (zup1 al dd (al dd &&& (1023 - 2 ^ p))) f g else zdw np pc D (zup1 al dd (al dd &&& 2 ^ p)) f g
theorem zlv_lt {np pc : Nat} {D : Nat → Nat → Nat → Nat} {al : Nat → Nat} {f g dd : Nat} (hg : g < 60) (p : Nat) : (zlv np pc D al f g dd p).toInt < 100000 := by
  unfold zlv
  split
  · exact zdw_lt hg
  · exact zdw_lt hg
theorem zn1 {p : Nat} (h : p < 1000) : nI p ≠ -1 := (znn (n := p) (by omega) (c := -1) (by decide)).1
theorem zlkD_n {p : Nat} (h : p < 1000) (v : Int32) : zlkD (nI p, v) = v := by
  unfold zlkD
  rw [if_neg (zn1 h)]
section LL
variable {d : Nat} {F : Option Value → zS → Prop} {X : zX} {b : Nat × Nat} {K : Nat → Nat → Option Nat} {B : Nat → Nat → Int64} {M0 : Nat → Nat → Int32} {A : Nat → Int32} {np nw ns pc m : Nat} {D : Nat → Nat → Nat → Nat}
theorem lp_lookC {f g dd cand : Nat} {al : Nat → Nat} {a0 a2 a3 : Int32} {l5 : Nat} (hK : zKok K) (hL : cand ≠ 0 → zSi A M0 np nw ns pc m D f g al) (hnp : M0 1 1 = nI np) (hb : np ≤ 10) (hg : g < 60) (hd : dd < 60) (hc : cand < 1024) (h1 : ∀ p, p < np → M0 42 dd &&& nI (2 ^ p) = nI (al dd &&& 2 ^ p)) (h2 : cand ≠ 0 → dd = f → ∀ p, p < 10 → M0 42 dd &&& (nI (2 ^ p) ^^^ (-1)) = nI (al dd &&& (1023 - 2 ^ p))) (h3 : ∀ p, p < 10 → ∀ r, r < 2 ^ np → (M0 42 dd &&& (nI (2 ^ p) ^^^ (-1))) &&& nI r = nI ((al dd &&& (1023 - 2 ^ p)) &&& r)) (ha : al dd < 2 ^ np)
    (kk : ∀ M', (∀ c, c ≠ 41 → c ≠ 43 → M' c = M0 c) → F (some (.int (if a3 = 0 then (zlkS cand (zlv np pc D al f g dd) np).1 else zlkD (zlkS cand (zlv np pc D al f g dd) np)))) (X, b, zLay, K, B, M')) : ∀ (q j : Nat) (M : Nat → Nat → Int32) (l10 l11 l12 : Value), l10.category = 1 → l11.category = 1 → l12.category = 1 → j + q = np → (∀ c, c ≠ 41 → c ≠ 43 → M c = M0 c) → (∀ i, i ≠ 3 → M 41 i = M0 41 i) → zEx (zCall (d + 29)) 9 false 1 zc_Boats_look F 58 [.ref 0, .int a0, .int (nI dd), .int a2, .int a3, .int (nI l5), .int (nI cand), .int (zlkS cand (zlv np pc D al f g dd) j).1, .int (zlkD (zlkS cand (zlv np pc D al f g dd) j)), .int (nI j), l10, l11, l12] [] (X, b, zLay, K, B, M) := by
  intro q
  induction q with
  | zero =>
    intro j M l10 l11 l12 c10 c11 c12 hj u1 u2
    have hj : j = np := by omega
    subst hj
    have e := kk M u1
    refine zb_Boats_lookP_58 hK a0 dd a2 a3 l5 cand _ _ j l10 l11 l12 c10 c11 c12 hd (by rw [u1 1 (by decide) (by decide)]; exact hnp) hb hc (Nat.le_refl _) (fun _ z => ?_) (fun _ z => ?_) (fun z _ => absurd z (by omega)) (fun z _ => absurd z (by omega))
    · rw [if_neg z] at e; exact e
    · rw [if_pos z] at e; exact e
  | succ q ih =>
    intro j M l10 l11 l12 c10 c11 c12 hj u1 u2
    have hnp' : M 1 1 = nI np := by rw [u1 1 (by decide) (by decide)]; exact hnp
    refine zb_Boats_lookP_58 hK a0 dd a2 a3 l5 cand _ _ j l10 l11 l12 c10 c11 c12 hd hnp' hb hc (by omega) (fun z _ => absurd z (by omega)) (fun z _ => absurd z (by omega)) (fun _ z => ?_) (fun _ z => ?_)
    · have hne : cand ≠ 0 := fun e => by rw [e, Nat.zero_testBit] at z; exact absurd z (by decide)
      have hL1 : zSi A M np nw ns pc m D f g al := zSi_same u1 u2 (hL hne)
      have e42 : M 42 = M0 42 := u1 42 (by decide) (by decide)
      have x1 : al dd &&& 2 ^ j < 2 ^ np := zand_lt ha
      have x2 : al dd &&& (1023 - 2 ^ j) < 2 ^ np := zand_lt ha
      refine sp_dW (d := d + 21) (x := al dd &&& 2 ^ j) hK hL1 hd x1 (fun _ => ?_) (fun _ _ r _ => ?_) (fun M1 v1 v2 => ?_)
      · rw [e42]; exact h1 j (by omega)
      · rw [e42, h1 j (by omega), zb_and]
      · refine zb_Boats_lookP_95 hK a0 dd a2 a3 l5 cand _ _ j l10 l11 l12 _ c10 c11 c12 hd (by omega) ?_
        have w1 : ∀ c, c ≠ 41 → c ≠ 43 → M1 c = M0 c := fun c z1 z2 => (v1 c z1 z2).trans (u1 c z1 z2)
        have w2 : ∀ i, i ≠ 3 → M1 41 i = M0 41 i := fun i z1 => (v2 i z1).trans (u2 i z1)
        have hL2 : zSi A M1 np nw ns pc m D f g al := zSi_same w1 w2 (hL hne)
        have e42 : M1 42 = M0 42 := w1 42 (by decide) (by decide)
        refine sp_dW (d := d + 21) (x := al dd &&& (1023 - 2 ^ j)) hK hL2 hd x2 (fun y => ?_) (fun _ _ r y => ?_) (fun M2 v1 v2 => ?_)
        · rw [e42]; exact h2 hne y j (by omega)
        · rw [e42]; exact h3 j (by omega) r y
        · have w1 : ∀ c, c ≠ 41 → c ≠ 43 → M2 c = M0 c := fun c z1 z2 => (v1 c z1 z2).trans (w1 c z1 z2)
          have w2 : ∀ i, i ≠ 3 → M2 41 i = M0 41 i := fun i z1 => (v2 i z1).trans (w2 i z1)
          have e := fun l10 l11 l12 z1 z2 z3 => ih (j + 1) M2 l10 l11 l12 z1 z2 z3 (by omega) w1 w2
          have vl : ∀ p, (zlv np pc D al f g dd p).toInt < 100000 := fun p => zlv_lt hg p
          have or_ := zlkS_or (cand := cand) (v := zlv np pc D al f g dd) vl j (by omega)
          have st : zlkS cand (zlv np pc D al f g dd) (j + 1) = if cand.testBit j = true ∧ zlv np pc D al f g dd j < (zlkS cand (zlv np pc D al f g dd) j).2 then (nI j, zlv np pc D al f g dd j) else zlkS cand (zlv np pc D al f g dd) j := rfl
          have vv : (if zdw np pc D (zup1 al dd (al dd &&& 2 ^ j)) f g < zdw np pc D (zup1 al dd (al dd &&& (1023 - 2 ^ j))) f g then zdw np pc D (zup1 al dd (al dd &&& (1023 - 2 ^ j))) f g else zdw np pc D (zup1 al dd (al dd &&& 2 ^ j)) f g) = zlv np pc D al f g dd j := zmx _ _
          refine zb_Boats_lookP_111 a0 dd a2 a3 l5 cand _ _ j _ l11 l12 _ c11 c12 hd (by omega) (fun y => ?_) (fun y y2 => ?_) (fun y y2 => ?_)
          · rw [vv]
            have s0 : zlkS cand (zlv np pc D al f g dd) j = (-1, 100000) := by
              rcases or_ with o | ⟨p, hp, o⟩
              · exact o.1
              · rw [o] at y; exact absurd y (zn1 (by omega))
            rw [if_pos ⟨z, by rw [s0, zlt]; exact vl j⟩] at st
            have e := e (.int (zdw np pc D (zup1 al dd (al dd &&& 2 ^ j)) f g)) (.int (zdw np pc D (zup1 al dd (al dd &&& (1023 - 2 ^ j))) f g)) (.int (zlv np pc D al f g dd j)) rfl rfl rfl
            rw [st, zlkD_n (by omega)] at e
            exact e
          · rw [vv] at y2 ⊢
            have s0 : zlkD (zlkS cand (zlv np pc D al f g dd) j) = (zlkS cand (zlv np pc D al f g dd) j).2 := if_neg y
            rw [s0] at y2
            rw [if_neg (fun o => Int32.not_lt.mpr y2 o.2)] at st
            have e := e (.int (zdw np pc D (zup1 al dd (al dd &&& 2 ^ j)) f g)) (.int (zdw np pc D (zup1 al dd (al dd &&& (1023 - 2 ^ j))) f g)) (.int (zlv np pc D al f g dd j)) rfl rfl rfl
            rw [st] at e
            exact e
          · rw [vv] at y2 ⊢
            have s0 : zlkD (zlkS cand (zlv np pc D al f g dd) j) = (zlkS cand (zlv np pc D al f g dd) j).2 := if_neg y
            rw [s0] at y2
            rw [if_pos ⟨z, Int32.not_le.mp y2⟩] at st
            have e := e (.int (zdw np pc D (zup1 al dd (al dd &&& 2 ^ j)) f g)) (.int (zdw np pc D (zup1 al dd (al dd &&& (1023 - 2 ^ j))) f g)) (.int (zlv np pc D al f g dd j)) rfl rfl rfl
            rw [st, zlkD_n (by omega)] at e
            exact e
    · have e := ih (j + 1) M l10 l11 l12 c10 c11 c12 (by omega) u1 u2
      have st : zlkS cand (zlv np pc D al f g dd) (j + 1) = zlkS cand (zlv np pc D al f g dd) j := if_neg (fun o => z o.1)
      rw [st] at e
      exact e
theorem lp_lookM {f g dd cand : Nat} {al : Nat → Nat} {a0 a2 a3 : Int32} (hK : zKok K) (hL : zLi M0 np m pc f g al D) (hnp : M0 72 0 = nI np) (hb : np ≤ 10) (hd : dd < 60) (hc : cand < 1024) (kk : ∀ M', (∀ c, c ≠ 89 → c ≠ 90 → M' c = M0 c) → F (some (.int (if a3 = 0 then (zlkS cand (zlv np pc D al f g dd) np).1 else (zlkS cand (zlv np pc D al f g dd) np).2))) (X, b, zLay, K, B, M')) : ∀ (q j : Nat) (M : Nat → Nat → Int32) (l9 l10 l11 : Value), l9.category = 1 → l10.category = 1 → l11.category = 1 → j + q = np → (∀ c, c ≠ 89 → c ≠ 90 → M c = M0 c) → zEx (zCall (d + 29)) 10 false 1 zc_Model_look F 62 [.ref 71, .int a0, .int (nI dd), .int a2, .int a3, .int (nI cand), .int (zlkS cand (zlv np pc D al f g dd) j).1, .int (zlkS cand (zlv np pc D al f g dd) j).2, .int (nI j), l9, l10, l11] [] (X, b, zLay, K, B, M) := by
  have ha := hL.2.2.2.2.2 dd
  have h88 : M0 88 dd = nI (al dd) := hL.2.2.2.1 dd hd
  have ha10 := zp1024 ha hb
  intro q
  induction q with
  | zero =>
    intro j M l9 l10 l11 c9 c10 c11 hj u1
    have hj : j = np := by omega
    subst hj
    have e := kk M u1
    refine zb_Model_lookP_62 hK a0 dd a2 a3 cand _ _ j l9 l10 l11 c9 c10 c11 hd (by rw [u1 72 (by decide) (by decide)]; exact hnp) hb hc (Nat.le_refl _) (fun _ z => ?_) (fun _ z => ?_) (fun z _ => absurd z (by omega)) (fun z _ => absurd z (by omega))
    · rw [if_neg z] at e; exact e
    · rw [if_pos z] at e; exact e
  | succ q ih =>
    intro j M l9 l10 l11 c9 c10 c11 hj u1
    have hnp' : M 72 0 = nI np := by rw [u1 72 (by decide) (by decide)]; exact hnp
    refine zb_Model_lookP_62 hK a0 dd a2 a3 cand _ _ j l9 l10 l11 c9 c10 c11 hd hnp' hb hc (by omega) (fun z _ => absurd z (by omega)) (fun z _ => absurd z (by omega)) (fun _ z => ?_) (fun _ z => ?_)
    · have e := ih (j + 1) M l9 l10 l11 c9 c10 c11 (by omega) u1
      have st : zlkS cand (zlv np pc D al f g dd) (j + 1) = zlkS cand (zlv np pc D al f g dd) j := if_neg (fun o => by rw [z] at o; exact absurd o.1 (by decide))
      rw [st] at e
      exact e
    · have hL1 : zLi M np m pc f g al D := zLi_same u1 hL
      have x1 : al dd &&& 2 ^ j < 2 ^ np := zand_lt ha
      have x2 : al dd &&& (1023 - 2 ^ j) < 2 ^ np := zand_lt ha
      refine sp_dB (d := d + 21) (x := al dd &&& 2 ^ j) hK hb hL1 hd x1 ?_ (fun M1 v1 => ?_)
      · rw [u1 88 (by decide) (by decide), h88, zb_and]
      · refine zb_Model_lookP_93 a0 dd a2 a3 cand _ _ j l9 l10 l11 _ c9 c10 c11 hd (by omega) ?_
        have w1 : ∀ c, c ≠ 89 → c ≠ 90 → M1 c = M0 c := fun c z1 z2 => (v1 c z1 z2).trans (u1 c z1 z2)
        refine sp_dB (d := d + 21) (x := al dd &&& (1023 - 2 ^ j)) hK hb (zLi_same w1 hL) hd x2 ?_ (fun M2 v1 => ?_)
        · rw [w1 88 (by decide) (by decide), h88, zb_not j (by omega) _ ha10]
        · have w1 : ∀ c, c ≠ 89 → c ≠ 90 → M2 c = M0 c := fun c z1 z2 => (v1 c z1 z2).trans (w1 c z1 z2)
          have e := fun l9 l10 l11 z1 z2 z3 => ih (j + 1) M2 l9 l10 l11 z1 z2 z3 (by omega) w1
          have st : zlkS cand (zlv np pc D al f g dd) (j + 1) = if cand.testBit j = true ∧ zlv np pc D al f g dd j < (zlkS cand (zlv np pc D al f g dd) j).2 then (nI j, zlv np pc D al f g dd j) else zlkS cand (zlv np pc D al f g dd) j := rfl
          have lo : zdw np pc D (zup1 al dd (al dd &&& 2 ^ j)) f g ≤ zdw np pc D (zup1 al dd (al dd &&& (1023 - 2 ^ j))) f g → zlv np pc D al f g dd j = zdw np pc D (zup1 al dd (al dd &&& (1023 - 2 ^ j))) f g := fun y => if_pos y
          have hi : ¬ zdw np pc D (zup1 al dd (al dd &&& 2 ^ j)) f g ≤ zdw np pc D (zup1 al dd (al dd &&& (1023 - 2 ^ j))) f g → zlv np pc D al f g dd j = zdw np pc D (zup1 al dd (al dd &&& 2 ^ j)) f g := fun y => if_neg y
          have fin : ∀ l11 : Value, l11.category = 1 → zEx (zCall (d + 29)) 10 false 1 zc_Model_look F 62 [.ref 71, .int a0, .int (nI dd), .int a2, .int a3, .int (nI cand), .int (zlkS cand (zlv np pc D al f g dd) (j + 1)).1, .int (zlkS cand (zlv np pc D al f g dd) (j + 1)).2, .int (nI (j + 1)), .int (zdw np pc D (zup1 al dd (al dd &&& 2 ^ j)) f g), .int (zdw np pc D (zup1 al dd (al dd &&& (1023 - 2 ^ j))) f g), l11] [] (X, b, zLay, K, B, M2) := fun l11 z3 => e _ _ l11 rfl rfl z3
          refine zb_Model_lookP_106 a0 dd a2 a3 cand _ _ j _ l10 l11 _ c10 c11 hd (by omega) (fun y y2 => ?_) (fun y y2 => ?_) (fun y y2 => ?_) (fun y y2 => ?_)
          · rw [← lo y] at y2
            rw [if_neg (fun o => Int32.not_lt.mpr y2 o.2)] at st
            rw [st] at fin
            exact fin _ rfl
          · rw [← lo y] at y2
            rw [if_pos ⟨z, Int32.not_le.mp y2⟩] at st
            rw [st, lo y] at fin
            exact fin _ rfl
          · rw [← hi y] at y2
            rw [if_neg (fun o => Int32.not_lt.mpr y2 o.2)] at st
            rw [st] at fin
            exact fin _ rfl
          · rw [← hi y] at y2
            rw [if_pos ⟨z, Int32.not_le.mp y2⟩] at st
            rw [st, hi y] at fin
            exact fin _ rfl
end LL
/-- where there are journeys, a place is left on each of their days -/
theorem zmy_ne {A : Nat → Int32} {n : Nat → Nat} {bt k u : Nat} (hD : ∀ d x y, zDD A n d x y = zDD A n d y x) (hS : zSok A (n 0) (n 5)) (hp : zpos A bt k u (n 0) (n 5) (n 3) (zDD A n) = true) (j : Nat) (hj : zfi A bt k u (n 5) + j ≤ zla A bt k u (n 5) - 1) : ∃ p, (zLd A n bt k u (zla A bt k u (n 5) - 1 - j) &&& zBk A n bt k u (zla A bt k u (n 5) - 1 - j)).testBit p = true := by
  obtain ⟨f1, f2, f3, f4, -⟩ := zpos_fg hS hp
  have lt : ∀ d, zLd A n bt k u d < 2 ^ (n 0) := fun d => zld_lt (fun e => zal_lt _ _ _ _ _ _ _) _ _
  induction j with
  | zero =>
    have h2 := (zpos_iff.mp hp).2
    have : ∃ p, (zLd A n bt k u (zla A bt k u (n 5) - 1)).testBit p = true := by
      apply Classical.byContradiction
      intro q
      apply h2
      apply Nat.eq_of_testBit_eq
      intro p
      rw [Nat.zero_testBit]
      apply eq_false_of_ne_true
      intro z
      exact q ⟨p, z⟩
    obtain ⟨p, hp⟩ := this
    refine ⟨p, ?_⟩
    rw [Nat.sub_zero, Nat.testBit_and, Bool.and_eq_true]
    refine ⟨hp, ?_⟩
    have := zld_sub _ _ _ _ p hp
    rw [show zfi A bt k u (n 5) + (zla A bt k u (n 5) - 1 - zfi A bt k u (n 5)) = zla A bt k u (n 5) - 1 by omega] at this
    unfold zBk
    rw [Nat.sub_self]
    exact this
  | succ j ih =>
    obtain ⟨p, ih⟩ := ih (by omega)
    rw [Nat.testBit_and, Bool.and_eq_true] at ih
    generalize hd : zla A bt k u (n 5) - 1 - (j + 1) = e
    have he : zla A bt k u (n 5) - 1 - j = e + 1 := by omega
    rw [he] at ih
    have s := zld_s (rc := fun d S => zrc (n 0) (n 3) (zDD A n d) S) (al := zal A (n 0) bt k u (n 5)) (f := zfi A bt k u (n 5)) (d := e) (by omega)
    have i1 := ih.1
    unfold zLd at i1
    rw [s, Nat.testBit_and, Bool.and_eq_true, zrc_bit] at i1
    obtain ⟨i2, i3, q, i4, i5, i6⟩ := i1
    refine ⟨q, ?_⟩
    rw [Nat.testBit_and, Bool.and_eq_true]
    refine ⟨i5, ?_⟩
    unfold zBk
    rw [zbk_s (by omega), Nat.testBit_and, Bool.and_eq_true, zrc_bit]
    refine ⟨?_, i4, p, i3, ih.2, by rw [hD]; exact i6⟩
    have := zld_sub _ _ _ _ q i5
    rw [show zfi A bt k u (n 5) + (e - zfi A bt k u (n 5)) = e by omega] at this
    exact this
