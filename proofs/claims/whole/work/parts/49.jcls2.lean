/-! ===== journeys of the class: what it lays ===== -/
/-- what the class allows on a day: -1 where nothing was seen -/
def zav (A : Nat → Int32) (np bt k u m d : Nat) : Int32 := bif zsd A bt k u m d then nI (zal A np bt k u m d) else -1
theorem zand_full {n r : Nat} (h : r < 2 ^ n) : (2 ^ n - 1) &&& r = r := by
  rw [Nat.and_comm, Nat.and_two_pow_sub_one_eq_mod, Nat.mod_eq_of_lt h]
theorem zav_and {A : Nat → Int32} {np bt k u m d r : Nat} (h : r < 2 ^ np) : zav A np bt k u m d &&& nI r = nI (zal A np bt k u m d &&& r) := by
  unfold zav
  cases e : zsd A bt k u m d
  · rw [cond_false, zb_m1, zal_no e, zand_full h]
  · rw [cond_true, zb_and]
theorem zp2lt {p n : Nat} (h : p < n) : 2 ^ p < 2 ^ n := Nat.pow_lt_pow_right (by decide) h
/-- whether and where: the class's places on a day -/
def zpl (A : Nat → Int32) (bt k u np m pc : Nat) (D : Nat → Nat → Nat → Nat) (d : Nat) : Nat := if zfi A bt k u m < 60 ∧ zfi A bt k u m ≤ d ∧ d < zla A bt k u m then zfn (fun d S => zrc np pc (D d) S) (zal A np bt k u m) (zfi A bt k u m) (zla A bt k u m - 1) (zla A bt k u m - 1 - d) else 0
section JC
variable {d : Nat} {F : Option Value → zS → Prop} {X : zX} {b : Nat × Nat} {K : Nat → Nat → Option Nat} {B : Nat → Nat → Int64} {M : Nat → Nat → Int32} {A : Nat → Int32} {np nw ns pc m : Nat} {D : Nat → Nat → Nat → Nat}
/-- behind gather -/
def zGa (A : Nat → Int32) (M0 M : Nat → Nat → Int32) (bt k u np m : Nat) : Prop := (∀ c, c ≠ 41 → c ≠ 42 → M c = M0 c) ∧ (∀ i, i ≠ 1 → i ≠ 2 → M 41 i = M0 41 i) ∧ M 41 1 = zfI (zfi A bt k u m) ∧ M 41 2 = zlI (zla A bt k u m) ∧ ∀ d, d < 60 → M 42 d = zav A np bt k u m d
theorem lp_ga {M0 : Nat → Nat → Int32} (hK : zKok K) (hX : zKx A M0 np nw ns pc m D) {bt k u : Nat} (ha : bt < 8 ∧ k < 60 ∧ u ≤ 60) (kk : ∀ M, zGa A M0 M bt k u np m → F none (X, b, zLay, K, B, M)) : ∀ (n j : Nat) (M : Nat → Nat → Int32) (l6 : Value), l6.category = 1 → j + n = m → zGa A M0 M bt k u np j → zEx (zCall (d + 2)) 2 false 0 zc_Journeys_gather F 21 [.ref 41, .ref 13, .int (nI bt), .int (nI k), .int (nI u), .int (nI j), l6] [] (X, b, zLay, K, B, M) := by
  have hm := hX.2.2.1
  have hSo := hX.2.2.2.2.1
  have hnp := hX.1.2.2.2.2.1.1
  intro n
  induction n with
  | zero =>
    intro j M l6 q6 hj hl
    have hj : j = m := by omega
    subst hj
    exact zb_Journeys_gather_21 hK bt k u j l6 q6 ha hm (zKx_same (fun c hc => hl.1 c (by omega) (by omega)) hX) (by omega) (fun h => absurd h (by omega)) (fun _ => kk M hl) (fun h => absurd h (by omega)) (fun h => absurd h (by omega)) (fun h => absurd h (by omega)) (fun h => absurd h (by omega)) (fun h => absurd h (by omega))
  | succ n ih =>
    intro j M l6 q6 hj hl
    obtain ⟨s1, s2, s3, s0⟩ := hSo j (by omega)
    have hX' := zKx_same (M2 := M) (fun c hc => hl.1 c (by omega) (by omega)) hX
    obtain ⟨a1, a2, a3, a4, a5⟩ := hl
    have fl := zfl (bt := bt) (k := k) (u := u) (m := j) (fun i hi => hSo i (by omega))
    have ef : zfi A bt k u (j + 1) = bif zsm A bt k u j then min (zfi A bt k u j) (zsn A 2 j) else zfi A bt k u j := rfl
    have el : zla A bt k u (j + 1) = bif zsm A bt k u j then max (zla A bt k u j) (zsn A 2 j + 1) else zla A bt k u j := rfl
    have ea : ∀ e, zal A np bt k u (j + 1) e = bif zsm A bt k u j && Nat.beq (zsn A 2 j) e then zal A np bt k u j e &&& 2 ^ (zsn A 1 j) else zal A np bt k u j e := fun _ => rfl
    have es : ∀ e, zsd A bt k u (j + 1) e = (zsd A bt k u j e || (zsm A bt k u j && Nat.beq (zsn A 2 j) e)) := fun _ => rfl
    have no : zsm A bt k u j = false → ∀ w6 : Value, w6.category = 1 → zEx (zCall (d + 2)) 2 false 0 zc_Journeys_gather F 21 [.ref 41, .ref 13, .int (nI bt), .int (nI k), .int (nI u), .int (nI (j + 1)), w6] [] (X, b, zLay, K, B, M) := by
      intro hm w6 h6
      refine ih (j + 1) M w6 h6 (by omega) ⟨a1, a2, ?_, ?_, fun e he => ?_⟩
      · rw [a3, ef, hm, cond_false]
      · rw [a4, el, hm, cond_false]
      · rw [a5 e he]
        unfold zav
        rw [ea, es, hm, Bool.false_and, cond_false, Bool.or_false]
    have go : zsm A bt k u j = true → ∀ (x1 x2 : Int32) (w6 : Value), w6.category = 1 → x1 = zfI (min (zfi A bt k u j) (zsn A 2 j)) → x2 = zlI (max (zla A bt k u j) (zsn A 2 j + 1)) → zEx (zCall (d + 2)) 2 false 0 zc_Journeys_gather F 21 [.ref 41, .ref 13, .int (nI bt), .int (nI k), .int (nI u), .int (nI (j + 1)), w6] [] (X, b, zLay, K, B, (zu (zu (zu M 42 (zsn A 2 j) ((M 42 (zsn A 2 j)) &&& (nI (2 ^ (zsn A 1 j))))) 41 1 x1) 41 2 x2)) := by
      intro hm x1 x2 w6 h6 e33 e34
      refine ih (j + 1) _ w6 h6 (by omega) ⟨fun c h1 h2 => ?_, fun i h1 h2 => ?_, ?_, ?_, fun e he => ?_⟩
      · funext i; rw [zu_no (by omega), zu_no (by omega), zu_no (by omega), a1 c h1 h2]
      · rw [zu_no (by omega), zu_no (by omega), zu_no (by omega), a2 i h1 h2]
      · rw [zu_no (by omega), zu_yes, e33, ef, hm, cond_true]
      · rw [zu_yes, e34, el, hm, cond_true]
      · rw [zu_no (by omega), zu_no (by omega)]
        by_cases q : zsn A 2 j = e
        · subst q
          rw [zu_yes, a5 _ s2, zav_and (zp2lt s1)]
          unfold zav
          rw [es, ea, hm, Bool.true_and, Nat.beq_refl, Bool.or_true, cond_true, cond_true]
        · rw [zu_no (by omega), a5 e he]
          unfold zav
          rw [es, ea, hm, Bool.true_and, zbeq_f q, Bool.or_false, cond_false]
    have yes : zsn A 0 j = bt → zsn A 3 j ≤ k → zsn A 2 j ≤ u → zsm A bt k u j = true := by
      intro h1 h2 h3
      unfold zsm
      rw [h1, Nat.beq_refl, Nat.ble_eq_true_of_le h2, Nat.ble_eq_true_of_le h3]; rfl
    have k60 := zfI_60 fl.1
    have kl := zlI_le (x := zsn A 2 j) fl.2.1 s2
    have last : (if M 41 2 < nI (zsn A 2 j) then nI (zsn A 2 j) else M 41 2) = zlI (max (zla A bt k u j) (zsn A 2 j + 1)) := by
      rw [a4]
      by_cases q : zsn A 2 j + 1 ≤ zla A bt k u j
      · rw [if_neg (Int32.not_lt.mpr (kl.mpr q)), Nat.max_eq_left q]
      · rw [if_pos (Int32.not_le.mp (fun z => q (kl.mp z))), Nat.max_eq_right (by omega), zlI_s]
    refine zb_Journeys_gather_21 hK bt k u j l6 q6 ha hm hX' (by omega) (fun _ => ⟨by omega, s2, s3, s0⟩) (fun h => absurd h (by omega)) (fun _ h => no ?_ _ rfl) (fun _ _ h => no ?_ _ rfl) (fun _ h1 h2 h3 h4 => go (yes h1 h2 h3) _ _ _ rfl ?_ last) (fun _ h1 h2 h3 h4 => go (yes h1 h2 h3) _ _ _ rfl ?_ last) (fun _ _ _ h => no ?_ _ rfl)
    · unfold zsm; rw [zbeq_f h]; rfl
    · unfold zsm; rw [zble_f h, Bool.false_and, Bool.and_false]
    · rw [a3] at h4 ⊢
      have hlt : zfi A bt k u j < 60 := by
        have := fl.1
        have : zfi A bt k u j ≠ 60 := fun q => h4 (k60.mpr q)
        omega
      rw [zfI_n hlt]
      by_cases q : zsn A 2 j < zfi A bt k u j
      · rw [if_pos (nI_lt q (by omega)), Nat.min_eq_right (by omega), zfI_n s2]
      · rw [if_neg (nI_nlt (by omega) (by omega)), Nat.min_eq_left (by omega), zfI_n hlt]
    · rw [a3] at h4
      have := k60.mp h4
      rw [Nat.min_eq_right (by omega), zfI_n s2]
    · unfold zsm; rw [zble_f h, Bool.and_false, Bool.and_false]
theorem sp_gather (hK : zKok K) (hX : zKx A M np nw ns pc m D) {bt k u : Nat} (ha : bt < 8 ∧ k < 60 ∧ u ≤ 60) (kk : ∀ M', zGa A M M' bt k u np m → F none (X, b, zLay, K, B, M')) : zCall (d + 3) zm_Journeys_gather [.ref 41, .ref 13, .int (nI bt), .int (nI k), .int (nI u)] (X, b, zLay, K, B, M) F := by
  refine zb_Journeys_gather_0 (m := m) hK bt k u ha hX.2.2.1 ?_
  refine sp_fill (a := 42) (N := 60) rfl rfl ?_
  refine zb_Journeys_gather_18 (m := m) bt k u ha hX.2.2.1 ?_
  refine lp_ga (M0 := M) hK hX ha kk m 0 _ .null rfl (by omega) ⟨fun c h1 h2 => ?_, fun i h1 h2 => ?_, ?_, ?_, fun e he => ?_⟩
  · rw [zw_no h2]; funext i; rw [zu_no (by omega), zu_no (by omega)]
  · rw [zw_no (by decide), zu_no (by omega), zu_no (by omega)]
  · rw [zw_no (by decide), zu_no (by omega), zu_yes]; rfl
  · rw [zw_no (by decide), zu_yes]; rfl
  · rw [zw_yes, if_pos he]; rfl
/-- what settle needs -/
def zSi (A : Nat → Int32) (M : Nat → Nat → Int32) (np nw ns pc m : Nat) (D : Nat → Nat → Nat → Nat) (f g : Nat) (al : Nat → Nat) : Prop := M 41 1 = nI f ∧ M 41 2 = nI g ∧ (f ≤ g ∧ g < 60) ∧ M 42 f = nI (al f) ∧ (∀ e r, f < e → e ≤ g → r < 2 ^ np → M 42 e &&& nI r = nI (al e &&& r)) ∧ zKx A M np nw ns pc m D ∧ (∀ e, al e < 2 ^ np)
theorem zSi_same {M0 M : Nat → Nat → Int32} {f g : Nat} {al : Nat → Nat} (h : ∀ c, c ≠ 41 → c ≠ 43 → M c = M0 c) (h2 : ∀ i, i ≠ 3 → M 41 i = M0 41 i) (k : zSi A M0 np nw ns pc m D f g al) : zSi A M np nw ns pc m D f g al := by
  obtain ⟨a1, a2, a3, a4, a5, a6, a7⟩ := k
  refine ⟨by rw [h2 1 (by decide)]; exact a1, by rw [h2 2 (by decide)]; exact a2, a3, by rw [h 42 (by decide) (by decide)]; exact a4, by rw [h 42 (by decide) (by decide)]; exact a5, zKx_same (fun c hc => h c (by omega) (by omega)) a6, a7⟩
theorem lp_se118 {M0 : Nat → Nat → Int32} {f g : Nat} {al : Nat → Nat} (hK : zKok K) (hL : zSi A M0 np nw ns pc m D f g al) (kk : ∀ M, (∀ e, e ≠ 43 → M e = M0 e) → (∀ e, f ≤ e → e ≤ g → M 43 e = nI (zfn (fun d S => zrc np pc (D d) S) al f g (g - e))) → (∀ e, e < f ∨ g < e → M 43 e = M0 43 e) → F none (X, b, zLay, K, B, M)) : ∀ (n j : Nat) (M : Nat → Nat → Int32), j + n = g - f → (∀ e, e ≠ 43 → M e = M0 e) → (∀ e, f ≤ e → e ≤ g → M 43 e = nI (if g - j ≤ e then zfn (fun d S => zrc np pc (D d) S) al f g (g - e) else zld (fun d S => zrc np pc (D d) S) al f (e - f))) → (∀ e, e < f ∨ g < e → M 43 e = M0 43 e) → zEx (zCall (d + 3)) 2 false 0 zc_Journeys_settle F 118 [.ref 41, .int (nI (g - j) - 1)] [] (X, b, zLay, K, B, M) := by
  have hb := hL.2.2.2.2.2.1.1.2.2.2.2.1.1
  have hm := hL.2.2.2.2.2.1.2.2.1
  have hfg := hL.2.2.1
  intro n
  induction n with
  | zero =>
    intro j M hj hf h9 h8
    obtain ⟨a1, a2, a3, a4, a5, a6, a7⟩ := zSi_same (M := M) (fun c h1 h2 => hf c h2) (fun i _ => by rw [hf 41 (by decide)]) hL
    refine zb_Journeys_settleZ_118 _ a1 a2 a3 ?_ (fun _ => ?_) (fun h => absurd ?_ h)
    · rw [show g - j = f by omega, zlt, zsub1 (by omega), nI_toInt (by omega)]; omega
    · refine kk M hf (fun e h1 h2 => ?_) h8
      rw [h9 e h1 h2, if_pos (by omega)]
    · rw [show g - j = f by omega, zlt, zsub1 (by omega), nI_toInt (by omega)]; omega
  | succ n ih =>
    intro j M hj hf h9 h8
    obtain ⟨a1, a2, a3, a4, a5, a6, a7⟩ := zSi_same (M := M) (fun c h1 h2 => hf c h2) (fun i _ => by rw [hf 41 (by decide)]) hL
    have hw : zfn (fun d S => zrc np pc (D d) S) al f g j < 1024 := zp1024 (zfn_lt a7 f g j) hb
    have hv : zld (fun d S => zrc np pc (D d) S) al f (g - (j + 1) - f) < 1024 := zp1024 (zld_lt a7 f _) hb
    have e1 : nI (g - j) - 1 = nI (g - (j + 1)) := by
      rw [show g - j = (g - (j + 1)) + 1 by omega, nI_pred]
    rw [e1]
    refine zb_Journeys_settle_118 (v := zld (fun d S => zrc np pc (D d) S) al f (g - (j + 1) - f)) (w := zfn (fun d S => zrc np pc (D d) S) al f g j) hK (g - (j + 1)) a1 a2 a3 a6 ⟨hb, hm⟩ (by omega) (fun _ => ?_) hv (fun _ => ?_) hw (fun h => absurd h (by omega)) (fun _ => ?_)
    · rw [h9 _ (by omega) (by omega), if_neg (by omega)]
    · rw [h9 _ (by omega) (by omega), if_pos (by omega)]
      congr 2
      omega
    · have := ih (j + 1) (zu M 43 (g - (j + 1)) (nI (zld (fun d S => zrc np pc (D d) S) al f (g - (j + 1) - f) &&& zrc np pc (D (g - (j + 1) + 1)) (zfn (fun d S => zrc np pc (D d) S) al f g j)))) (by omega) (fun e he => by funext i; rw [zu_no (by omega), hf e he]) (fun e h1 h2 => ?_) (fun e he => ?_)
      · rw [Int32.sub_eq_add_neg] at this
        exact this
      · by_cases q : e = g - (j + 1)
        · subst q
          rw [zu_yes, if_pos (Nat.le_refl _), show g - (g - (j + 1)) = j + 1 by omega, show g - (j + 1) + 1 = g - j by omega]
          rfl
        · rw [zu_no (by omega), h9 e h1 h2]
          by_cases z : g - j ≤ e
          · rw [if_pos z, if_pos (by omega)]
          · rw [if_neg z, if_neg (by omega)]
      · rw [zu_no (by omega), h8 e he]
theorem lp_se47 {M0 : Nat → Nat → Int32} {f g : Nat} {al : Nat → Nat} (hK : zKok K) (hL : zSi A M0 np nw ns pc m D f g al) (kk : ∀ M, (∀ c, c ≠ 41 → c ≠ 43 → M c = M0 c) → (∀ i, i ≠ 3 → M 41 i = M0 41 i) → M 41 3 = zbi (decide (zld (fun d S => zrc np pc (D d) S) al f (g - f) ≠ 0)) → (∀ e, f ≤ e → e ≤ g → M 43 e = nI (zfn (fun d S => zrc np pc (D d) S) al f g (g - e))) → (∀ e, e < f ∨ g < e → M 43 e = M0 43 e) → F none (X, b, zLay, K, B, M)) : ∀ (n j : Nat) (M : Nat → Nat → Int32), j + n = g - f → (∀ c, c ≠ 41 → c ≠ 43 → M c = M0 c) → (∀ i, i ≠ 3 → M 41 i = M0 41 i) → (∀ i, i ≤ j → M 43 (f + i) = nI (zld (fun d S => zrc np pc (D d) S) al f i)) → (∀ e, e < f ∨ g < e → M 43 e = M0 43 e) → zEx (zCall (d + 3)) 2 false 0 zc_Journeys_settle F 47 [.ref 41, .int (nI (f + j + 1))] [] (X, b, zLay, K, B, M) := by
  have hb := hL.2.2.2.2.2.1.1.2.2.2.2.1.1
  have hm := hL.2.2.2.2.2.1.2.2.1
  have hfg := hL.2.2.1
  intro n
  induction n with
  | zero =>
    intro j M hj hf hf3 h9 h8
    obtain ⟨a1, a2, a3, a4, a5, a6, a7⟩ := zSi_same (M := M) hf hf3 hL
    have hv : zld (fun d S => zrc np pc (D d) S) al f j < 1024 := zp1024 (zld_lt a7 f _) hb
    have hj2 : j = g - f := by omega
    have go : ∀ v3 : Int32, v3 = zbi (decide (zld (fun d S => zrc np pc (D d) S) al f (g - f) ≠ 0)) → zEx (zCall (d + 3)) 2 false 0 zc_Journeys_settle F 118 [.ref 41, .int (nI g - 1)] [] (X, b, zLay, K, B, zu M 41 3 v3) := by
      intro v3 e3
      have hL2 : zSi A (zu M 41 3 v3) np nw ns pc m D f g al := zSi_same (fun c h1 h2 => by funext i; rw [zu_no (by omega), hf c h1 h2]) (fun i hi => by rw [zu_no (by omega), hf3 i hi]) hL
      refine lp_se118 (M0 := zu M 41 3 v3) hK hL2 (fun M1 z1 z2 z3 => ?_) (g - f) 0 _ (by omega) (fun _ _ => rfl) (fun e h1 h2 => ?_) (fun _ _ => rfl)
      · refine kk M1 (fun c h1 h2 => ?_) (fun i hi => ?_) ?_ z2 (fun e he => ?_)
        · rw [z1 c h2]; funext i; rw [zu_no (by omega), hf c h1 h2]
        · rw [z1 41 (by decide), zu_no (by omega), hf3 i hi]
        · rw [z1 41 (by decide), zu_yes, e3]
        · rw [z3 e he, zu_no (by omega), h8 e he]
      · rw [zu_no (by omega)]
        have := h9 (e - f) (by omega)
        rw [show f + (e - f) = e by omega] at this
        rw [this]
        by_cases q : g - 0 ≤ e
        · rw [if_pos q, show g - e = 0 by omega, show e - f = g - f by omega]; rfl
        · rw [if_neg q]
    have e9 : M 43 g = nI (zld (fun d S => zrc np pc (D d) S) al f j) := by
      have := h9 j (Nat.le_refl _)
      rw [show f + j = g by omega] at this
      exact this
    refine zb_Journeys_settle_47 (al := al) (v := zld (fun d S => zrc np pc (D d) S) al f j) hK (f + j + 1) a1 a2 a3 a6 ⟨hb, hm⟩ (by omega) (by rw [show f + j + 1 - 1 = g by omega]; exact e9) hv (fun h => absurd h (by omega)) (fun _ => e9) (fun _ h => go _ ?_) (fun _ h => go _ ?_) (fun h => absurd h (by omega))
    · rw [hj2] at h
      rw [decide_eq_false (fun q => q h)]; rfl
    · rw [hj2] at h
      rw [decide_eq_true h]; rfl
  | succ n ih =>
    intro j M hj hf hf3 h9 h8
    obtain ⟨a1, a2, a3, a4, a5, a6, a7⟩ := zSi_same (M := M) hf hf3 hL
    have hv : zld (fun d S => zrc np pc (D d) S) al f j < 1024 := zp1024 (zld_lt a7 f _) hb
    refine zb_Journeys_settle_47 (al := al) (v := zld (fun d S => zrc np pc (D d) S) al f j) hK (f + j + 1) a1 a2 a3 a6 ⟨hb, hm⟩ (by omega) ?_ hv (fun _ r hr => a5 _ r (by omega) (by omega) hr) (fun h => absurd h (by omega)) (fun h => absurd h (by omega)) (fun h => absurd h (by omega)) (fun _ => ?_)
    · rw [show f + j + 1 - 1 = f + j by omega]; exact h9 j (Nat.le_refl _)
    · refine ih (j + 1) _ (by omega) (fun c h1 h2 => by funext i; rw [zu_no (by omega), hf c h1 h2]) (fun i hi => by rw [zu_no (by omega), hf3 i hi]) (fun i hi => ?_) (fun e he => by rw [zu_no (by omega), h8 e he])
      by_cases q : i = j + 1
      · subst q
        rw [show f + (j + 1) = f + j + 1 by omega, zu_yes]
        rfl
      · rw [zu_no (by omega)]; exact h9 i (by omega)
/-- behind settle, where something was seen -/
def zSe (M0 M : Nat → Nat → Int32) (np pc : Nat) (D : Nat → Nat → Nat → Nat) (f g : Nat) (al : Nat → Nat) : Prop := (∀ c, c ≠ 41 → c ≠ 43 → M c = M0 c) ∧ (∀ i, i ≠ 3 → M 41 i = M0 41 i) ∧ M 41 3 = zbi (decide (zld (fun d S => zrc np pc (D d) S) al f (g - f) ≠ 0)) ∧ (∀ e, f ≤ e → e ≤ g → M 43 e = nI (zfn (fun d S => zrc np pc (D d) S) al f g (g - e))) ∧ (∀ e, e < 60 → e < f ∨ g < e → M 43 e = 0)
theorem sp_settle {f g : Nat} {al : Nat → Nat} (hK : zKok K) (hL : zSi A M np nw ns pc m D f g al) (kk : ∀ M', zSe M M' np pc D f g al → F none (X, b, zLay, K, B, M')) : zCall (d + 4) zm_Journeys_settle [.ref 41] (X, b, zLay, K, B, M) F := by
  have hb := hL.2.2.2.2.2.1.1.2.2.2.2.1.1
  have hfg := hL.2.2.1
  refine zb_Journeys_settle_0 hK ?_
  refine sp_fill (a := 43) (N := 60) rfl rfl ?_
  have hL1 : zSi A (zw M 43 (fun i => if i < 60 then 0 else M 43 i)) np nw ns pc m D f g al := zSi_same (fun c h1 h2 => by rw [zw_no h2]) (fun i _ => by rw [zw_no (by decide)]) hL
  obtain ⟨a1, a2, a3, a4, a5, a6, a7⟩ := id hL1
  refine zb_Journeys_settle_8 hK a1 a2 a3 a4 (zp1024 (a7 f) hb) ?_
  refine lp_se47 (M0 := zu (zw M 43 (fun i => if i < 60 then 0 else M 43 i)) 41 3 0) hK (zSi_same (fun c h1 h2 => by funext i; rw [zu_no (by omega)]) (fun i hi => by rw [zu_no (by omega)]) hL1) (fun M1 z1 z2 z3 z4 z5 => ?_) (g - f) 0 _ (by omega) (fun c h1 h2 => by funext i; rw [zu_no (by omega)]) (fun i hi => by rw [zu_no (by omega)]) (fun i hi => ?_) (fun e he => by rw [zu_no (by omega)])
  · refine kk M1 ⟨fun c h1 h2 => ?_, fun i hi => ?_, z3, z4, fun e h60 he => ?_⟩
    · rw [z1 c h1 h2]; funext i; rw [zu_no (by omega), zw_no h2]
    · rw [z2 i hi, zu_no (by omega), zw_no (by decide)]
    · rw [z5 e he, zu_no (by omega), zw_yes, if_pos h60]
  · have : i = 0 := by omega
    subst this
    rw [show f + 0 = f by omega, zu_yes]
    rfl
theorem sp_settleN (hK : zKok K) (hn : M 41 1 = -1) (kk : F none (X, b, zLay, K, B, zu (zw M 43 (fun i => if i < 60 then 0 else M 43 i)) 41 3 0)) : zCall (d + 4) zm_Journeys_settle [.ref 41] (X, b, zLay, K, B, M) F := by
  refine zb_Journeys_settle_0 hK ?_
  refine sp_fill (a := 43) (N := 60) rfl rfl ?_
  exact zb_Journeys_settleN_8 (by rw [zw_no (by decide)]; exact hn) kk
/-- behind trace -/
def zJc (A : Nat → Int32) (M0 M : Nat → Nat → Int32) (bt k u np nw ns pc m : Nat) (D : Nat → Nat → Nat → Nat) : Prop := (∀ c, c ≠ 1 → c ≠ 9 → c ≠ 10 → c ≠ 11 → c ≠ 12 → c ≠ 41 → c ≠ 42 → c ≠ 43 → M c = M0 c) ∧ (∀ i, i ≠ 11 → i ≠ 12 → M 1 i = M0 1 i) ∧ M 1 11 = 0 ∧ zTabOk M ∧ M 41 1 = zfI (zfi A bt k u m) ∧ M 41 2 = zlI (zla A bt k u m) ∧ (∀ d, d < 60 → M 42 d = zav A np bt k u m d) ∧ zKx A M np nw ns pc m D ∧ M 41 3 = zbi (zpos A bt k u np m pc D) ∧ (∀ d, d < 60 → M 43 d = nI (zpl A bt k u np m pc D d))
theorem sp_trace (hK : zKok K) (hT : zTab M) (hC : zCk M np nw ns pc) (hf : ∀ M1, (∀ c, c ≠ 1 → c ≠ 9 → c ≠ 10 → c ≠ 11 → c ≠ 12 → M1 c = M c) → (∀ i, i ≠ 11 → i ≠ 12 → M1 1 i = M 1 i) → M1 1 11 = 0 → zTabOk M1 → zKx A M1 np nw ns pc m D) {bt k u : Nat} (ha : bt < 8 ∧ k < 60 ∧ u ≤ 60) (kk : ∀ M', zJc A M M' bt k u np nw ns pc m D → F none (X, b, zLay, K, B, M')) : zCall (d + 9) zm_Boats_trace [.ref 0, .ref 41, .int (nI bt), .int (nI k), .int (nI u)] (X, b, zLay, K, B, M) F := by
  refine zb_Boats_trace_0 hK bt k u ?_
  refine sp_freshen (d := d + 3) hK hC hT (fun M1 f1 f2 f3 f4 => ?_)
  have hX := hf M1 f1 f2 f3 f4
  refine zb_Boats_trace_7 hK bt k u ?_
  refine sp_gather (d := d + 5) hK hX ha (fun M2 g => ?_)
  refine zb_Boats_trace_19 bt k u ?_
  obtain ⟨g1, g2, g3, g4, g5⟩ := id g
  have hX2 := zKx_same (M2 := M2) (fun c hc => g1 c (by omega) (by omega)) hX
  have hnp := hX.1.2.2.2.2.1.1
  have fl := zfl (bt := bt) (k := k) (u := u) hX.2.2.2.2.1
  have tab : ∀ M3 : Nat → Nat → Int32, (∀ c, 1 ≤ c → c ≤ 12 → M3 c = M2 c) → zTabOk M3 := fun M3 h => zTabOk_same (fun c h1 h2 => by rw [h c h1 h2, g1 c (by omega) (by omega)]) f4
  by_cases hn : zfi A bt k u m < 60
  · have hl := (fl.2.2.2.1 hn)
    have hL : zSi A M2 np nw ns pc m D (zfi A bt k u m) (zla A bt k u m - 1) (zal A np bt k u m) := by
      refine ⟨by rw [g3, zfI_n hn], by rw [g4]; unfold zlI; rw [if_neg (by omega)], ⟨by omega, by omega⟩, ?_, fun e r h1 h2 hr => ?_, hX2, fun e => zal_lt _ _ _ _ _ _ _⟩
      · rw [g5 _ (by omega)]; unfold zav; rw [hl.2.1]; rfl
      · rw [g5 e (by omega)]; exact zav_and hr
    refine sp_settle (d := d + 4) hK hL (fun M3 s => ?_)
    obtain ⟨s1, s2, s3, s4, s5⟩ := s
    refine zb_Boats_trace_23 bt k u ?_
    refine kk M3 ⟨fun c h1 h2 h3 h4 h5 h6 h7 h8 => ?_, fun i h1 h2 => ?_, ?_, tab M3 (fun c h1 h2 => s1 c (by omega) (by omega)), ?_, ?_, fun e he => ?_, zKx_same (fun c hc => s1 c (by omega) (by omega)) hX2, ?_, fun e he => ?_⟩
    · rw [s1 c h6 h8, g1 c h6 h7, f1 c h1 h2 h3 h4 h5]
    · rw [s1 1 (by decide) (by decide), g1 1 (by decide) (by decide), f2 i h1 h2]
    · rw [s1 1 (by decide) (by decide), g1 1 (by decide) (by decide), f3]
    · rw [s2 1 (by decide), g3]
    · rw [s2 2 (by decide), g4]
    · rw [s1 42 (by decide) (by decide), g5 e he]
    · rw [s3]
      unfold zpos
      rw [zblt_t hn, Bool.true_and]
      congr 1
      by_cases q : zld (fun d S => zrc np pc (D d) S) (zal A np bt k u m) (zfi A bt k u m) (zla A bt k u m - 1 - zfi A bt k u m) = 0
      · rw [q]; rfl
      · rw [decide_eq_true q, zbeq_f q]; rfl
    · unfold zpl
      by_cases q : zfi A bt k u m ≤ e ∧ e < zla A bt k u m
      · rw [if_pos ⟨hn, q.1, q.2⟩, s4 e q.1 (by omega)]
      · rw [if_neg (fun z => q z.2), s5 e he (by omega)]; rfl
  · have e60 : zfi A bt k u m = 60 := by have := fl.1; omega
    refine sp_settleN (d := d + 4) hK (by rw [g3, e60]; rfl) ?_
    refine zb_Boats_trace_23 bt k u ?_
    have keep : ∀ c, c ≠ 41 → c ≠ 43 → zu (zw M2 43 (fun i => if i < 60 then 0 else M2 43 i)) 41 3 0 c = M2 c := fun c h1 h2 => by funext i; rw [zu_no (by omega), zw_no h2]
    refine kk _ ⟨fun c h1 h2 h3 h4 h5 h6 h7 h8 => ?_, fun i h1 h2 => ?_, ?_, tab _ (fun c h1 h2 => keep c (by omega) (by omega)), ?_, ?_, fun e he => ?_, zKx_same (fun c hc => keep c (by omega) (by omega)) hX2, ?_, fun e he => ?_⟩
    · rw [keep c h6 h8, g1 c h6 h7, f1 c h1 h2 h3 h4 h5]
    · rw [keep 1 (by decide) (by decide), g1 1 (by decide) (by decide), f2 i h1 h2]
    · rw [keep 1 (by decide) (by decide), g1 1 (by decide) (by decide), f3]
    · rw [zu_no (by omega), zw_no (by decide), g3]
    · rw [zu_no (by omega), zw_no (by decide), g4]
    · rw [keep 42 (by decide) (by decide), g5 e he]
    · rw [zu_yes]
      unfold zpos
      rw [zblt_f (by omega)]; rfl
    · rw [zu_no (by omega), zw_yes, if_pos he]
      unfold zpl
      rw [if_neg (fun z => hn z.1)]; rfl
end JC
section JCO
variable {d : Nat} {F : Option Value → zS → Prop} {X : zX} {b : Nat × Nat} {K : Nat → Nat → Option Nat} {B : Nat → Nat → Int64} {M : Nat → Nat → Int32} {A : Nat → Int32} {np nw ns pc m : Nat} {D : Nat → Nat → Nat → Nat}
/-- behind gather -/
def zGaO (A : Nat → Int32) (M0 M : Nat → Nat → Int32) (bt k u np m : Nat) : Prop := (∀ c, c ≠ 46 → c ≠ 47 → M c = M0 c) ∧ (∀ i, i ≠ 1 → i ≠ 2 → M 46 i = M0 46 i) ∧ M 46 1 = zfI (zfi A bt k u m) ∧ M 46 2 = zlI (zla A bt k u m) ∧ ∀ d, d < 60 → M 47 d = zav A np bt k u m d
theorem lp_gaO {M0 : Nat → Nat → Int32} (hK : zKok K) (hX : zKx A M0 np nw ns pc m D) {bt k u : Nat} (ha : bt < 8 ∧ k < 60 ∧ u ≤ 60) (kk : ∀ M, zGaO A M0 M bt k u np m → F none (X, b, zLay, K, B, M)) : ∀ (n j : Nat) (M : Nat → Nat → Int32) (l6 : Value), l6.category = 1 → j + n = m → zGaO A M0 M bt k u np j → zEx (zCall (d + 2)) 2 false 0 zc_Journeys_gather F 21 [.ref 46, .ref 13, .int (nI bt), .int (nI k), .int (nI u), .int (nI j), l6] [] (X, b, zLay, K, B, M) := by
  have hm := hX.2.2.1
  have hSo := hX.2.2.2.2.1
  have hnp := hX.1.2.2.2.2.1.1
  intro n
  induction n with
  | zero =>
    intro j M l6 q6 hj hl
    have hj : j = m := by omega
    subst hj
    exact zb_Journeys_gatherO_21 hK bt k u j l6 q6 ha hm (zKx_same (fun c hc => hl.1 c (by omega) (by omega)) hX) (by omega) (fun h => absurd h (by omega)) (fun _ => kk M hl) (fun h => absurd h (by omega)) (fun h => absurd h (by omega)) (fun h => absurd h (by omega)) (fun h => absurd h (by omega)) (fun h => absurd h (by omega))
  | succ n ih =>
    intro j M l6 q6 hj hl
    obtain ⟨s1, s2, s3, s0⟩ := hSo j (by omega)
    have hX' := zKx_same (M2 := M) (fun c hc => hl.1 c (by omega) (by omega)) hX
    obtain ⟨a1, a2, a3, a4, a5⟩ := hl
    have fl := zfl (bt := bt) (k := k) (u := u) (m := j) (fun i hi => hSo i (by omega))
    have ef : zfi A bt k u (j + 1) = bif zsm A bt k u j then min (zfi A bt k u j) (zsn A 2 j) else zfi A bt k u j := rfl
    have el : zla A bt k u (j + 1) = bif zsm A bt k u j then max (zla A bt k u j) (zsn A 2 j + 1) else zla A bt k u j := rfl
    have ea : ∀ e, zal A np bt k u (j + 1) e = bif zsm A bt k u j && Nat.beq (zsn A 2 j) e then zal A np bt k u j e &&& 2 ^ (zsn A 1 j) else zal A np bt k u j e := fun _ => rfl
    have es : ∀ e, zsd A bt k u (j + 1) e = (zsd A bt k u j e || (zsm A bt k u j && Nat.beq (zsn A 2 j) e)) := fun _ => rfl
    have no : zsm A bt k u j = false → ∀ w6 : Value, w6.category = 1 → zEx (zCall (d + 2)) 2 false 0 zc_Journeys_gather F 21 [.ref 46, .ref 13, .int (nI bt), .int (nI k), .int (nI u), .int (nI (j + 1)), w6] [] (X, b, zLay, K, B, M) := by
      intro hm w6 h6
      refine ih (j + 1) M w6 h6 (by omega) ⟨a1, a2, ?_, ?_, fun e he => ?_⟩
      · rw [a3, ef, hm, cond_false]
      · rw [a4, el, hm, cond_false]
      · rw [a5 e he]
        unfold zav
        rw [ea, es, hm, Bool.false_and, cond_false, Bool.or_false]
    have go : zsm A bt k u j = true → ∀ (x1 x2 : Int32) (w6 : Value), w6.category = 1 → x1 = zfI (min (zfi A bt k u j) (zsn A 2 j)) → x2 = zlI (max (zla A bt k u j) (zsn A 2 j + 1)) → zEx (zCall (d + 2)) 2 false 0 zc_Journeys_gather F 21 [.ref 46, .ref 13, .int (nI bt), .int (nI k), .int (nI u), .int (nI (j + 1)), w6] [] (X, b, zLay, K, B, (zu (zu (zu M 47 (zsn A 2 j) ((M 47 (zsn A 2 j)) &&& (nI (2 ^ (zsn A 1 j))))) 46 1 x1) 46 2 x2)) := by
      intro hm x1 x2 w6 h6 e33 e34
      refine ih (j + 1) _ w6 h6 (by omega) ⟨fun c h1 h2 => ?_, fun i h1 h2 => ?_, ?_, ?_, fun e he => ?_⟩
      · funext i; rw [zu_no (by omega), zu_no (by omega), zu_no (by omega), a1 c h1 h2]
      · rw [zu_no (by omega), zu_no (by omega), zu_no (by omega), a2 i h1 h2]
      · rw [zu_no (by omega), zu_yes, e33, ef, hm, cond_true]
      · rw [zu_yes, e34, el, hm, cond_true]
      · rw [zu_no (by omega), zu_no (by omega)]
        by_cases q : zsn A 2 j = e
        · subst q
          rw [zu_yes, a5 _ s2, zav_and (zp2lt s1)]
          unfold zav
          rw [es, ea, hm, Bool.true_and, Nat.beq_refl, Bool.or_true, cond_true, cond_true]
        · rw [zu_no (by omega), a5 e he]
          unfold zav
          rw [es, ea, hm, Bool.true_and, zbeq_f q, Bool.or_false, cond_false]
    have yes : zsn A 0 j = bt → zsn A 3 j ≤ k → zsn A 2 j ≤ u → zsm A bt k u j = true := by
      intro h1 h2 h3
      unfold zsm
      rw [h1, Nat.beq_refl, Nat.ble_eq_true_of_le h2, Nat.ble_eq_true_of_le h3]; rfl
    have k60 := zfI_60 fl.1
    have kl := zlI_le (x := zsn A 2 j) fl.2.1 s2
    have last : (if M 46 2 < nI (zsn A 2 j) then nI (zsn A 2 j) else M 46 2) = zlI (max (zla A bt k u j) (zsn A 2 j + 1)) := by
      rw [a4]
      by_cases q : zsn A 2 j + 1 ≤ zla A bt k u j
      · rw [if_neg (Int32.not_lt.mpr (kl.mpr q)), Nat.max_eq_left q]
      · rw [if_pos (Int32.not_le.mp (fun z => q (kl.mp z))), Nat.max_eq_right (by omega), zlI_s]
    refine zb_Journeys_gatherO_21 hK bt k u j l6 q6 ha hm hX' (by omega) (fun _ => ⟨by omega, s2, s3, s0⟩) (fun h => absurd h (by omega)) (fun _ h => no ?_ _ rfl) (fun _ _ h => no ?_ _ rfl) (fun _ h1 h2 h3 h4 => go (yes h1 h2 h3) _ _ _ rfl ?_ last) (fun _ h1 h2 h3 h4 => go (yes h1 h2 h3) _ _ _ rfl ?_ last) (fun _ _ _ h => no ?_ _ rfl)
    · unfold zsm; rw [zbeq_f h]; rfl
    · unfold zsm; rw [zble_f h, Bool.false_and, Bool.and_false]
    · rw [a3] at h4 ⊢
      have hlt : zfi A bt k u j < 60 := by
        have := fl.1
        have : zfi A bt k u j ≠ 60 := fun q => h4 (k60.mpr q)
        omega
      rw [zfI_n hlt]
      by_cases q : zsn A 2 j < zfi A bt k u j
      · rw [if_pos (nI_lt q (by omega)), Nat.min_eq_right (by omega), zfI_n s2]
      · rw [if_neg (nI_nlt (by omega) (by omega)), Nat.min_eq_left (by omega), zfI_n hlt]
    · rw [a3] at h4
      have := k60.mp h4
      rw [Nat.min_eq_right (by omega), zfI_n s2]
    · unfold zsm; rw [zble_f h, Bool.and_false, Bool.and_false]
theorem sp_gatherO (hK : zKok K) (hX : zKx A M np nw ns pc m D) {bt k u : Nat} (ha : bt < 8 ∧ k < 60 ∧ u ≤ 60) (kk : ∀ M', zGaO A M M' bt k u np m → F none (X, b, zLay, K, B, M')) : zCall (d + 3) zm_Journeys_gather [.ref 46, .ref 13, .int (nI bt), .int (nI k), .int (nI u)] (X, b, zLay, K, B, M) F := by
  refine zb_Journeys_gatherO_0 (m := m) hK bt k u ha hX.2.2.1 ?_
  refine sp_fill (a := 47) (N := 60) rfl rfl ?_
  refine zb_Journeys_gatherO_18 (m := m) bt k u ha hX.2.2.1 ?_
  refine lp_gaO (M0 := M) hK hX ha kk m 0 _ .null rfl (by omega) ⟨fun c h1 h2 => ?_, fun i h1 h2 => ?_, ?_, ?_, fun e he => ?_⟩
  · rw [zw_no h2]; funext i; rw [zu_no (by omega), zu_no (by omega)]
  · rw [zw_no (by decide), zu_no (by omega), zu_no (by omega)]
  · rw [zw_no (by decide), zu_no (by omega), zu_yes]; rfl
  · rw [zw_no (by decide), zu_yes]; rfl
  · rw [zw_yes, if_pos he]; rfl
/-- what settle needs -/
def zSiO (A : Nat → Int32) (M : Nat → Nat → Int32) (np nw ns pc m : Nat) (D : Nat → Nat → Nat → Nat) (f g : Nat) (al : Nat → Nat) : Prop := M 46 1 = nI f ∧ M 46 2 = nI g ∧ (f ≤ g ∧ g < 60) ∧ M 47 f = nI (al f) ∧ (∀ e r, f < e → e ≤ g → r < 2 ^ np → M 47 e &&& nI r = nI (al e &&& r)) ∧ zKx A M np nw ns pc m D ∧ (∀ e, al e < 2 ^ np)
theorem zSiO_same {M0 M : Nat → Nat → Int32} {f g : Nat} {al : Nat → Nat} (h : ∀ c, c ≠ 46 → c ≠ 48 → M c = M0 c) (h2 : ∀ i, i ≠ 3 → M 46 i = M0 46 i) (k : zSiO A M0 np nw ns pc m D f g al) : zSiO A M np nw ns pc m D f g al := by
  obtain ⟨a1, a2, a3, a4, a5, a6, a7⟩ := k
  refine ⟨by rw [h2 1 (by decide)]; exact a1, by rw [h2 2 (by decide)]; exact a2, a3, by rw [h 47 (by decide) (by decide)]; exact a4, by rw [h 47 (by decide) (by decide)]; exact a5, zKx_same (fun c hc => h c (by omega) (by omega)) a6, a7⟩
theorem lp_se118O {M0 : Nat → Nat → Int32} {f g : Nat} {al : Nat → Nat} (hK : zKok K) (hL : zSiO A M0 np nw ns pc m D f g al) (kk : ∀ M, (∀ e, e ≠ 48 → M e = M0 e) → (∀ e, f ≤ e → e ≤ g → M 48 e = nI (zfn (fun d S => zrc np pc (D d) S) al f g (g - e))) → (∀ e, e < f ∨ g < e → M 48 e = M0 48 e) → F none (X, b, zLay, K, B, M)) : ∀ (n j : Nat) (M : Nat → Nat → Int32), j + n = g - f → (∀ e, e ≠ 48 → M e = M0 e) → (∀ e, f ≤ e → e ≤ g → M 48 e = nI (if g - j ≤ e then zfn (fun d S => zrc np pc (D d) S) al f g (g - e) else zld (fun d S => zrc np pc (D d) S) al f (e - f))) → (∀ e, e < f ∨ g < e → M 48 e = M0 48 e) → zEx (zCall (d + 3)) 2 false 0 zc_Journeys_settle F 118 [.ref 46, .int (nI (g - j) - 1)] [] (X, b, zLay, K, B, M) := by
  have hb := hL.2.2.2.2.2.1.1.2.2.2.2.1.1
  have hm := hL.2.2.2.2.2.1.2.2.1
  have hfg := hL.2.2.1
  intro n
  induction n with
  | zero =>
    intro j M hj hf h9 h8
    obtain ⟨a1, a2, a3, a4, a5, a6, a7⟩ := zSiO_same (M := M) (fun c h1 h2 => hf c h2) (fun i _ => by rw [hf 46 (by decide)]) hL
    refine zb_Journeys_settleOZ_118 _ a1 a2 a3 ?_ (fun _ => ?_) (fun h => absurd ?_ h)
    · rw [show g - j = f by omega, zlt, zsub1 (by omega), nI_toInt (by omega)]; omega
    · refine kk M hf (fun e h1 h2 => ?_) h8
      rw [h9 e h1 h2, if_pos (by omega)]
    · rw [show g - j = f by omega, zlt, zsub1 (by omega), nI_toInt (by omega)]; omega
  | succ n ih =>
    intro j M hj hf h9 h8
    obtain ⟨a1, a2, a3, a4, a5, a6, a7⟩ := zSiO_same (M := M) (fun c h1 h2 => hf c h2) (fun i _ => by rw [hf 46 (by decide)]) hL
    have hw : zfn (fun d S => zrc np pc (D d) S) al f g j < 1024 := zp1024 (zfn_lt a7 f g j) hb
    have hv : zld (fun d S => zrc np pc (D d) S) al f (g - (j + 1) - f) < 1024 := zp1024 (zld_lt a7 f _) hb
    have e1 : nI (g - j) - 1 = nI (g - (j + 1)) := by
      rw [show g - j = (g - (j + 1)) + 1 by omega, nI_pred]
    rw [e1]
    refine zb_Journeys_settleO_118 (v := zld (fun d S => zrc np pc (D d) S) al f (g - (j + 1) - f)) (w := zfn (fun d S => zrc np pc (D d) S) al f g j) hK (g - (j + 1)) a1 a2 a3 a6 ⟨hb, hm⟩ (by omega) (fun _ => ?_) hv (fun _ => ?_) hw (fun h => absurd h (by omega)) (fun _ => ?_)
    · rw [h9 _ (by omega) (by omega), if_neg (by omega)]
    · rw [h9 _ (by omega) (by omega), if_pos (by omega)]
      congr 2
      omega
    · have := ih (j + 1) (zu M 48 (g - (j + 1)) (nI (zld (fun d S => zrc np pc (D d) S) al f (g - (j + 1) - f) &&& zrc np pc (D (g - (j + 1) + 1)) (zfn (fun d S => zrc np pc (D d) S) al f g j)))) (by omega) (fun e he => by funext i; rw [zu_no (by omega), hf e he]) (fun e h1 h2 => ?_) (fun e he => ?_)
      · rw [Int32.sub_eq_add_neg] at this
        exact this
      · by_cases q : e = g - (j + 1)
        · subst q
          rw [zu_yes, if_pos (Nat.le_refl _), show g - (g - (j + 1)) = j + 1 by omega, show g - (j + 1) + 1 = g - j by omega]
          rfl
        · rw [zu_no (by omega), h9 e h1 h2]
          by_cases z : g - j ≤ e
          · rw [if_pos z, if_pos (by omega)]
          · rw [if_neg z, if_neg (by omega)]
      · rw [zu_no (by omega), h8 e he]
theorem lp_se47O {M0 : Nat → Nat → Int32} {f g : Nat} {al : Nat → Nat} (hK : zKok K) (hL : zSiO A M0 np nw ns pc m D f g al) (kk : ∀ M, (∀ c, c ≠ 46 → c ≠ 48 → M c = M0 c) → (∀ i, i ≠ 3 → M 46 i = M0 46 i) → M 46 3 = zbi (decide (zld (fun d S => zrc np pc (D d) S) al f (g - f) ≠ 0)) → (∀ e, f ≤ e → e ≤ g → M 48 e = nI (zfn (fun d S => zrc np pc (D d) S) al f g (g - e))) → (∀ e, e < f ∨ g < e → M 48 e = M0 48 e) → F none (X, b, zLay, K, B, M)) : ∀ (n j : Nat) (M : Nat → Nat → Int32), j + n = g - f → (∀ c, c ≠ 46 → c ≠ 48 → M c = M0 c) → (∀ i, i ≠ 3 → M 46 i = M0 46 i) → (∀ i, i ≤ j → M 48 (f + i) = nI (zld (fun d S => zrc np pc (D d) S) al f i)) → (∀ e, e < f ∨ g < e → M 48 e = M0 48 e) → zEx (zCall (d + 3)) 2 false 0 zc_Journeys_settle F 47 [.ref 46, .int (nI (f + j + 1))] [] (X, b, zLay, K, B, M) := by
  have hb := hL.2.2.2.2.2.1.1.2.2.2.2.1.1
  have hm := hL.2.2.2.2.2.1.2.2.1
  have hfg := hL.2.2.1
  intro n
  induction n with
  | zero =>
    intro j M hj hf hf3 h9 h8
    obtain ⟨a1, a2, a3, a4, a5, a6, a7⟩ := zSiO_same (M := M) hf hf3 hL
    have hv : zld (fun d S => zrc np pc (D d) S) al f j < 1024 := zp1024 (zld_lt a7 f _) hb
    have hj2 : j = g - f := by omega
    have go : ∀ v3 : Int32, v3 = zbi (decide (zld (fun d S => zrc np pc (D d) S) al f (g - f) ≠ 0)) → zEx (zCall (d + 3)) 2 false 0 zc_Journeys_settle F 118 [.ref 46, .int (nI g - 1)] [] (X, b, zLay, K, B, zu M 46 3 v3) := by
      intro v3 e3
      have hL2 : zSiO A (zu M 46 3 v3) np nw ns pc m D f g al := zSiO_same (fun c h1 h2 => by funext i; rw [zu_no (by omega), hf c h1 h2]) (fun i hi => by rw [zu_no (by omega), hf3 i hi]) hL
      refine lp_se118O (M0 := zu M 46 3 v3) hK hL2 (fun M1 z1 z2 z3 => ?_) (g - f) 0 _ (by omega) (fun _ _ => rfl) (fun e h1 h2 => ?_) (fun _ _ => rfl)
      · refine kk M1 (fun c h1 h2 => ?_) (fun i hi => ?_) ?_ z2 (fun e he => ?_)
        · rw [z1 c h2]; funext i; rw [zu_no (by omega), hf c h1 h2]
        · rw [z1 46 (by decide), zu_no (by omega), hf3 i hi]
        · rw [z1 46 (by decide), zu_yes, e3]
        · rw [z3 e he, zu_no (by omega), h8 e he]
      · rw [zu_no (by omega)]
        have := h9 (e - f) (by omega)
        rw [show f + (e - f) = e by omega] at this
        rw [this]
        by_cases q : g - 0 ≤ e
        · rw [if_pos q, show g - e = 0 by omega, show e - f = g - f by omega]; rfl
        · rw [if_neg q]
    have e9 : M 48 g = nI (zld (fun d S => zrc np pc (D d) S) al f j) := by
      have := h9 j (Nat.le_refl _)
      rw [show f + j = g by omega] at this
      exact this
    refine zb_Journeys_settleO_47 (al := al) (v := zld (fun d S => zrc np pc (D d) S) al f j) hK (f + j + 1) a1 a2 a3 a6 ⟨hb, hm⟩ (by omega) (by rw [show f + j + 1 - 1 = g by omega]; exact e9) hv (fun h => absurd h (by omega)) (fun _ => e9) (fun _ h => go _ ?_) (fun _ h => go _ ?_) (fun h => absurd h (by omega))
    · rw [hj2] at h
      rw [decide_eq_false (fun q => q h)]; rfl
    · rw [hj2] at h
      rw [decide_eq_true h]; rfl
  | succ n ih =>
    intro j M hj hf hf3 h9 h8
    obtain ⟨a1, a2, a3, a4, a5, a6, a7⟩ := zSiO_same (M := M) hf hf3 hL
    have hv : zld (fun d S => zrc np pc (D d) S) al f j < 1024 := zp1024 (zld_lt a7 f _) hb
    refine zb_Journeys_settleO_47 (al := al) (v := zld (fun d S => zrc np pc (D d) S) al f j) hK (f + j + 1) a1 a2 a3 a6 ⟨hb, hm⟩ (by omega) ?_ hv (fun _ r hr => a5 _ r (by omega) (by omega) hr) (fun h => absurd h (by omega)) (fun h => absurd h (by omega)) (fun h => absurd h (by omega)) (fun _ => ?_)
    · rw [show f + j + 1 - 1 = f + j by omega]; exact h9 j (Nat.le_refl _)
    · refine ih (j + 1) _ (by omega) (fun c h1 h2 => by funext i; rw [zu_no (by omega), hf c h1 h2]) (fun i hi => by rw [zu_no (by omega), hf3 i hi]) (fun i hi => ?_) (fun e he => by rw [zu_no (by omega), h8 e he])
      by_cases q : i = j + 1
      · subst q
        rw [show f + (j + 1) = f + j + 1 by omega, zu_yes]
        rfl
      · rw [zu_no (by omega)]; exact h9 i (by omega)
/-- behind settle, where something was seen -/
def zSeO (M0 M : Nat → Nat → Int32) (np pc : Nat) (D : Nat → Nat → Nat → Nat) (f g : Nat) (al : Nat → Nat) : Prop := (∀ c, c ≠ 46 → c ≠ 48 → M c = M0 c) ∧ (∀ i, i ≠ 3 → M 46 i = M0 46 i) ∧ M 46 3 = zbi (decide (zld (fun d S => zrc np pc (D d) S) al f (g - f) ≠ 0)) ∧ (∀ e, f ≤ e → e ≤ g → M 48 e = nI (zfn (fun d S => zrc np pc (D d) S) al f g (g - e))) ∧ (∀ e, e < 60 → e < f ∨ g < e → M 48 e = 0)
theorem sp_settleO {f g : Nat} {al : Nat → Nat} (hK : zKok K) (hL : zSiO A M np nw ns pc m D f g al) (kk : ∀ M', zSeO M M' np pc D f g al → F none (X, b, zLay, K, B, M')) : zCall (d + 4) zm_Journeys_settle [.ref 46] (X, b, zLay, K, B, M) F := by
  have hb := hL.2.2.2.2.2.1.1.2.2.2.2.1.1
  have hfg := hL.2.2.1
  refine zb_Journeys_settleO_0 hK ?_
  refine sp_fill (a := 48) (N := 60) rfl rfl ?_
  have hL1 : zSiO A (zw M 48 (fun i => if i < 60 then 0 else M 48 i)) np nw ns pc m D f g al := zSiO_same (fun c h1 h2 => by rw [zw_no h2]) (fun i _ => by rw [zw_no (by decide)]) hL
  obtain ⟨a1, a2, a3, a4, a5, a6, a7⟩ := id hL1
  refine zb_Journeys_settleO_8 hK a1 a2 a3 a4 (zp1024 (a7 f) hb) ?_
  refine lp_se47O (M0 := zu (zw M 48 (fun i => if i < 60 then 0 else M 48 i)) 46 3 0) hK (zSiO_same (fun c h1 h2 => by funext i; rw [zu_no (by omega)]) (fun i hi => by rw [zu_no (by omega)]) hL1) (fun M1 z1 z2 z3 z4 z5 => ?_) (g - f) 0 _ (by omega) (fun c h1 h2 => by funext i; rw [zu_no (by omega)]) (fun i hi => by rw [zu_no (by omega)]) (fun i hi => ?_) (fun e he => by rw [zu_no (by omega)])
  · refine kk M1 ⟨fun c h1 h2 => ?_, fun i hi => ?_, z3, z4, fun e h60 he => ?_⟩
    · rw [z1 c h1 h2]; funext i; rw [zu_no (by omega), zw_no h2]
    · rw [z2 i hi, zu_no (by omega), zw_no (by decide)]
    · rw [z5 e he, zu_no (by omega), zw_yes, if_pos h60]
  · have : i = 0 := by omega
    subst this
    rw [show f + 0 = f by omega, zu_yes]
    rfl
theorem sp_settleNO (hK : zKok K) (hn : M 46 1 = -1) (kk : F none (X, b, zLay, K, B, zu (zw M 48 (fun i => if i < 60 then 0 else M 48 i)) 46 3 0)) : zCall (d + 4) zm_Journeys_settle [.ref 46] (X, b, zLay, K, B, M) F := by
  refine zb_Journeys_settleO_0 hK ?_
  refine sp_fill (a := 48) (N := 60) rfl rfl ?_
  exact zb_Journeys_settleON_8 (by rw [zw_no (by decide)]; exact hn) kk
/-- behind trace -/
def zJcO (A : Nat → Int32) (M0 M : Nat → Nat → Int32) (bt k u np nw ns pc m : Nat) (D : Nat → Nat → Nat → Nat) : Prop := (∀ c, c ≠ 1 → c ≠ 9 → c ≠ 10 → c ≠ 11 → c ≠ 12 → c ≠ 46 → c ≠ 47 → c ≠ 48 → M c = M0 c) ∧ (∀ i, i ≠ 11 → i ≠ 12 → M 1 i = M0 1 i) ∧ M 1 11 = 0 ∧ zTabOk M ∧ M 46 1 = zfI (zfi A bt k u m) ∧ M 46 2 = zlI (zla A bt k u m) ∧ (∀ d, d < 60 → M 47 d = zav A np bt k u m d) ∧ zKx A M np nw ns pc m D ∧ M 46 3 = zbi (zpos A bt k u np m pc D) ∧ (∀ d, d < 60 → M 48 d = nI (zpl A bt k u np m pc D d))
theorem sp_traceO (hK : zKok K) (hT : zTab M) (hC : zCk M np nw ns pc) (hf : ∀ M1, (∀ c, c ≠ 1 → c ≠ 9 → c ≠ 10 → c ≠ 11 → c ≠ 12 → M1 c = M c) → (∀ i, i ≠ 11 → i ≠ 12 → M1 1 i = M 1 i) → M1 1 11 = 0 → zTabOk M1 → zKx A M1 np nw ns pc m D) {bt k u : Nat} (ha : bt < 8 ∧ k < 60 ∧ u ≤ 60) (kk : ∀ M', zJcO A M M' bt k u np nw ns pc m D → F none (X, b, zLay, K, B, M')) : zCall (d + 9) zm_Boats_trace [.ref 0, .ref 46, .int (nI bt), .int (nI k), .int (nI u)] (X, b, zLay, K, B, M) F := by
  refine zb_Boats_traceO_0 hK bt k u ?_
  refine sp_freshen (d := d + 3) hK hC hT (fun M1 f1 f2 f3 f4 => ?_)
  have hX := hf M1 f1 f2 f3 f4
  refine zb_Boats_traceO_7 hK bt k u ?_
  refine sp_gatherO (d := d + 5) hK hX ha (fun M2 g => ?_)
  refine zb_Boats_traceO_19 bt k u ?_
  obtain ⟨g1, g2, g3, g4, g5⟩ := id g
  have hX2 := zKx_same (M2 := M2) (fun c hc => g1 c (by omega) (by omega)) hX
  have hnp := hX.1.2.2.2.2.1.1
  have fl := zfl (bt := bt) (k := k) (u := u) hX.2.2.2.2.1
  have tab : ∀ M3 : Nat → Nat → Int32, (∀ c, 1 ≤ c → c ≤ 12 → M3 c = M2 c) → zTabOk M3 := fun M3 h => zTabOk_same (fun c h1 h2 => by rw [h c h1 h2, g1 c (by omega) (by omega)]) f4
  by_cases hn : zfi A bt k u m < 60
  · have hl := (fl.2.2.2.1 hn)
    have hL : zSiO A M2 np nw ns pc m D (zfi A bt k u m) (zla A bt k u m - 1) (zal A np bt k u m) := by
      refine ⟨by rw [g3, zfI_n hn], by rw [g4]; unfold zlI; rw [if_neg (by omega)], ⟨by omega, by omega⟩, ?_, fun e r h1 h2 hr => ?_, hX2, fun e => zal_lt _ _ _ _ _ _ _⟩
      · rw [g5 _ (by omega)]; unfold zav; rw [hl.2.1]; rfl
      · rw [g5 e (by omega)]; exact zav_and hr
    refine sp_settleO (d := d + 4) hK hL (fun M3 s => ?_)
    obtain ⟨s1, s2, s3, s4, s5⟩ := s
    refine zb_Boats_traceO_23 bt k u ?_
    refine kk M3 ⟨fun c h1 h2 h3 h4 h5 h6 h7 h8 => ?_, fun i h1 h2 => ?_, ?_, tab M3 (fun c h1 h2 => s1 c (by omega) (by omega)), ?_, ?_, fun e he => ?_, zKx_same (fun c hc => s1 c (by omega) (by omega)) hX2, ?_, fun e he => ?_⟩
    · rw [s1 c h6 h8, g1 c h6 h7, f1 c h1 h2 h3 h4 h5]
    · rw [s1 1 (by decide) (by decide), g1 1 (by decide) (by decide), f2 i h1 h2]
    · rw [s1 1 (by decide) (by decide), g1 1 (by decide) (by decide), f3]
    · rw [s2 1 (by decide), g3]
    · rw [s2 2 (by decide), g4]
    · rw [s1 47 (by decide) (by decide), g5 e he]
    · rw [s3]
      unfold zpos
      rw [zblt_t hn, Bool.true_and]
      congr 1
      by_cases q : zld (fun d S => zrc np pc (D d) S) (zal A np bt k u m) (zfi A bt k u m) (zla A bt k u m - 1 - zfi A bt k u m) = 0
      · rw [q]; rfl
      · rw [decide_eq_true q, zbeq_f q]; rfl
    · unfold zpl
      by_cases q : zfi A bt k u m ≤ e ∧ e < zla A bt k u m
      · rw [if_pos ⟨hn, q.1, q.2⟩, s4 e q.1 (by omega)]
      · rw [if_neg (fun z => q z.2), s5 e he (by omega)]; rfl
  · have e60 : zfi A bt k u m = 60 := by have := fl.1; omega
    refine sp_settleNO (d := d + 4) hK (by rw [g3, e60]; rfl) ?_
    refine zb_Boats_traceO_23 bt k u ?_
    have keep : ∀ c, c ≠ 46 → c ≠ 48 → zu (zw M2 48 (fun i => if i < 60 then 0 else M2 48 i)) 46 3 0 c = M2 c := fun c h1 h2 => by funext i; rw [zu_no (by omega), zw_no h2]
    refine kk _ ⟨fun c h1 h2 h3 h4 h5 h6 h7 h8 => ?_, fun i h1 h2 => ?_, ?_, tab _ (fun c h1 h2 => keep c (by omega) (by omega)), ?_, ?_, fun e he => ?_, zKx_same (fun c hc => keep c (by omega) (by omega)) hX2, ?_, fun e he => ?_⟩
    · rw [keep c h6 h8, g1 c h6 h7, f1 c h1 h2 h3 h4 h5]
    · rw [keep 1 (by decide) (by decide), g1 1 (by decide) (by decide), f2 i h1 h2]
    · rw [keep 1 (by decide) (by decide), g1 1 (by decide) (by decide), f3]
    · rw [zu_no (by omega), zw_no (by decide), g3]
    · rw [zu_no (by omega), zw_no (by decide), g4]
    · rw [keep 47 (by decide) (by decide), g5 e he]
    · rw [zu_yes]
      unfold zpos
      rw [zblt_f (by omega)]; rfl
    · rw [zu_no (by omega), zw_yes, if_pos he]
      unfold zpl
      rw [if_neg (fun z => hn z.1)]; rfl
end JCO
