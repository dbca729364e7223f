/-! ===== leads ===== -/
section LD
variable {d : Nat} {F : Option Value → zS → Prop} {X : zX} {b : Nat × Nat} {K : Nat → Nat → Option Nat} {B : Nat → Nat → Int64} {np m pc f g : Nat} {al : Nat → Nat} {D : Nat → Nat → Nat → Nat}
/-- the state while leads works: first, last, allowed as given; only led and back are written -/
def zLg (M0 M : Nat → Nat → Int32) : Prop := ∀ c, c ≠ 89 → c ≠ 90 → M c = M0 c
/-- what leads needs -/
def zLi (M : Nat → Nat → Int32) (np m pc f g : Nat) (al : Nat → Nat) (D : Nat → Nat → Nat → Nat) : Prop := M 71 33 = nI f ∧ M 71 34 = nI g ∧ (f ≤ g ∧ g < 60) ∧ (∀ d, d < 60 → M 88 d = nI (al d)) ∧ zRf87 M np m pc D ∧ (∀ d, al d < 2 ^ np)
theorem zLi_same {M0 M : Nat → Nat → Int32} (h : zLg M0 M) (k : zLi M0 np m pc f g al D) : zLi M np m pc f g al D := by
  obtain ⟨a1, a2, a3, a4, a5, a6⟩ := k
  refine ⟨?_, ?_, a3, ?_, zRf87_same a5 (h 72 (by decide) (by decide)) (h 87 (by decide) (by decide)), a6⟩
  · rw [h 71 (by decide) (by decide)]; exact a1
  · rw [h 71 (by decide) (by decide)]; exact a2
  · rw [h 88 (by decide) (by decide)]; exact a4
theorem zp1024 {x n : Nat} (h : x < 2 ^ n) (hn : n ≤ 10) : x < 1024 := by
  have : 2 ^ n ≤ 2 ^ 10 := Nat.pow_le_pow_right (by decide) hn
  omega
theorem lp_ld91 {M0 : Nat → Nat → Int32} (hK : zKok K) (hL : zLi M0 np m pc f g al D) {v : Nat} (hv : v < 1024) (kk : ∀ M, zLg M0 M → (∀ e, e ≠ 90 → M e = M0 e) → (∀ j, j ≤ g - f → M 90 (g - j) = nI (zbk (fun d S => zrc np pc (D d) S) al g j)) → F (some (.int (zbi (decide (v ≠ 0))))) (X, b, zLay, K, B, M)) (h89 : M0 89 g = nI v) : ∀ (n j : Nat) (M : Nat → Nat → Int32), j + n = g - f → (∀ e, e ≠ 90 → M e = M0 e) → (∀ i, i ≤ j → M 90 (g - i) = nI (zbk (fun d S => zrc np pc (D d) S) al g i)) → zEx (zCall (d + 2)) 10 false 2 zc_Model_leads F 91 [.ref 71, .int (nI (g - j) - 1)] [] (X, b, zLay, K, B, M) := by
  have hb := hL.2.2.2.2.1.1.2.2.1
  have hfg := hL.2.2.1
  intro n
  induction n with
  | zero =>
    intro j M hj hf h9
    have hg0 : zLg M0 M := fun c _ h2 => hf c h2
    obtain ⟨a1, a2, a3, a4, a5, a6⟩ := zLi_same hg0 hL
    have e89 : M 89 g = nI v := by rw [hf 89 (by decide)]; exact h89
    refine zb_Model_leadsZ_91 (np := np) (m := m) (pc := pc) (w := 0) (D := D) hK _ a1 a2 a3 a4 ?_ e89 hv (fun _ h => ?_) (fun _ h => ?_) (fun h => absurd ?_ h)
    · rw [show g - j = f by omega, zlt, zsub1 (by omega), nI_toInt (by omega)]; omega
    · have e := kk M hg0 hf (fun i hi => h9 i (by omega))
      rw [decide_eq_false (fun q => q h)] at e
      exact e
    · have e := kk M hg0 hf (fun i hi => h9 i (by omega))
      rw [decide_eq_true h] at e
      exact e
    · rw [show g - j = f by omega, zlt, zsub1 (by omega), nI_toInt (by omega)]; omega
  | succ n ih =>
    intro j M hj hf h9
    have hg0 : zLg M0 M := fun c _ h2 => hf c h2
    obtain ⟨a1, a2, a3, a4, a5, a6⟩ := zLi_same hg0 hL
    have hw : zbk (fun d S => zrc np pc (D d) S) al g j < 1024 := zp1024 (zbk_lt a6 g j) (by omega)
    have e1 : nI (g - j) - 1 = nI (g - (j + 1)) := by
      rw [show g - j = (g - (j + 1)) + 1 by omega, nI_pred]
    rw [e1]
    refine zb_Model_leads_91 (v := 0) (w := zbk (fun d S => zrc np pc (D d) S) al g j) hK (g - (j + 1)) a1 a2 a3 a4 a5 (by omega) (fun e => zp1024 (a6 e) (by omega)) (by omega) (fun _ => ?_) hw (fun h => absurd h (by omega)) (by omega) (fun h => absurd h (by omega)) (fun h => absurd h (by omega)) (fun _ => ?_)
    · rw [show g - (j + 1) + 1 = g - j by omega]; exact h9 j (Nat.le_refl _)
    · have := ih (j + 1) (zu M 90 (g - (j + 1)) (nI (al (g - (j + 1)) &&& zrc np pc (D (g - (j + 1) + 1)) (zbk (fun d S => zrc np pc (D d) S) al g j)))) (by omega) (fun e he => by funext i; rw [zu_no (by omega), hf e he]) (fun i hi => ?_)
      · rw [Int32.sub_eq_add_neg] at this
        exact this
      · by_cases q : i = j + 1
        · subst q
          rw [zu_yes, show g - (j + 1) + 1 = g - j by omega]
          rfl
        · rw [zu_no (by omega)]; exact h9 i (by omega)
theorem lp_ld25 {M0 : Nat → Nat → Int32} (hK : zKok K) (hL : zLi M0 np m pc f g al D) (kk : ∀ M, zLg M0 M → (∀ j, j ≤ g - f → M 89 (f + j) = nI (zld (fun d S => zrc np pc (D d) S) al f j)) → (∀ j, j ≤ g - f → M 90 (g - j) = nI (zbk (fun d S => zrc np pc (D d) S) al g j)) → F (some (.int (zbi (decide (zld (fun d S => zrc np pc (D d) S) al f (g - f) ≠ 0))))) (X, b, zLay, K, B, M)) : ∀ (n j : Nat) (M : Nat → Nat → Int32), j + n = g - f → zLg M0 M → (∀ i, i ≤ j → M 89 (f + i) = nI (zld (fun d S => zrc np pc (D d) S) al f i)) → zEx (zCall (d + 2)) 10 false 2 zc_Model_leads F 25 [.ref 71, .int (nI (f + j + 1))] [] (X, b, zLay, K, B, M) := by
  have hb := hL.2.2.2.2.1.1.2.2.1
  have hfg := hL.2.2.1
  intro n
  induction n with
  | zero =>
    intro j M hj hf h9
    obtain ⟨a1, a2, a3, a4, a5, a6⟩ := zLi_same hf hL
    have hv : zld (fun d S => zrc np pc (D d) S) al f (g - f) < 1024 := zp1024 (zld_lt a6 f _) (by omega)
    refine zb_Model_leads_25 (v := 0) (w := 0) hK (f + j + 1) a1 a2 a3 a4 a5 (by omega) (fun e => zp1024 (a6 e) (by omega)) (by omega) (fun h => absurd h (by omega)) (by omega) (fun _ => ?_) (fun h => absurd h (by omega))
    have hg2 : zLg M0 (zu M 90 g (nI (al g))) := fun c h1 h2 => by funext i; rw [zu_no (by omega), hf c h1 h2]
    refine lp_ld91 (M0 := zu M 90 g (nI (al g))) hK (zLi_same hg2 hL) hv (fun M1 g1 g2 g3 => ?_) ?_ (g - f) 0 _ (by omega) (fun _ _ => rfl) (fun i hi => ?_)
    · refine kk M1 (fun c h1 h2 => by rw [g1 c h1 h2, hg2 c h1 h2]) (fun i hi => ?_) g3
      rw [g2 89 (by decide), zu_no (by omega)]
      exact h9 i (by omega)
    · rw [zu_no (by omega)]
      have := h9 (g - f) (by omega)
      rw [show f + (g - f) = g by omega] at this
      exact this
    · have : i = 0 := by omega
      subst this
      rw [show g - 0 = g by omega, zu_yes]
      rfl
  | succ n ih =>
    intro j M hj hf h9
    obtain ⟨a1, a2, a3, a4, a5, a6⟩ := zLi_same hf hL
    have hv : zld (fun d S => zrc np pc (D d) S) al f j < 1024 := zp1024 (zld_lt a6 f _) (by omega)
    refine zb_Model_leads_25 (v := zld (fun d S => zrc np pc (D d) S) al f j) (w := 0) hK (f + j + 1) a1 a2 a3 a4 a5 (by omega) (fun e => zp1024 (a6 e) (by omega)) (by omega) (fun _ => ?_) hv (fun h => absurd h (by omega)) (fun _ => ?_)
    · rw [show f + j + 1 - 1 = f + j by omega]; exact h9 j (Nat.le_refl _)
    · refine ih (j + 1) _ (by omega) (fun c h1 h2 => by funext i; rw [zu_no (by omega), hf c h1 h2]) (fun i hi => ?_)
      by_cases q : i = j + 1
      · subst q
        rw [show f + (j + 1) = f + j + 1 by omega, zu_yes]
        rfl
      · rw [zu_no (by omega)]; exact h9 i (by omega)
theorem sp_leads {M : Nat → Nat → Int32} (hK : zKok K) (hL : zLi M np m pc f g al D) (kk : ∀ M', zLg M M' → (∀ j, j ≤ g - f → M' 89 (f + j) = nI (zld (fun d S => zrc np pc (D d) S) al f j)) → (∀ j, j ≤ g - f → M' 90 (g - j) = nI (zbk (fun d S => zrc np pc (D d) S) al g j)) → F (some (.int (zbi (decide (zld (fun d S => zrc np pc (D d) S) al f (g - f) ≠ 0))))) (X, b, zLay, K, B, M')) : zCall (d + 3) zm_Model_leads [.ref 71] (X, b, zLay, K, B, M) F := by
  obtain ⟨a1, a2, a3, a4, a5, a6⟩ := id hL
  have hb := a5.1.2.2.1
  refine zb_Model_leads_0 (v := 0) (w := 0) hK a1 a2 a3 a4 a5 (by omega) (fun e => zp1024 (a6 e) (by omega)) ?_
  refine lp_ld25 (M0 := M) hK hL kk (g - f) 0 _ (by omega) (fun c h1 h2 => by funext i; rw [zu_no (by omega)]) (fun i hi => ?_)
  have : i = 0 := by omega
  subst this
  rw [show f + 0 = f by omega, zu_yes]
  rfl
end LD
