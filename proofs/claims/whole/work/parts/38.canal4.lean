/-! ===== never more than 22 tables ===== -/
def zTc (g : Nat → Nat → Nat) (D : Nat) : Nat → Nat
  | 0 => 0
  | s + 1 => zTc g D s + ((if 1 ≤ g 7 s ∧ g 7 s ≤ D then 1 else 0) + (if g 8 s + 1 ≤ D then 1 else 0))
theorem zTc_le (g : Nat → Nat → Nat) (D s : Nat) : zTc g D s ≤ 2 * s := by
  induction s with
  | zero => exact Nat.le_refl _
  | succ s ih =>
    unfold zTc
    split <;> split <;> omega
theorem zTc_step (g : Nat → Nat → Nat) (D s : Nat) : zTc g D s ≤ zTc g (D + 1) s ∧ (zTc g (D + 1) s = zTc g D s → ∀ w, zshut g w (D + 1) s = zshut g w D s) := by
  induction s with
  | zero => exact ⟨Nat.le_refl _, fun _ _ => rfl⟩
  | succ s ih =>
    obtain ⟨i1, i2⟩ := ih
    unfold zTc
    have a1 : (if 1 ≤ g 7 s ∧ g 7 s ≤ D then 1 else 0) ≤ (if 1 ≤ g 7 s ∧ g 7 s ≤ D + 1 then 1 else 0) := by
      split <;> split <;> omega
    have a2 : (if g 8 s + 1 ≤ D then 1 else 0) ≤ (if g 8 s + 1 ≤ D + 1 then 1 else 0) := by
      split <;> split <;> omega
    refine ⟨by omega, fun e w => ?_⟩
    have e1 : zTc g (D + 1) s = zTc g D s := by omega
    have e2 : (if 1 ≤ g 7 s ∧ g 7 s ≤ D + 1 then 1 else 0) = (if 1 ≤ g 7 s ∧ g 7 s ≤ D then 1 else 0) := by omega
    have e3 : (if g 8 s + 1 ≤ D + 1 then 1 else 0) = (if g 8 s + 1 ≤ D then 1 else 0) := by omega
    have n7 : g 7 s ≠ D + 1 := by
      intro q
      rw [if_pos (by omega), if_neg (by omega)] at e2
      omega
    have n8 : g 8 s ≠ D := by
      intro q
      rw [if_pos (by omega), if_neg (by omega)] at e3
      omega
    unfold zshut
    rw [i2 e1 w]
    have b1 : Nat.ble (g 7 s) (D + 1) = Nat.ble (g 7 s) D := by
      rw [Bool.eq_iff_iff, Nat.ble_eq, Nat.ble_eq]
      omega
    have b2 : Nat.ble (D + 1) (g 8 s) = Nat.ble D (g 8 s) := by
      rw [Bool.eq_iff_iff, Nat.ble_eq, Nat.ble_eq]
      omega
    rw [b1, b2]
theorem zW_opn {g : Nat → Nat → Nat} {s d e w : Nat} (h : ∀ i, i < w → (zopn g s d i ↔ zopn g s e i)) : zW g s d w = zW g s e w := by
  induction w with
  | zero => rfl
  | succ w ih =>
    have i := ih (fun i hi => h i (by omega))
    funext x y
    by_cases ho : zopn g s d w
    · rw [zW_s ho, zW_s ((h w (by omega)).mp ho), i]
    · rw [zW_n ho, zW_n (fun q => ho ((h w (by omega)).mpr q)), i]
theorem zTb_opn {M : Nat → Nat → Int32} {np nw ns pc t d e : Nat} (hC : zCk M np nw ns pc) (h : ∀ i, i < nw → (zopn (zcd M) ns d i ↔ zopn (zcd M) ns e i)) (k : zTb M t d) : zTb M t e := by
  obtain ⟨c1, c2, c3, c4⟩ := zCk_cl hC
  have e2 : zD (zcd M) nw ns e = zD (zcd M) nw ns d := by
    unfold zD
    rw [zW_opn h]
  unfold zTb at k ⊢
  rw [c2, c3] at k ⊢
  rw [e2]
  exact k
theorem zTb_keep {M M' : Nat → Nat → Int32} {np nw ns pc t d : Nat} (hC : zCk M np nw ns pc) (h1 : ∀ i, i ≠ 11 → i ≠ 12 → M' 1 i = M 1 i) (hg : zcd M' = zcd M) (h11 : ∀ i, i < 100 → M' 11 (100 * t + i) = M 11 (100 * t + i)) (h12 : ∀ i, i < 10 → M' 12 (10 * t + i) = M 12 (10 * t + i)) (k : zTb M t d) : zTb M' t d := by
  have hB := hC.2.2.2.2.1
  obtain ⟨c1, c2, c3, c4⟩ := zCk_cl hC
  unfold zTb at k ⊢
  rw [hg, h1 1 (by decide) (by decide), h1 5 (by decide) (by decide), h1 9 (by decide) (by decide), h1 10 (by decide) (by decide)]
  rw [c1] at k ⊢
  refine ⟨fun p q hp hq => ?_, fun p hp => ?_⟩
  · rw [show 100 * t + 10 * p + q = 100 * t + (10 * p + q) by omega, h11 _ (by omega), ← show 100 * t + 10 * p + q = 100 * t + (10 * p + q) by omega]
    exact k.1 p q hp hq
  · rw [h12 p (by omega)]
    exact k.2 p hp
theorem zcd_same9 (M : Nat → Nat → Int32) (k : Nat) (v : Int32) : zcd (zu M 9 k v) = zcd M := by
  funext c i
  unfold zcd
  by_cases hc : 3 ≤ c ∧ c ≤ 8
  · rw [if_pos hc, if_pos hc, zu_no (by omega)]
  · rw [if_neg hc, if_neg hc]
/-- while tables are laid: k days are done, T tables stand -/
def zFi (M0 M : Nat → Nat → Int32) (nw ns k T : Nat) : Prop := (∀ c, c ≠ 1 → c ≠ 9 → c ≠ 10 → c ≠ 11 → c ≠ 12 → M c = M0 c) ∧ (∀ i, i ≠ 11 → i ≠ 12 → M 1 i = M0 1 i) ∧ M 1 11 = 0 ∧ M 1 12 = nI T ∧ (1 ≤ T ∧ T ≤ 22) ∧ zTb M 0 60 ∧ (∀ j, j < T → ∃ cm dd, cm < 2 ^ 15 ∧ M 10 j = nI cm ∧ (∀ w, w < nw → (cm.testBit w = false ↔ zopn (zcd M0) ns dd w)) ∧ zTb M j dd) ∧ (∀ dd, dd < k → ∃ t, t < T ∧ M 9 dd = nI t ∧ zTb M t dd)
theorem zFi_ck {M0 M : Nat → Nat → Int32} {np nw ns pc k T : Nat} (h : zFi M0 M nw ns k T) (hC : zCk M0 np nw ns pc) : zCk M np nw ns pc ∧ zcd M = zcd M0 := zCk_same h.2.1 (fun c h1 h2 => h.1 c (by omega) (by omega) (by omega) (by omega) (by omega)) hC
theorem zFi_at {M0 M M' : Nat → Nat → Int32} {np nw ns pc k T cm dd : Nat} (hC : zCk M0 np nw ns pc) (h : zFi M0 M nw ns k T) (hT : T < 22) (ha : zAt M M' T cm) (hcm : cm < 2 ^ 15) (ho : ∀ w, w < nw → (cm.testBit w = false ↔ zopn (zcd M0) ns dd w)) (ht : zTb M' T dd) : zFi M0 M' nw ns k (T + 1) := by
  obtain ⟨hC1, eg1⟩ := zFi_ck h hC
  obtain ⟨hC2, eg2⟩ := zAt_ck ha hC1
  obtain ⟨a1, a2, a3, a4, a5, a6, a7, a8⟩ := h
  obtain ⟨b1, b2, b3, b4, b5, b6⟩ := ha
  have keep : ∀ j e, j < T → zTb M j e → zTb M' j e := fun j e hj hk => zTb_keep hC1 (fun i _ h2 => b2 i h2) eg2 (fun i hi => b5 _ (by omega)) (fun i hi => b6 _ (by omega)) hk
  refine ⟨fun c h1 h2 h3 h4 h5 => ?_, fun i h1 h2 => ?_, ?_, b3, by omega, keep 0 60 (by omega) a6, fun j hj => ?_, fun e he => ?_⟩
  · rw [b1 c h1 h3 h4 h5, a1 c h1 h2 h3 h4 h5]
  · rw [b2 i h2, a2 i h1 h2]
  · rw [b2 11 (by decide), a3]
  · by_cases e : j = T
    · subst e
      exact ⟨cm, dd, hcm, by rw [b4, if_pos rfl], ho, ht⟩
    · obtain ⟨cj, dj, x1, x2, x3, x4⟩ := a7 j (by omega)
      exact ⟨cj, dj, x1, by rw [b4, if_neg e]; exact x2, x3, keep j dj (by omega) x4⟩
  · obtain ⟨t, x1, x2, x3⟩ := a8 e he
    exact ⟨t, by omega, by rw [b1 9 (by decide) (by decide) (by decide) (by decide)]; exact x2, keep t e x1 x3⟩
section CF
variable {d : Nat} {F : Option Value → zS → Prop} {X : zX} {b : Nat × Nat} {K : Nat → Nat → Option Nat} {B : Nat → Nat → Int64} {M0 : Nat → Nat → Int32} {np nw ns pc : Nat}
theorem lp_tf (hK : zKok K) (hC : zCk M0 np nw ns pc) {M : Nat → Nat → Int32} {k T cm dd : Nat} (hI : zFi M0 M nw ns k T) (hcm : cm < 2 ^ 15) (ho : ∀ w, w < nw → (cm.testBit w = false ↔ zopn (zcd M0) ns dd w)) (hT : (∀ j, j < T → M 10 j ≠ nI cm) → T < 22) (kk : ∀ M' T' t, zFi M0 M' nw ns k T' → t < T' → (T' = T ∨ (T' = T + 1 ∧ ∀ j, j < T → M 10 j ≠ nI cm)) → M' 10 t = nI cm → zTb M' t dd → F (some (.int (nI t))) (X, b, zLay, K, B, M')) : ∀ (m j : Nat), j + m = T → (∀ i, i < j → M 10 i ≠ nI cm) → zEx (zCall (d + 3)) 0 false 1 zc_Canal_tableFor F 2 [.ref 1, .int (nI cm), .int (nI j)] [] (X, b, zLay, K, B, M) := by
  have hB := hC.2.2.2.2.1
  obtain ⟨hC1, eg1⟩ := zFi_ck hI hC
  intro m
  induction m with
  | zero =>
    intro j hj hn
    have hj : j = T := by omega
    subst hj
    have hlt := hT hn
    refine zb_Canal_tableFor_2 (v := 0) hK cm j hC1 hB hcm hI.2.2.2.1 (by omega) (by omega) (fun h => absurd h (by omega)) (by omega) (fun _ => ?_) (fun h => absurd h (by omega)) (fun h => absurd h (by omega))
    refine sp_addTable (dd := dd) hK hC1 hlt hI.2.2.2.1 hcm (by rw [eg1]; exact ho) (fun M' ha ht => ?_)
    refine zb_Canal_tableFor_33 (t := 0) (v := 0) cm j j (zAt_ck ha hC1).1 hB hcm ?_
    refine kk M' (j + 1) j (zFi_at hC hI hlt ha hcm ho ht) (by omega) (Or.inr ⟨rfl, hn⟩) ?_ ht
    rw [ha.2.2.2.1, if_pos rfl]
  | succ m ih =>
    intro j hj hn
    obtain ⟨cj, dj, x1, x2, x3, x4⟩ := hI.2.2.2.2.2.2.1 j (by omega)
    have hT22 := hI.2.2.2.2.1
    refine zb_Canal_tableFor_2 (v := cj) hK cm j hC1 hB hcm hI.2.2.2.1 (by omega) (by omega) (fun _ => x2) x1 (fun h => absurd h (by omega)) (fun _ h => ih (j + 1) (by omega) (fun i hi => ?_)) (fun _ h => ?_)
    · by_cases e : i = j
      · subst e
        rw [x2]
        exact fun q => h ((nI_eq (by omega) (by omega)).mp q)
      · exact hn i (by omega)
    · subst h
      refine kk M T j hI (by omega) (Or.inl rfl) x2 (zTb_opn hC1 (fun i hi => ?_) x4)
      rw [eg1, ← x3 i hi, ← ho i hi]
theorem sp_tableFor (hK : zKok K) (hC : zCk M0 np nw ns pc) {M : Nat → Nat → Int32} {k T cm dd : Nat} (hI : zFi M0 M nw ns k T) (hcm : cm < 2 ^ 15) (ho : ∀ w, w < nw → (cm.testBit w = false ↔ zopn (zcd M0) ns dd w)) (hT : (∀ j, j < T → M 10 j ≠ nI cm) → T < 22) (kk : ∀ M' T' t, zFi M0 M' nw ns k T' → t < T' → (T' = T ∨ (T' = T + 1 ∧ ∀ j, j < T → M 10 j ≠ nI cm)) → M' 10 t = nI cm → zTb M' t dd → F (some (.int (nI t))) (X, b, zLay, K, B, M')) : zCall (d + 4) zm_Canal_tableFor [.ref 1, .int (nI cm)] (X, b, zLay, K, B, M) F := by
  refine zb_Canal_tableFor_0 (t := 0) (v := 0) cm (zFi_ck hI hC).1 hC.2.2.2.2.1 hcm ?_
  exact lp_tf hK hC hI hcm ho hT kk T 0 (by omega) (fun i hi => absurd hi (by omega))
theorem zmask_opn {g : Nat → Nat → Nat} {ns dd w : Nat} (hw : w < 15) (hd : dd ≠ 60) : (zsb (fun w => zshut g w dd ns) 15).testBit w = false ↔ zopn g ns dd w := by
  rw [zsb_bit, decide_eq_true hw, Bool.true_and]
  constructor
  · intro h; exact Or.inr h
  · rintro (h | h)
    · exact absurd h hd
    · exact h
theorem lp_fr (hK : zKok K) (hC : zCk M0 np nw ns pc) (kk : ∀ M T, zFi M0 M nw ns 60 T → F none (X, b, zLay, K, B, M)) : ∀ (m k T : Nat) (M : Nat → Nat → Int32), k + m = 60 → zFi M0 M nw ns k T → ((k = 0 ∧ T = 1) ∨ (0 < k ∧ T ≤ 2 + zTc (zcd M0) (k - 1) ns ∧ ∃ j, j < T ∧ M 10 j = nI (zsb (fun w => zshut (zcd M0) w (k - 1) ns) 15))) → zEx (zCall (d + 4)) 0 false 0 zc_Canal_freshen F 26 [.ref 1, .int (nI k)] [] (X, b, zLay, K, B, M) := by
  have hB := hC.2.2.2.2.1
  intro m
  induction m with
  | zero =>
    intro k T M hk hI _
    have hk : k = 60 := by omega
    subst hk
    exact zb_Canal_freshen_26 hK 60 (zFi_ck hI hC).1 hB (by omega) (fun _ => kk M T hI) (fun h => absurd h (by omega))
  | succ m ih =>
    intro k T M hk hI hT
    obtain ⟨hC1, eg1⟩ := zFi_ck hI hC
    refine zb_Canal_freshen_26 hK k hC1 hB (by omega) (fun h => absurd h (by omega)) (fun _ => ?_)
    refine sp_waysShutOn hK hC1 (by omega) ?_
    refine zb_Canal_freshen_43 k _ hC1 hB (by omega) ?_
    rw [eg1]
    have hcm : zsb (fun w => zshut (zcd M0) w k ns) 15 < 2 ^ 15 := zsb_lt _ 15
    have hnew : (∀ j, j < T → M 10 j ≠ nI (zsb (fun w => zshut (zcd M0) w k ns) 15)) → T + 1 ≤ 2 + zTc (zcd M0) k ns := by
      intro hn
      rcases hT with ⟨h1, h2⟩ | ⟨h1, h2, j, hj, hj2⟩
      · omega
      · obtain ⟨k', rfl⟩ : ∃ k', k = k' + 1 := ⟨k - 1, by omega⟩
        rw [show k' + 1 - 1 = k' by omega] at *
        obtain ⟨s1, s2⟩ := zTc_step (zcd M0) k' ns
        rcases Nat.lt_or_ge (zTc (zcd M0) k' ns) (zTc (zcd M0) (k' + 1) ns) with hlt | hge
        · omega
        · exfalso
          refine hn j hj ?_
          rw [hj2]
          congr 1
          exact zsb_ext (fun p _ => (s2 (by omega) p).symm)
    have hle := zTc_le (zcd M0) k ns
    refine sp_tableFor (dd := k) hK hC hI hcm (fun w hw => zmask_opn (by omega) (by omega)) (fun hn => by have := hnew hn; omega) (fun M' T' t hI' ht hT' h10 htb => ?_)
    obtain ⟨hC2, eg2⟩ := zFi_ck hI' hC
    refine zb_Canal_freshen_46 k t hC2 hB (by omega) ?_
    have keep : ∀ j e, zTb M' j e → zTb (zu M' 9 k (nI t)) j e := fun j e hq => zTb_keep hC2 (fun i _ _ => by rw [zu_no (by omega)]) (zcd_same9 _ _ _) (fun i _ => by rw [zu_no (by omega)]) (fun i _ => by rw [zu_no (by omega)]) hq
    refine ih (k + 1) T' _ (by omega) ?_ ?_
    · obtain ⟨a1, a2, a3, a4, a5, a6, a7, a8⟩ := hI'
      refine ⟨fun c h1 h2 h3 h4 h5 => ?_, fun i h1 h2 => ?_, ?_, ?_, a5, keep _ _ a6, fun j hj => ?_, fun e he => ?_⟩
      · funext i; rw [zu_no (by omega), a1 c h1 h2 h3 h4 h5]
      · rw [zu_no (by omega), a2 i h1 h2]
      · rw [zu_no (by omega), a3]
      · rw [zu_no (by omega), a4]
      · obtain ⟨cj, dj, x1, x2, x3, x4⟩ := a7 j hj
        exact ⟨cj, dj, x1, by rw [zu_no (by omega)]; exact x2, x3, keep _ _ x4⟩
      · by_cases e2 : e = k
        · subst e2
          exact ⟨t, ht, by rw [zu_yes], keep _ _ htb⟩
        · obtain ⟨t2, x1, x2, x3⟩ := a8 e (by omega)
          exact ⟨t2, x1, by rw [zu_no (by omega)]; exact x2, keep _ _ x3⟩
    · refine Or.inr ⟨by omega, ?_, t, ht, ?_⟩
      · rw [show k + 1 - 1 = k by omega]
        rcases hT' with h1 | ⟨h1, h2⟩
        · subst h1
          rcases hT with ⟨h1, h2⟩ | ⟨h1, h2, j, hj, hj2⟩
          · omega
          · obtain ⟨k', rfl⟩ : ∃ k', k = k' + 1 := ⟨k - 1, by omega⟩
            have := (zTc_step (zcd M0) k' ns).1
            rw [show k' + 1 - 1 = k' by omega] at h2
            omega
        · have := hnew h2; omega
      · rw [zu_no (by omega), h10, show k + 1 - 1 = k by omega]
theorem sp_freshen {M : Nat → Nat → Int32} (hK : zKok K) (hC : zCk M np nw ns pc) (hT : zTab M) (kk : ∀ M', (∀ c, c ≠ 1 → c ≠ 9 → c ≠ 10 → c ≠ 11 → c ≠ 12 → M' c = M c) → (∀ i, i ≠ 11 → i ≠ 12 → M' 1 i = M 1 i) → M' 1 11 = 0 → zTabOk M' → F none (X, b, zLay, K, B, M')) : zCall (d + 5) zm_Canal_freshen [.ref 1] (X, b, zLay, K, B, M) F := by
  have hB := hC.2.2.2.2.1
  refine zb_Canal_freshen_0 hC hB (fun h => ?_) (fun h => ?_)
  · have hC1 : zCk (zu (zu M 1 11 0) 1 12 0) np nw ns pc ∧ zcd (zu (zu M 1 11 0) 1 12 0) = zcd M := zCk_same (fun i h1 h2 => by rw [zu_no (by omega), zu_no (by omega)]) (fun c h1 h2 => by funext i; rw [zu_no (by omega), zu_no (by omega)]) hC
    obtain ⟨hC1, eg1⟩ := hC1
    refine sp_addTable (t := 0) (cm := 0) (dd := 60) hK hC1 (by decide) (zu_yes _ _ _ _) (by decide) (fun w _ => ⟨fun _ => Or.inl rfl, fun _ => by simp⟩) (fun M' ha ht => ?_)
    obtain ⟨hC2, eg2⟩ := zAt_ck ha hC1
    refine zb_Canal_freshen_23 0 hC2 hB ?_
    obtain ⟨b1, b2, b3, b4, b5, b6⟩ := ha
    refine lp_fr hK hC (fun M3 T3 h3 => ?_) 60 0 1 M' (by omega) ?_ (Or.inl ⟨rfl, rfl⟩)
    · obtain ⟨a1, a2, a3, a4, a5, a6, a7, a8⟩ := h3
      refine kk M3 a1 a2 a3 ⟨a6, fun e he => ?_⟩
      obtain ⟨t, x1, x2, x3⟩ := a8 e he
      exact ⟨t, by omega, x2, x3⟩
    · refine ⟨fun c h1 h2 h3 h4 h5 => ?_, fun i h1 h2 => ?_, ?_, b3, by omega, ht, fun j hj => ?_, fun e he => absurd he (by omega)⟩
      · rw [b1 c h1 h3 h4 h5]; funext i; rw [zu_no (by omega), zu_no (by omega)]
      · rw [b2 i h2, zu_no (by omega), zu_no (by omega)]
      · rw [b2 11 (by decide), zu_no (by omega), zu_yes]
      · have hj : j = 0 := by omega
        subst hj
        exact ⟨0, 60, by decide, by rw [b4, if_pos rfl], fun w _ => ⟨fun _ => Or.inl rfl, fun _ => by simp⟩, ht⟩
  · rcases hT with q | ⟨_, q⟩
    · rw [q] at h; exact absurd h (by decide)
    · exact kk M (fun _ _ _ _ _ _ => rfl) (fun _ _ _ => rfl) h q
end CF
