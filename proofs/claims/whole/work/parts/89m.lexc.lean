/-! ===== reading a text: tokens; the class ===== -/
def ztrn (T : Nat → Nat) (P : Nat → Bool) (len : Nat) : Nat → Nat → Nat
  | 0, i => i
  | f + 1, i => bif (decide (i < len) && P (T i)) then ztrn T P len f (i + 1) else i
def ztru (T : Nat → Nat) (P : Nat → Bool) (len i : Nat) : Nat := ztrn T P len (len - i) i
def ztws : List (List Nat) := [[110, 101, 97, 114], [115, 116, 97, 121], [101, 120, 99, 117, 115, 101], [110, 101, 101, 100], [104, 101, 114, 101], [112, 97, 114, 105, 115, 104], [116, 104, 101, 114, 101], [116, 104, 101, 105, 114, 115], [109, 105, 108, 101, 115], [100, 97, 121], [100, 97, 121, 115], [111, 114], [97, 110, 100], [110, 111, 116]]
def ztw (k : Nat) : List Nat := ztws.getD k []
abbrev zmt (T : Nat → Nat) (s n k : Nat) : Prop := (ztw k).length = n ∧ ∀ i, i < n → (ztw k).getD i 0 = T (s + i)
def ztwf (T : Nat → Nat) (s n : Nat) : Nat → Nat
  | 0 => 1
  | k + 1 => if zmt T s n k then 3 + k else ztwf T s n k
def ztnm (T : Nat → Nat) (s : Nat) : Nat → Nat
  | 0 => 0
  | n + 1 => min ((10 * ztnm T s n + T (s + n)) - 48) 10000
def ztst (T : Nat → Nat) (len p : Nat) : Nat := ztru T zcB len p
abbrev zteq (T : Nat → Nat) (len s : Nat) : Prop := s + 1 < len ∧ T (s + 1) = 61 ∧ (ztsg (T s) = 17 ∨ ztsg (T s) = 19)
def ztk0 (T : Nat → Nat) (len s : Nat) : Nat := if len ≤ s then 0 else if zcL (T s) = true then ztwf T s (ztru T zcL len s - s) 14 else if zcD (T s) = true then 2 else if zteq T len s then ztsg (T s) + 1 else ztsg (T s)
def ztn0 (T : Nat → Nat) (len s : Nat) : Nat := if len ≤ s then s else if zcL (T s) = true then ztru T zcL len s else if zcD (T s) = true then ztru T zcD len s else if zteq T len s then s + 2 else s + 1
def ztu0 (T : Nat → Nat) (len s : Nat) : Nat := ztnm T s (ztru T zcD len s - s)
def ztk (T : Nat → Nat) (len p : Nat) : Nat := ztk0 T len (ztst T len p)
def ztnx (T : Nat → Nat) (len p : Nat) : Nat := ztn0 T len (ztst T len p)
def ztnu (T : Nat → Nat) (len p : Nat) : Nat := ztu0 T len (ztst T len p)
theorem ztru_s {T : Nat → Nat} {P : Nat → Bool} {len i : Nat} (h : i < len) (hP : P (T i) = true) : ztru T P len i = ztru T P len (i + 1) := by
  unfold ztru
  rw [show len - i = (len - (i + 1)) + 1 by omega]
  show (bif (decide (i < len) && P (T i)) then _ else _) = _
  rw [hP, decide_eq_true h]
  rfl
theorem ztru_e {T : Nat → Nat} {P : Nat → Bool} {len i : Nat} (h : ¬ (i < len ∧ P (T i) = true)) : ztru T P len i = i := by
  unfold ztru
  cases e : len - i with
  | zero => rfl
  | succ f =>
    show (bif (decide (i < len) && P (T i)) then _ else _) = _
    have hl : i < len := by omega
    have : P (T i) = false := Bool.eq_false_iff.mpr (fun q => h ⟨hl, q⟩)
    rw [this, Bool.and_false]
    rfl
theorem ztru_b {T : Nat → Nat} {P : Nat → Bool} {len : Nat} : ∀ (k i : Nat), i + k = len → i ≤ ztru T P len i ∧ ztru T P len i ≤ len := by
  intro k
  induction k with
  | zero => intro i hi; rw [ztru_e (by omega)]; omega
  | succ k ih =>
    intro i hi
    by_cases q : P (T i) = true
    · rw [ztru_s (by omega) q]
      have := ih (i + 1) (by omega)
      omega
    · rw [ztru_e (fun z => q z.2)]
      omega
theorem ztru_all {T : Nat → Nat} {P : Nat → Bool} {len : Nat} : ∀ (k i : Nat), i + k = len → ∀ j, i ≤ j → j < ztru T P len i → P (T j) = true := by
  intro k
  induction k with
  | zero => intro i hi j h1 h2; rw [ztru_e (by omega)] at h2; omega
  | succ k ih =>
    intro i hi j h1 h2
    by_cases q : P (T i) = true
    · by_cases e : j = i
      · rw [e]; exact q
      · rw [ztru_s (by omega) q] at h2
        exact ih (i + 1) (by omega) j (by omega) h2
    · rw [ztru_e (fun z => q z.2)] at h2
      omega
theorem ztnm_le (T : Nat → Nat) (s n : Nat) : ztnm T s n ≤ 10000 := by
  cases n with
  | zero => exact Nat.zero_le _
  | succ n => exact Nat.min_le_right _ _
theorem ztsg_le (x : Nat) : ztsg x ≤ 29 ∧ 1 ≤ ztsg x := by
  unfold ztsg
  repeat' split
  all_goals omega
theorem ztsg_n2 (x : Nat) : ztsg x ≠ 2 := by
  unfold ztsg
  repeat' split
  all_goals omega
theorem ztwf_le (T : Nat → Nat) (s n : Nat) : ∀ k, k ≤ 14 → ztwf T s n k ≤ 16 ∧ 1 ≤ ztwf T s n k := by
  intro k
  induction k with
  | zero => intro _; exact ⟨by show 1 ≤ 16; decide, Nat.le_refl _⟩
  | succ k ih =>
    intro hk
    unfold ztwf
    split
    · omega
    · exact ih (by omega)
theorem ztok (T : Nat → Nat) {len : Nat} : zTok len (ztk T len) (ztst T len) (ztnx T len) (ztnu T len) := by
  intro p hp
  have a := ztru_b (T := T) (P := zcB) (len := len) (len - p) p (by omega)
  have hn : ztnu T len p ≤ 10000 := ztnm_le _ _ _
  unfold ztk ztnx
  have e : ztst T len p = ztru T zcB len p := rfl
  rw [← e] at a
  generalize ztst T len p = s at a ⊢
  unfold ztk0 ztn0
  by_cases h1 : len ≤ s
  · rw [if_pos h1, if_pos h1]
    exact ⟨a.1, a.2, fun q => absurd rfl q, a.2, by omega, hn, Nat.le_refl _⟩
  · rw [if_neg h1, if_neg h1]
    by_cases h2 : zcL (T s) = true
    · rw [if_pos h2, if_pos h2]
      have b := ztru_b (T := T) (P := zcL) (len := len) (len - (s + 1)) (s + 1) (by omega)
      rw [← ztru_s (by omega) h2] at b
      have c := ztwf_le T s (ztru T zcL len s - s) 14 (Nat.le_refl _)
      exact ⟨a.1, a.2, fun _ => by omega, b.2, by omega, hn, by omega⟩
    · rw [if_neg h2, if_neg h2]
      by_cases h3 : zcD (T s) = true
      · rw [if_pos h3, if_pos h3]
        have b := ztru_b (T := T) (P := zcD) (len := len) (len - (s + 1)) (s + 1) (by omega)
        rw [← ztru_s (by omega) h3] at b
        exact ⟨a.1, a.2, fun _ => by omega, b.2, by omega, hn, by omega⟩
      · rw [if_neg h3, if_neg h3]
        have c := ztsg_le (T s)
        by_cases h4 : zteq T len s
        · rw [if_pos h4, if_pos h4]
          obtain ⟨g1, g2, g3⟩ := h4
          exact ⟨a.1, a.2, fun _ => by omega, by omega, by omega, hn, by omega⟩
        · rw [if_neg h4, if_neg h4]
          exact ⟨a.1, a.2, fun _ => by omega, by omega, c.1, hn, by omega⟩
theorem zstb_w {k : Nat} (hk : k < 14) : zstb[k]? = some ((ztw k).map nI) := by
  have z : k = 0 ∨ k = 1 ∨ k = 2 ∨ k = 3 ∨ k = 4 ∨ k = 5 ∨ k = 6 ∨ k = 7 ∨ k = 8 ∨ k = 9 ∨ k = 10 ∨ k = 11 ∨ k = 12 ∨ k = 13 := by omega
  rcases z with rfl | rfl | rfl | rfl | rfl | rfl | rfl | rfl | rfl | rfl | rfl | rfl | rfl | rfl <;> rfl
theorem ztw_len {k : Nat} (hk : k < 14) : (ztw k).length ≤ 6 := by
  have z : k = 0 ∨ k = 1 ∨ k = 2 ∨ k = 3 ∨ k = 4 ∨ k = 5 ∨ k = 6 ∨ k = 7 ∨ k = 8 ∨ k = 9 ∨ k = 10 ∨ k = 11 ∨ k = 12 ∨ k = 13 := by omega
  rcases z with rfl | rfl | rfl | rfl | rfl | rfl | rfl | rfl | rfl | rfl | rfl | rfl | rfl | rfl <;> decide
theorem ztw_ch {k i : Nat} (hk : k < 14) : (ztw k).getD i 0 < 256 := by
  by_cases hi : i < 6
  · revert i
    revert k
    decide
  · have : (ztw k)[i]? = none := List.getElem?_eq_none (by have := ztw_len hk; omega)
    simp [List.getD, this]
theorem ztw_get {k i : Nat} (hi : i < (ztw k).length) : ((ztw k).map nI).getD i 0 = nI ((ztw k).getD i 0) := by
  simp [List.getD, List.getElem?_eq_getElem hi]
section LXC
variable {d : Nat} {F : Option Value → zS → Prop} {X : zX} {b : Nat × Nat} {K : Nat → Nat → Option Nat} {B : Nat → Nat → Int64} {M : Nat → Nat → Int32} {T : Nat → Nat} {len s p : Nat}
theorem zc_len {S : zS} {k : Nat} (hk : k < 14) (kk : F (some (.int (nI (ztw k).length))) S) : zCall (d + 3) 300 [.ref (2000 + k)] S F := by
  unfold zCall
  rw [show zinfL[300]? = none from rfl]
  refine ⟨show 2 ≤ d + 2 from Nat.le_add_left 2 d, (ztw k).map nI, ?_, Nat.le_add_right 2000 k, ?_⟩
  · rw [show 2000 + k - 2000 = k by omega]; exact zstb_w hk
  · rw [List.length_map]; exact kk
theorem zc_chr {S : zS} {k i : Nat} (hk : k < 14) (hi : i < (ztw k).length) (kk : F (some (.int (nI ((ztw k).getD i 0)))) S) : zCall (d + 3) 301 [.ref (2000 + k), .int (nI i)] S F := by
  have l6 := ztw_len hk
  unfold zCall
  rw [show zinfL[301]? = none from rfl]
  refine ⟨show 2 ≤ d + 2 from Nat.le_add_left 2 d, (ztw k).map nI, ?_, Nat.le_add_right 2000 k, ?_, ?_⟩
  · rw [show 2000 + k - 2000 = k by omega]; exact zstb_w hk
  · rw [List.length_map]; exact nI_in hi (by omega)
  · rw [nI_clamp (by omega), ztw_get hi]; exact kk
/-- the tape -/
def ztT (M : Nat → Nat → Int32) (T : Nat → Nat) (len : Nat) : Prop := M 31 1 = nI len ∧ len ≤ 300 ∧ ∀ i, i < len → M 32 i = nI (T i) ∧ T i < 256
theorem lp_spelt {e k : Nat} (hK : zKok K) (hT : ztT M T len) (hs : M 31 6 = nI s) (hse : s ≤ e ∧ e ≤ len) (hk : k < 14) (hl : (ztw k).length = e - s) (kk : F (some (.int (zbi (decide (zmt T s (e - s) k))))) (X, b, zLay, K, B, M)) : ∀ (q i : Nat), i + q = e - s → (∀ j, j < i → (ztw k).getD j 0 = T (s + j)) → zEx (zCall (d + 3)) 6 false 2 zc_Reader_isSpelt F 20 [.ref 31, .ref (2000 + k), .int (nI i)] [] (X, b, zLay, K, B, M) := by
  have l6 := ztw_len hk
  intro q
  induction q with
  | zero =>
    intro i hi hm
    refine zb_Reader_isSpelt_20 i (by omega) ?_
    refine zc_len hk ?_
    refine zb_Reader_isSpelt_25 i _ i (by omega) (fun _ => ?_) (fun z => ?_)
    · rw [decide_eq_true (show zmt T s (e - s) k from ⟨hl, fun j hj => hm j (by omega)⟩)] at kk
      exact kk
    · rw [nI_leI (by omega) (by omega)] at z
      omega
  | succ q ih =>
    intro i hi hm
    have h3 := hT.2.1
    have ht := hT.2.2 (s + i) (by omega)
    refine zb_Reader_isSpelt_20 i (by omega) ?_
    refine zc_len hk ?_
    refine zb_Reader_isSpelt_25 i _ i (by omega) (fun z => ?_) (fun z => ?_)
    · rw [nI_leI (by omega) (by omega)] at z
      omega
    · refine zc_chr hk (by omega) ?_
      have hc := ztw_ch (k := k) (i := i) hk
      refine zb_Reader_isSpelt_33 (s := s) (tv := T (s + i)) hK i _ hs (by omega) (fun _ => ht.1) ht.2 (fun z => ?_) (fun z => ?_)
      · have z := (nI_eq (by omega) (by omega)).mp z
        refine ih (i + 1) (by omega) (fun j hj => ?_)
        by_cases y : j = i
        · rw [y]; exact z
        · exact hm j (by omega)
      · rw [decide_eq_false (show ¬ zmt T s (e - s) k from fun y => z (by rw [y.2 i (by omega)]))] at kk
        exact kk
theorem sp_spelt {e k : Nat} (hK : zKok K) (hT : ztT M T len) (hs : M 31 6 = nI s) (he : M 31 7 = nI e) (hse : s ≤ e ∧ e ≤ len) (hk : k < 14) (kk : F (some (.int (zbi (decide (zmt T s (e - s) k))))) (X, b, zLay, K, B, M)) : zCall (d + 4) zm_Reader_isSpelt [.ref 31, .ref (2000 + k)] (X, b, zLay, K, B, M) F := by
  have l6 := ztw_len hk
  have h3 := hT.2.1
  refine zb_Reader_isSpelt_0 (by omega) ?_
  refine zc_len hk ?_
  refine zb_Reader_isSpelt_4 (s := s) (p := e) _ hs he (by omega) (fun z => ?_) (fun z => ?_)
  · have z := (nI_eq (by omega) (by omega)).mp z
    exact lp_spelt hK hT hs hse hk z kk (e - s) 0 (by omega) (fun j hj => absurd hj (Nat.not_lt_zero _))
  · rw [decide_eq_false (show ¬ zmt T s (e - s) k from fun y => z (by rw [y.1]))] at kk
    exact kk
/-- only the token's fields have changed -/
def zLf (M M2 : Nat → Nat → Int32) : Prop := (∀ c, c ≠ 31 → M2 c = M c) ∧ ∀ i, i ≠ 4 → i ≠ 5 → i ≠ 6 → i ≠ 7 → M2 31 i = M 31 i
theorem zLf_rfl (M : Nat → Nat → Int32) : zLf M M := ⟨fun _ _ => rfl, fun _ _ _ _ _ => rfl⟩
theorem zLf_u {M M2 : Nat → Nat → Int32} (h : zLf M M2) {i : Nat} {v : Int32} (hi : i = 4 ∨ i = 5 ∨ i = 6 ∨ i = 7) : zLf M (zu M2 31 i v) := ⟨fun c hc => by rw [zu_oc hc]; exact h.1 c hc, fun j h1 h2 h3 h4 => by rw [zu_at, if_neg (by omega)]; exact h.2 j h1 h2 h3 h4⟩
theorem ztT_f {M M2 : Nat → Nat → Int32} (h : zLf M M2) (t : ztT M T len) : ztT M2 T len := ⟨by rw [h.2 1 (by decide) (by decide) (by decide) (by decide)]; exact t.1, t.2.1, by rw [h.1 32 (by decide)]; exact t.2.2⟩
/-- the token in hand is the one looked for at p -/
def zTk (M : Nat → Nat → Int32) (T : Nat → Nat) (len p : Nat) : Prop := M 31 4 = nI (ztk T len p) ∧ (ztk T len p = 2 → M 31 5 = nI (ztnu T len p)) ∧ M 31 6 = nI (ztst T len p) ∧ M 31 7 = nI (ztnx T len p)
theorem lp_word2 {M0 : Nat → Nat → Int32} {e : Nat} (hK : zKok K) (hT : ztT M0 T len) (hs : M0 31 6 = nI s) (he : M0 31 7 = nI e) (hse : s ≤ e ∧ e ≤ len) (kk : ∀ M, zLf M0 M → M 31 6 = nI s → M 31 7 = nI e → M 31 4 = nI (ztwf T s (e - s) 14) → F none (X, b, zLay, K, B, M)) : ∀ (q k : Nat) (M : Nat → Nat → Int32), k + q = 14 → zLf M0 M → M 31 6 = nI s → M 31 7 = nI e → M 31 4 = nI (ztwf T s (e - s) k) → zEx (zCall (d + 4)) 6 false 0 zc_Reader_takeWord F 55 [.ref 31, .int (nI (3 + k))] [] (X, b, zLay, K, B, M) := by
  intro q
  induction q with
  | zero =>
    intro k M hk u1 u2 u3 u4
    have hk : k = 14 := by omega
    subst hk
    exact zb_Reader_takeWord_55 17 (by omega) (fun _ => kk M u1 u2 u3 u4) (fun z => absurd z (by omega))
  | succ q ih =>
    intro k M hk u1 u2 u3 u4
    refine zb_Reader_takeWord_55 (3 + k) (by omega) (fun z => absurd z (by omega)) (fun _ => ?_)
    rw [show 1997 + (3 + k) = 2000 + k by omega]
    refine sp_spelt hK (ztT_f u1 hT) u2 u3 hse (by omega) ?_
    have st : ztwf T s (e - s) (k + 1) = if zmt T s (e - s) k then 3 + k else ztwf T s (e - s) k := rfl
    refine zb_Reader_takeWord_69 (3 + k) _ (by omega) (fun z => ?_) (fun z => ?_)
    · have z := zbi_0 z
      rw [if_neg z] at st
      exact ih (k + 1) M (by omega) u1 u2 u3 (by rw [st]; exact u4)
    · have z := zbi_1 z
      rw [if_pos z] at st
      exact ih (k + 1) _ (by omega) (zLf_u u1 (by omega)) (by rw [zu_at, if_neg (by decide)]; exact u2) (by rw [zu_at, if_neg (by decide)]; exact u3) (by rw [zu_at, if_pos rfl, st])
theorem lp_word1 {M0 : Nat → Nat → Int32} (hK : zKok K) (hT : ztT M0 T len) (hs : M0 31 6 = nI s) (hsl : s ≤ len) (kk : ∀ M, zLf M0 M → M 31 6 = nI s → M 31 7 = nI (ztru T zcL len (s + 1)) → M 31 4 = nI (ztwf T s (ztru T zcL len (s + 1) - s) 14) → F none (X, b, zLay, K, B, M)) : ∀ (q i : Nat) (M : Nat → Nat → Int32), i + q = len → s ≤ i → ztru T zcL len i = ztru T zcL len (s + 1) → zLf M0 M → M 31 6 = nI s → M 31 7 = nI i → zEx (zCall (d + 4)) 6 false 0 zc_Reader_takeWord F 15 [.ref 31, .int (nI i)] [] (X, b, zLay, K, B, M) := by
  have fin : ∀ i M, s ≤ i → i ≤ len → ztru T zcL len i = ztru T zcL len (s + 1) → ztru T zcL len i = i → zLf M0 M → M 31 6 = nI s → M 31 7 = nI i → zEx (zCall (d + 4)) 6 false 0 zc_Reader_takeWord F 48 [.ref 31, .int (nI i)] [] (X, b, zLay, K, B, M) := by
    intro i M hi hi2 e1 e2 u1 u2 u3
    refine zb_Reader_takeWord_48 i ?_
    rw [← e1, e2] at kk
    have hM : zLf M0 (zu M 31 4 1) := zLf_u u1 (by omega)
    exact lp_word2 (e := i) hK (ztT_f hM hT) (by rw [zu_at, if_neg (by decide)]; exact u2) (by rw [zu_at, if_neg (by decide)]; exact u3) ⟨hi, hi2⟩ (fun M3 v1 v2 v3 v4 => kk M3 ⟨fun c hc => (v1.1 c hc).trans (hM.1 c hc), fun j h1 h2 h3 h4 => (v1.2 j h1 h2 h3 h4).trans (hM.2 j h1 h2 h3 h4)⟩ v2 v3 v4) 14 0 _ (by omega) (zLf_rfl _) (by rw [zu_at, if_neg (by decide)]; exact u2) (by rw [zu_at, if_neg (by decide)]; exact u3) (by rw [zu_at, if_pos rfl]; rfl)
  intro q
  induction q with
  | zero =>
    intro i M hi hsi e1 u1 u2 u3
    have t := ztT_f u1 hT
    exact zb_Reader_takeWord_15 (tv := 0) hK i t.1 t.2.1 (by omega) (fun z => absurd z (by omega)) (by omega) (fun _ => fin i M hsi (by omega) e1 (ztru_e (by omega)) u1 u2 u3) (fun z => absurd z (by omega)) (fun z => absurd z (by omega))
  | succ q ih =>
    intro i M hi hsi e1 u1 u2 u3
    have t := ztT_f u1 hT
    have ht := t.2.2 i (by omega)
    refine zb_Reader_takeWord_15 (tv := T i) hK i t.1 t.2.1 (by omega) (fun _ => ht.1) ht.2 (fun z => absurd z (by omega)) (fun _ z => ?_) (fun _ z => ?_)
    · exact fin i M hsi (by omega) e1 (ztru_e (fun y => z y.2)) u1 u2 u3
    · exact ih (i + 1) _ (by omega) (by omega) (by rw [← ztru_s (by omega) z]; exact e1) (zLf_u u1 (by omega)) (by rw [zu_at, if_neg (by decide)]; exact u2) (by rw [zu_at, if_pos rfl])
theorem zcD_b {x : Nat} (h : zcD x = true) : 48 ≤ x ∧ x ≤ 57 := by
  unfold zcD at h
  exact of_decide_eq_true h
theorem lp_num {M0 : Nat → Nat → Int32} (hK : zKok K) (hT : ztT M0 T len) (hs : M0 31 6 = nI s) (hsl : s ≤ len) (kk : ∀ M, zLf M0 M → M 31 6 = nI s → M 31 4 = 2 → M 31 7 = nI (ztru T zcD len s) → M 31 5 = nI (ztnm T s (ztru T zcD len s - s)) → F none (X, b, zLay, K, B, M)) : ∀ (q i : Nat) (M : Nat → Nat → Int32), i + q = len → s ≤ i → ztru T zcD len i = ztru T zcD len s → zLf M0 M → M 31 6 = nI s → M 31 4 = 2 → (M 31 7 = nI i ∨ (i = s ∧ s < len ∧ zcD (T s) = true)) → M 31 5 = nI (ztnm T s (i - s)) → zEx (zCall (d + 4)) 6 false 0 zc_Reader_takeNumber F 15 [.ref 31, .int (nI i)] [] (X, b, zLay, K, B, M) := by
  intro q
  induction q with
  | zero =>
    intro i M hi hsi e1 u1 u2 u3 u4 u5
    have t := ztT_f u1 hT
    have ei := ztru_e (T := T) (P := zcD) (len := len) (i := i) (by omega)
    refine zb_Reader_takeNumber_15 (tv := 0) hK i t.1 t.2.1 (by omega) (fun z => absurd z (by omega)) (by omega) u5 (ztnm_le _ _ _) zcD_b (fun _ => ?_) (fun z => absurd z (by omega)) (fun z => absurd z (by omega))
    rcases u4 with u4 | u4
    · exact kk M u1 u2 u3 (by rw [← e1, ei]; exact u4) (by rw [← e1, ei]; exact u5)
    · omega
  | succ q ih =>
    intro i M hi hsi e1 u1 u2 u3 u4 u5
    have t := ztT_f u1 hT
    have ht := t.2.2 i (by omega)
    refine zb_Reader_takeNumber_15 (tv := T i) hK i t.1 t.2.1 (by omega) (fun _ => ht.1) ht.2 u5 (ztnm_le _ _ _) zcD_b (fun z => absurd z (by omega)) (fun _ z => ?_) (fun _ z => ?_)
    · have ei := ztru_e (T := T) (P := zcD) (len := len) (i := i) (fun y => z y.2)
      rcases u4 with u4 | ⟨y, _, y2⟩
      · exact kk M u1 u2 u3 (by rw [← e1, ei]; exact u4) (by rw [← e1, ei]; exact u5)
      · rw [y] at z; exact absurd y2 z
    · refine ih (i + 1) _ (by omega) (by omega) (by rw [← ztru_s (by omega) z]; exact e1) (zLf_u (zLf_u u1 (by omega)) (by omega)) (by rw [zu_at, if_neg (by decide), zu_at, if_neg (by decide)]; exact u2) (by rw [zu_at, if_neg (by decide), zu_at, if_neg (by decide)]; exact u3) (Or.inl (by rw [zu_at, if_pos rfl])) ?_
      rw [zu_at, if_neg (by decide), zu_at, if_pos rfl, show i + 1 - s = (i - s) + 1 by omega]
      show _ = nI (min ((10 * ztnm T s (i - s) + T (s + (i - s))) - 48) 10000)
      rw [show s + (i - s) = i by omega]
theorem lp_adv {M0 : Nat → Nat → Int32} (hK : zKok K) (hT : ztT M0 T len) (kk : ∀ M, zLf M0 M → zTk M T len p → F none (X, b, zLay, K, B, M)) : ∀ (q i : Nat) (M : Nat → Nat → Int32), i + q = len → ztru T zcB len i = ztst T len p → zLf M0 M → M 31 6 = nI i → zEx (zCall (d + 5)) 6 false 0 zc_Reader_advance F 13 [.ref 31, .int (nI i)] [] (X, b, zLay, K, B, M) := by
  have fin : ∀ i M, i ≤ len → ztst T len p = i → zLf M0 M → M 31 6 = nI i → zEx (zCall (d + 5)) 6 false 0 zc_Reader_advance F 46 [.ref 31, .int (nI i)] [] (X, b, zLay, K, B, M) := by
    intro s M hi e1 u1 u2
    have t := ztT_f u1 hT
    have tr : ∀ {M3}, zLf M M3 → zLf M0 M3 := fun {M3} v1 => ⟨fun c hc => (v1.1 c hc).trans (u1.1 c hc), fun j h1 h2 h3 h4 => (v1.2 j h1 h2 h3 h4).trans (u1.2 j h1 h2 h3 h4)⟩
    unfold zTk ztk ztnx ztnu at kk
    rw [e1] at kk
    unfold ztk0 ztn0 ztu0 at kk
    by_cases h1 : len ≤ s
    · rw [if_pos h1, if_pos h1] at kk
      refine zb_Reader_advance_46 (s := s) (tv := 0) hK s t.1 t.2.1 u2 hi (fun z => absurd z (by omega)) (by omega) (fun z => absurd z (by omega)) (fun z => absurd z (by omega)) (fun z => absurd z (by omega)) (fun _ => ?_)
      exact kk _ (tr (zLf_u (zLf_u (zLf_rfl M) (by omega)) (by omega))) ⟨by rw [zu_at, if_neg (by decide), zu_at, if_pos rfl]; rfl, fun z => absurd z (by decide), by rw [zu_at, if_neg (by decide), zu_at, if_neg (by decide)]; exact u2, by rw [zu_at, if_pos rfl]⟩
    · have ht := t.2.2 s (by omega)
      have h3 := t.2.1
      rw [if_neg h1, if_neg h1] at kk
      refine zb_Reader_advance_46 (s := s) (tv := T s) hK s t.1 t.2.1 u2 hi (fun _ => ht.1) ht.2 (fun _ z z2 => ?_) (fun _ z z2 => ?_) (fun _ z => ?_) (fun z => absurd z h1)
      · rw [if_neg z, if_neg z2, if_neg z, if_neg z2] at kk
        have sl := ztsg_le (T s)
        have tv2 : ∃ v, v < 256 ∧ (s + 1 < len → M 32 (s + 1) = nI v ∧ v = T (s + 1)) := by
          by_cases y : s + 1 < len
          · exact ⟨T (s + 1), (t.2.2 (s + 1) y).2, fun _ => ⟨(t.2.2 (s + 1) y).1, rfl⟩⟩
          · exact ⟨0, by decide, fun q => absurd q y⟩
        obtain ⟨v, v1, v2⟩ := tv2
        have kn : ¬ zteq T len s → F none (X, b, zLay, K, B, (zu (zu M 31 4 (nI (ztsg (T s)))) 31 7 (nI (s + 1)))) := fun y => by
          rw [if_neg y, if_neg y] at kk
          exact kk _ (tr (zLf_u (zLf_u (zLf_rfl M) (by omega)) (by omega))) ⟨by rw [zu_at, if_neg (by decide), zu_at, if_pos rfl], fun q => absurd q (ztsg_n2 _), by rw [zu_at, if_neg (by decide), zu_at, if_neg (by decide)]; exact u2, by rw [zu_at, if_pos rfl]⟩
        have ky : ∀ w : Int32, zteq T len s → w = nI (ztsg (T s) + 1) → F none (X, b, zLay, K, B, (zu (zu (zu (zu M 31 4 (nI (ztsg (T s)))) 31 7 (nI (s + 1))) 31 4 w) 31 7 (nI (2 + s)))) := fun w y hw => by
          have y3 := y.2.2
          rw [if_pos y, if_pos y] at kk
          exact kk _ (tr (zLf_u (zLf_u (zLf_u (zLf_u (zLf_rfl M) (by omega)) (by omega)) (by omega)) (by omega))) ⟨by rw [zu_at, if_neg (by decide), zu_at, if_pos rfl, hw], fun q => by omega, by rw [zu_at, if_neg (by decide), zu_at, if_neg (by decide), zu_at, if_neg (by decide), zu_at, if_neg (by decide)]; exact u2, by rw [zu_at, if_pos rfl, Nat.add_comm]⟩
        refine zb_Reader_takeSign_0 (len := len) (s := s) (tv := T s) (tv2 := v) hK t.1 t.2.1 u2 (by omega) (fun _ => ht.1) ht.2 sl.1 (fun q => (v2 q).1) v1 (fun y => ?_) (fun y y2 => ?_) (fun _ _ y3 y4 => absurd y3 y4) (fun y y2 y3 _ => ?_) (fun y y2 y3 y4 => ?_) (fun y y2 y3 y4 y5 => ?_) (fun _ _ y3 _ y5 => absurd y5 y3)
        · exact zb_Reader_advance_113 (T s) (kn (fun q => by have := q.1; omega))
        · exact zb_Reader_advance_113 (T s) (kn (fun q => y2 (by rw [(v2 y).2]; exact q.2.1)))
        · exact zb_Reader_advance_113 (T s) (ky 18 ⟨y, by rw [← (v2 y).2]; exact y2, Or.inl y3⟩ (by rw [y3]; rfl))
        · exact zb_Reader_advance_113 (T s) (kn (fun q => by rcases q.2.2 with r | r; exact y3 r; exact y4 r))
        · exact zb_Reader_advance_113 (T s) (ky 20 ⟨y, by rw [← (v2 y).2]; exact y2, Or.inr y4⟩ (by rw [y4]; rfl))
      · rw [if_neg z, if_pos z2, if_neg z, if_pos z2] at kk
        refine zb_Reader_takeNumber_0 (s := s) u2 ?_
        have hM : zLf M (zu (zu M 31 4 2) 31 5 0) := zLf_u (zLf_u (zLf_rfl M) (by omega)) (by omega)
        refine lp_num hK (ztT_f hM t) (by rw [zu_at, if_neg (by decide), zu_at, if_neg (by decide)]; exact u2) hi (fun M3 v1 v2 v3 v4 v5 => ?_) (len - s) s _ (by omega) (Nat.le_refl _) rfl (zLf_rfl _) (by rw [zu_at, if_neg (by decide), zu_at, if_neg (by decide)]; exact u2) (by rw [zu_at, if_neg (by decide), zu_at, if_pos rfl]) (Or.inr ⟨rfl, by omega, z2⟩) (by rw [zu_at, if_pos rfl, Nat.sub_self]; rfl)
        have f3 : zLf M M3 := ⟨fun c hc => (v1.1 c hc).trans (hM.1 c hc), fun j h1 h2 h3 h4 => (v1.2 j h1 h2 h3 h4).trans (hM.2 j h1 h2 h3 h4)⟩
        exact zb_Reader_advance_106 (T s) (kk M3 (tr f3) ⟨v3, fun _ => v5, v2, v4⟩)
      · rw [if_pos z, if_pos z] at kk
        refine zb_Reader_takeWord_0 (s := s) u2 (by omega) ?_
        have hM : zLf M (zu M 31 7 (nI (s + 1))) := zLf_u (zLf_rfl M) (by omega)
        have es := ztru_s (T := T) (P := zcL) (len := len) (i := s) (by omega) z
        refine lp_word1 hK (ztT_f hM t) (by rw [zu_at, if_neg (by decide)]; exact u2) hi (fun M3 v1 v2 v3 v4 => ?_) (len - (s + 1)) (s + 1) _ (by omega) (by omega) rfl (zLf_rfl _) (by rw [zu_at, if_neg (by decide)]; exact u2) (by rw [zu_at, if_pos rfl])
        rw [← es] at v3 v4
        have f3 : zLf M M3 := ⟨fun c hc => (v1.1 c hc).trans (hM.1 c hc), fun j h1 h2 h3 h4 => (v1.2 j h1 h2 h3 h4).trans (hM.2 j h1 h2 h3 h4)⟩
        refine zb_Reader_advance_92 (T s) (kk M3 (tr f3) ⟨v4, fun q => ?_, v2, v3⟩)
        exfalso
        have : ∀ k, k ≤ 14 → ztwf T s (ztru T zcL len s - s) k ≠ 2 := by
          intro k
          induction k with
          | zero => intro _; show 1 ≠ 2; decide
          | succ k ih =>
            intro hk
            unfold ztwf
            split
            · omega
            · exact ih (by omega)
        exact this 14 (Nat.le_refl _) q
  intro q
  induction q with
  | zero =>
    intro i M hi e1 u1 u2
    have t := ztT_f u1 hT
    exact zb_Reader_advance_13 (tv := 0) hK i t.1 t.2.1 (by omega) (fun z => absurd z (by omega)) (by omega) (fun _ => fin i M (by omega) (by rw [← e1]; exact ztru_e (by omega)) u1 u2) (fun z => absurd z (by omega)) (fun z => absurd z (by omega))
  | succ q ih =>
    intro i M hi e1 u1 u2
    have t := ztT_f u1 hT
    have ht := t.2.2 i (by omega)
    refine zb_Reader_advance_13 (tv := T i) hK i t.1 t.2.1 (by omega) (fun _ => ht.1) ht.2 (fun z => absurd z (by omega)) (fun _ z => ?_) (fun _ z => ?_)
    · exact fin i M (by omega) (by rw [← e1]; exact ztru_e (fun y => z y.2)) u1 u2
    · exact ih (i + 1) _ (by omega) (by rw [← ztru_s (by omega) z]; exact e1) (zLf_u u1 (by omega)) (by rw [zu_at, if_pos rfl])
theorem sp_adv (hK : zKok K) (hT : ztT M T len) (hn : M 31 7 = nI p) (hp : p ≤ len) (kk : ∀ M', zLf M M' → zTk M' T len p → F none (X, b, zLay, K, B, M')) : zCall (d + 6) zm_Reader_advance [.ref 31] (X, b, zLay, K, B, M) F := by
  refine zb_Reader_advance_0 (p := p) hn ?_
  have hM : zLf M (zu M 31 6 (nI p)) := zLf_u (zLf_rfl M) (by omega)
  exact lp_adv hK (ztT_f hM hT) (fun M3 v1 v2 => kk M3 ⟨fun c hc => (v1.1 c hc).trans (hM.1 c hc), fun j h1 h2 h3 h4 => (v1.2 j h1 h2 h3 h4).trans (hM.2 j h1 h2 h3 h4)⟩ v2) (len - p) p _ (by omega) rfl (zLf_rfl _) (by rw [zu_at, if_pos rfl])
end LXC
