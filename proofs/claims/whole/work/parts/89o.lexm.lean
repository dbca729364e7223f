/-! ===== reading a text: the reference's tokens ===== -/
def ztW (k : Nat) : Nat := if k ≤ 6 then k - 3 else if k ≤ 13 then k else k - 10
def ztsc (k : Nat) : Nat := match k with
  | 17 => 60 | 18 => 300 | 19 => 62 | 20 => 301 | 21 => 61 | 22 => 35 | 23 => 43 | 24 => 45 | 25 => 42 | 26 => 47 | 27 => 40 | 28 => 41 | 29 => 59 | _ => 0
def zpk (f : Nat → Nat) : Nat → Nat
  | 0 => 0
  | n + 1 => 64 * zpk f n + (f n - 64)
theorem zpk_inj {f g : Nat → Nat} : ∀ (n m : Nat), (∀ i, i < n → 65 ≤ f i ∧ f i ≤ 127) → (∀ i, i < m → 65 ≤ g i ∧ g i ≤ 127) → zpk f n = zpk g m → n = m ∧ ∀ i, i < n → f i = g i := by
  intro n
  induction n with
  | zero =>
    intro m hf hg e
    cases m with
    | zero => exact ⟨rfl, fun i hi => absurd hi (Nat.not_lt_zero _)⟩
    | succ m =>
      have := hg m (by omega)
      have e : 0 = 64 * zpk g m + (g m - 64) := e
      omega
  | succ n ih =>
    intro m hf hg e
    have a := hf n (by omega)
    cases m with
    | zero =>
      have e : 64 * zpk f n + (f n - 64) = 0 := e
      omega
    | succ m =>
      have c := hg m (by omega)
      have e : 64 * zpk f n + (f n - 64) = 64 * zpk g m + (g m - 64) := e
      obtain ⟨i1, i2⟩ := ih m (fun i hi => hf i (by omega)) (fun i hi => hg i (by omega)) (by omega)
      subst i1
      refine ⟨rfl, fun i hi => ?_⟩
      by_cases q : i = n
      · rw [q]; omega
      · exact i2 i (by omega)
theorem zpk_lt {f : Nat → Nat} : ∀ n, (∀ i, i < n → 65 ≤ f i ∧ f i ≤ 127) → zpk f n < 64 ^ n := by
  intro n
  induction n with
  | zero => intro _; exact Nat.one_pos
  | succ n ih =>
    intro h
    have := ih (fun i hi => h i (by omega))
    have a := h n (by omega)
    show 64 * zpk f n + (f n - 64) < 64 ^ (n + 1)
    rw [Nat.pow_succ]
    omega
theorem zpk_ext {f g : Nat → Nat} : ∀ n, (∀ i, i < n → f i = g i) → zpk f n = zpk g n := by
  intro n
  induction n with
  | zero => intro _; rfl
  | succ n ih =>
    intro h
    show 64 * zpk f n + (f n - 64) = 64 * zpk g n + (g n - 64)
    rw [ih (fun i hi => h i (by omega)), h n (by omega)]
theorem ztw_65 {k i : Nat} (hk : k < 14) (hi : i < (ztw k).length) : 65 ≤ (ztw k).getD i 0 ∧ (ztw k).getD i 0 ≤ 127 := by
  have l6 := ztw_len hk
  have : ∀ k, k < 14 → ∀ i, i < 6 → i < (ztw k).length → 65 ≤ (ztw k).getD i 0 ∧ (ztw k).getD i 0 ≤ 127 := by decide
  exact this k hk i (by omega) hi
theorem zmt_pk {T : Nat → Nat} {s n k : Nat} (hk : k < 14) (hT : ∀ i, i < n → 65 ≤ T (s + i) ∧ T (s + i) ≤ 127) : zmt T s n k ↔ zpk (fun i => T (s + i)) n = zpk (fun i => (ztw k).getD i 0) (ztw k).length := by
  constructor
  · intro h
    rw [h.1]
    exact zpk_ext n (fun i hi => (h.2 i hi).symm)
  · intro h
    obtain ⟨h1, h2⟩ := zpk_inj n _ hT (fun i hi => ztw_65 hk hi) h
    exact ⟨h1.symm, fun i hi => (h2 i hi).symm⟩
theorem ztwf_v {T : Nat → Nat} {s n v : Nat} (hT : ∀ i, i < n → 65 ≤ T (s + i) ∧ T (s + i) ≤ 127) (hv : zpk (fun i => T (s + i)) n = v) : ztwf T s n 14 = (if v = 191476 then 16 else (if v = 138148 then 15 else (if v = 3058 then 14 else (if v = 9576051 then 13 else (if v = 149625 then 12 else (if v = 765905267 then 11 else (if v = 56515534003 then 10 else (if v = 883055781 then 9 else (if v = 52106534120 then 8 else (if v = 10640549 then 7 else (if v = 12212580 then 6 else (if v = 40677367013 then 5 else (if v = 13584505 then 4 else (if v = 12212338 then 3 else 1)))))))))))))) := by
  have z : ∀ k, k < 14 → (zmt T s n k ↔ v = zpk (fun i => (ztw k).getD i 0) (ztw k).length) := fun k hk => by rw [zmt_pk hk hT, hv]
  unfold ztwf ztwf ztwf ztwf ztwf ztwf ztwf ztwf ztwf ztwf ztwf ztwf ztwf ztwf ztwf
  have c : ∀ k, k < 14 → zpk (fun i => (ztw k).getD i 0) (ztw k).length = [12212338, 13584505, 40677367013, 12212580, 10640549, 52106534120, 883055781, 56515534003, 765905267, 149625, 9576051, 3058, 138148, 191476].getD k 0 := by decide
  simp only [z 0 (by decide), z 1 (by decide), z 2 (by decide), z 3 (by decide), z 4 (by decide), z 5 (by decide), z 6 (by decide), z 7 (by decide), z 8 (by decide), z 9 (by decide), z 10 (by decide), z 11 (by decide), z 12 (by decide), z 13 (by decide), c 0 (by decide), c 1 (by decide), c 2 (by decide), c 3 (by decide), c 4 (by decide), c 5 (by decide), c 6 (by decide), c 7 (by decide), c 8 (by decide), c 9 (by decide), c 10 (by decide), c 11 (by decide), c 12 (by decide), c 13 (by decide)]
  rfl
theorem zWk {v : Nat} : ((if v = 191476 then 16 else (if v = 138148 then 15 else (if v = 3058 then 14 else (if v = 9576051 then 13 else (if v = 149625 then 12 else (if v = 765905267 then 11 else (if v = 56515534003 then 10 else (if v = 883055781 then 9 else (if v = 52106534120 then 8 else (if v = 10640549 then 7 else (if v = 12212580 then 6 else (if v = 40677367013 then 5 else (if v = 13584505 then 4 else (if v = 12212338 then 3 else 1)))))))))))))) = 1 ∧ zWf v = -1) ∨ (3 ≤ (if v = 191476 then 16 else (if v = 138148 then 15 else (if v = 3058 then 14 else (if v = 9576051 then 13 else (if v = 149625 then 12 else (if v = 765905267 then 11 else (if v = 56515534003 then 10 else (if v = 883055781 then 9 else (if v = 52106534120 then 8 else (if v = 10640549 then 7 else (if v = 12212580 then 6 else (if v = 40677367013 then 5 else (if v = 13584505 then 4 else (if v = 12212338 then 3 else 1)))))))))))))) ∧ (if v = 191476 then 16 else (if v = 138148 then 15 else (if v = 3058 then 14 else (if v = 9576051 then 13 else (if v = 149625 then 12 else (if v = 765905267 then 11 else (if v = 56515534003 then 10 else (if v = 883055781 then 9 else (if v = 52106534120 then 8 else (if v = 10640549 then 7 else (if v = 12212580 then 6 else (if v = 40677367013 then 5 else (if v = 13584505 then 4 else (if v = 12212338 then 3 else 1)))))))))))))) ≤ 16 ∧ zWf v = nI (ztW (if v = 191476 then 16 else (if v = 138148 then 15 else (if v = 3058 then 14 else (if v = 9576051 then 13 else (if v = 149625 then 12 else (if v = 765905267 then 11 else (if v = 56515534003 then 10 else (if v = 883055781 then 9 else (if v = 52106534120 then 8 else (if v = 10640549 then 7 else (if v = 12212580 then 6 else (if v = 40677367013 then 5 else (if v = 13584505 then 4 else (if v = 12212338 then 3 else 1)))))))))))))))) := by
  by_cases h : v = 12212338 ∨ v = 13584505 ∨ v = 40677367013 ∨ v = 12212580 ∨ v = 3058 ∨ v = 138148 ∨ v = 191476 ∨ v = 10640549 ∨ v = 52106534120 ∨ v = 883055781 ∨ v = 56515534003 ∨ v = 765905267 ∨ v = 149625 ∨ v = 9576051
  · right
    rcases h with rfl | rfl | rfl | rfl | rfl | rfl | rfl | rfl | rfl | rfl | rfl | rfl | rfl | rfl <;> decide
  · left
    simp only [not_or] at h
    obtain ⟨h0, h1, h2, h3, h4, h5, h6, h7, h8, h9, h10, h11, h12, h13⟩ := h
    refine ⟨?_, ?_⟩
    · rw [if_neg h6, if_neg h5, if_neg h4, if_neg h13, if_neg h12, if_neg h11, if_neg h10, if_neg h9, if_neg h8, if_neg h7, if_neg h3, if_neg h2, if_neg h1, if_neg h0]
    · unfold zWf
      rw [if_neg h0, if_neg h1, if_neg h2, if_neg h3, if_neg h4, if_neg h5, if_neg h6, if_neg h7, if_neg h8, if_neg h9, if_neg h10, if_neg h11, if_neg h12, if_neg h13]
/-- the token of the reference -/
def zRt (M : Nat → Nat → Int32) (T : Nat → Nat) (len p : Nat) : Prop := M 71 11 = nI (ztst T len p) ∧ M 71 10 = nI (ztnx T len p) ∧ (ztk T len p = 0 → M 71 12 = 0) ∧ (ztk T len p = 1 → M 71 12 = 4 ∨ (M 71 12 = 3 ∧ M 71 13 = 44)) ∧ (ztk T len p = 2 → M 71 12 = 2 ∧ ∃ v, M 71 13 = nI v ∧ v ≤ 1000000 ∧ ((v ≤ 9999 ∧ v = ztnu T len p) ∨ (9999 < v ∧ 9999 < ztnu T len p))) ∧ (3 ≤ ztk T len p → ztk T len p ≤ 16 → M 71 12 = 1 ∧ M 71 13 = nI (ztW (ztk T len p))) ∧ (17 ≤ ztk T len p → M 71 12 = 3 ∧ M 71 13 = nI (ztsc (ztk T len p)))
def ztMf (M M2 : Nat → Nat → Int32) : Prop := (∀ c, c ≠ 71 → M2 c = M c) ∧ ∀ i, i < 10 ∨ 13 < i → M2 71 i = M 71 i
theorem ztMf_rfl (M : Nat → Nat → Int32) : ztMf M M := ⟨fun _ _ => rfl, fun _ _ => rfl⟩
theorem ztMf_u {M M2 : Nat → Nat → Int32} (h : ztMf M M2) {i : Nat} {v : Int32} (hi : 10 ≤ i ∧ i ≤ 13) : ztMf M (zu M2 71 i v) := ⟨fun c hc => by rw [zu_oc hc]; exact h.1 c hc, fun j h1 => by rw [zu_at, if_neg (by omega)]; exact h.2 j h1⟩
theorem ztMf_tr {M M2 M3 : Nat → Nat → Int32} (h : ztMf M M2) (k : ztMf M2 M3) : ztMf M M3 := ⟨fun c hc => (k.1 c hc).trans (h.1 c hc), fun j h1 => (k.2 j h1).trans (h.2 j h1)⟩
def ztM (M : Nat → Nat → Int32) (T : Nat → Nat) (len : Nat) : Prop := M 71 9 = nI len ∧ len ≤ 300 ∧ ∀ i, i < len → M 74 i = zB8 (T i) ∧ T i < 256
theorem ztM_f {M M2 : Nat → Nat → Int32} {T : Nat → Nat} {len : Nat} (h : ztMf M M2) (t : ztM M T len) : ztM M2 T len := ⟨by rw [h.2 9 (by omega)]; exact t.1, t.2.1, by rw [h.1 74 (by decide)]; exact t.2.2⟩
def zSg (x : Nat) : Prop := (59 ≤ x ∧ x ≤ 62) ∨ (40 ≤ x ∧ x ≤ 45) ∨ x = 47 ∨ x = 35
theorem zteq_i {T : Nat → Nat} {len s : Nat} : zteq T len s ↔ s + 1 < len ∧ T (s + 1) = 61 ∧ (T s = 60 ∨ T s = 62) := by
  have a : ztsg (T s) = 17 ↔ T s = 60 := by
    constructor
    · intro h
      unfold ztsg at h
      repeat' split at h
      all_goals first | assumption | omega
    · intro h; rw [h]; rfl
  have c : ztsg (T s) = 19 ↔ T s = 62 := by
    constructor
    · intro h
      unfold ztsg at h
      repeat' split at h
      all_goals first | assumption | omega
    · intro h; rw [h]; rfl
  unfold zteq
  rw [a, c]
theorem zSg_y {x : Nat} (h : zSg x) : (ztsg x = 1 ∧ x = 44) ∨ (17 ≤ ztsg x ∧ zB8 x = nI (ztsc (ztsg x))) := by
  have z : x = 59 ∨ x = 60 ∨ x = 61 ∨ x = 62 ∨ x = 40 ∨ x = 41 ∨ x = 42 ∨ x = 43 ∨ x = 44 ∨ x = 45 ∨ x = 47 ∨ x = 35 := by unfold zSg at h; omega
  rcases z with rfl | rfl | rfl | rfl | rfl | rfl | rfl | rfl | rfl | rfl | rfl | rfl <;> first | exact Or.inl ⟨rfl, rfl⟩ | exact Or.inr ⟨by decide, by decide⟩
theorem zSg_n {x : Nat} (h : ¬ zSg x) : ztsg x = 1 := by
  unfold zSg at h
  unfold ztsg
  rw [if_neg (by omega), if_neg (by omega), if_neg (by omega), if_neg (by omega), if_neg (by omega), if_neg (by omega), if_neg (by omega), if_neg (by omega), if_neg (by omega), if_neg (by omega), if_neg (by omega)]
def zrnm (T : Nat → Nat) (s : Nat) : Nat → Nat
  | 0 => 0
  | n + 1 => if 99999 < zrnm T s n then zrnm T s n else 10 * zrnm T s n + T (s + n) - 48
theorem zrnm_ok {T : Nat → Nat} {s : Nat} : ∀ n, (∀ i, i < n → 48 ≤ T (s + i) ∧ T (s + i) ≤ 57) → zrnm T s n ≤ 1000000 ∧ ((zrnm T s n ≤ 9999 ∧ zrnm T s n = ztnm T s n) ∨ (9999 < zrnm T s n ∧ 9999 < ztnm T s n)) := by
  intro n
  induction n with
  | zero => intro _; exact ⟨Nat.zero_le _, Or.inl ⟨Nat.zero_le _, rfl⟩⟩
  | succ n ih =>
    intro h
    have i := ih (fun i hi => h i (by omega))
    have a := h n (by omega)
    have c := ztnm_le T s n
    have e : ztnm T s (n + 1) = min ((10 * ztnm T s n + T (s + n)) - 48) 10000 := rfl
    rw [e]
    unfold zrnm
    split
    · omega
    · omega
section LXM
variable {d : Nat} {F : Option Value → zS → Prop} {X : zX} {b : Nat × Nat} {K : Nat → Nat → Option Nat} {B : Nat → Nat → Int64} {M : Nat → Nat → Int32} {T : Nat → Nat} {len s p : Nat}
theorem lp_Mnum {M0 : Nat → Nat → Int32} {l1 : Int32} (hK : zKok K) (hT : ztM M0 T len) (hsl : s ≤ len) (kk : ∀ M, ztMf M0 M → M 71 11 = M0 71 11 → M 71 12 = M0 71 12 → M 71 10 = nI (ztru T zcD len s) → M 71 13 = nI (zrnm T s (ztru T zcD len s - s)) → F none (X, b, zLay, K, B, M)) : ∀ (q i : Nat) (M : Nat → Nat → Int32), i + q = len → s ≤ i → ztru T zcD len i = ztru T zcD len s → (∀ j, s ≤ j → j < i → zcD (T j) = true) → ztMf M0 M → M 71 11 = M0 71 11 → M 71 12 = M0 71 12 → M 71 10 = nI i → M 71 13 = nI (zrnm T s (i - s)) → zEx (zCall (d + 5)) 10 false 0 zc_Model_next F 232 [.ref 71, .int l1, .null, .null, .null] [] (X, b, zLay, K, B, M) := by
  intro q
  induction q with
  | zero =>
    intro i M hi hsi e1 hd u1 u2 u2' u3 u4
    have t := ztM_f u1 hT
    have ei := ztru_e (T := T) (P := zcD) (len := len) (i := i) (by omega)
    have nb := zrnm_ok (T := T) (s := s) (i - s) (fun j hj => zcD_b (hd (s + j) (by omega) (by omega)))
    exact zb_Model_next_232 (tv := 0) hK l1 t.1 t.2.1 u3 (by omega) (fun z => absurd z (by omega)) (by omega) u4 nb.1 (fun _ => kk M u1 u2 u2' (by rw [← e1, ei]; exact u3) (by rw [← e1, ei]; exact u4)) (fun z => absurd z (by omega)) (fun z => absurd z (by omega)) (fun z => absurd z (by omega))
  | succ q ih =>
    intro i M hi hsi e1 hd u1 u2 u2' u3 u4
    have t := ztM_f u1 hT
    have ht := t.2.2 i (by omega)
    have nb := zrnm_ok (T := T) (s := s) (i - s) (fun j hj => zcD_b (hd (s + j) (by omega) (by omega)))
    have st : zrnm T s (i + 1 - s) = if 99999 < zrnm T s (i - s) then zrnm T s (i - s) else 10 * zrnm T s (i - s) + T i - 48 := by
      rw [show i + 1 - s = (i - s) + 1 by omega]
      show (if 99999 < zrnm T s (i - s) then zrnm T s (i - s) else 10 * zrnm T s (i - s) + T (s + (i - s)) - 48) = _
      rw [show s + (i - s) = i by omega]
    have go : ∀ v : Int32, v = nI (zrnm T s (i + 1 - s)) → zcD (T i) = true → zEx (zCall (d + 5)) 10 false 0 zc_Model_next F 232 [.ref 71, .int l1, .null, .null, .null] [] (X, b, zLay, K, B, (zu (zu M 71 13 v) 71 10 (nI (i + 1)))) := by
      intro v hv z
      refine ih (i + 1) _ (by omega) (by omega) (by rw [← ztru_s (by omega) z]; exact e1) (fun j h1 h2 => ?_) (ztMf_u (ztMf_u u1 (by omega)) (by omega)) (by rw [zu_at, if_neg (by decide), zu_at, if_neg (by decide)]; exact u2) (by rw [zu_at, if_neg (by decide), zu_at, if_neg (by decide)]; exact u2') (by rw [zu_at, if_pos rfl]) (by rw [zu_at, if_neg (by decide), zu_at, if_pos rfl, hv])
      by_cases y : j = i
      · rw [y]; exact z
      · exact hd j h1 (by omega)
    refine zb_Model_next_232 (tv := T i) hK l1 t.1 t.2.1 u3 (by omega) (fun _ => ht.1) ht.2 u4 nb.1 (fun z => absurd z (by omega)) (fun _ z => ?_) (fun _ z z2 => ?_) (fun _ z z2 => ?_)
    · have ei := ztru_e (T := T) (P := zcD) (len := len) (i := i) (fun y => z (zcD_b y.2))
      exact kk M u1 u2 u2' (by rw [← e1, ei]; exact u3) (by rw [← e1, ei]; exact u4)
    · refine go _ ?_ (by unfold zcD; exact decide_eq_true z)
      rw [st, if_neg (by omega), (zB8_e ht.2 (show T i < 128 by omega)).mpr rfl]
      have e1 : (nI (10 * zrnm T s (i - s)) + nI (T i)).toInt = ((10 * zrnm T s (i - s) + T i : Nat) : Int) := by
        rw [Int32.toInt_add, nI_toInt (by omega), nI_toInt (by omega), Int.bmod_eq_of_le (by omega) (by omega)]
        omega
      apply Int32.toInt_inj.mp
      rw [nI_toInt (by omega), Int32.toInt_sub, e1, show (48 : Int32).toInt = 48 from rfl, Int.bmod_eq_of_le (by omega) (by omega)]
      omega
    · exact go _ (by rw [st, if_pos z2]) (by unfold zcD; exact decide_eq_true z)
theorem zpk_64 {f : Nat → Nat} {n : Nat} (h : ∀ i, i < n → 65 ≤ f i ∧ f i ≤ 127) (hn : n ≤ 8) : zpk f n < 281474976710656 := by
  have a := zpk_lt n h
  have c : 64 ^ n ≤ 64 ^ 8 := Nat.pow_le_pow_right (by decide) hn
  have e : (64 : Nat) ^ 8 = 281474976710656 := by decide
  omega
theorem zcL_b {x : Nat} (h : zcL x = true) : 65 ≤ x ∧ x ≤ 127 := by
  unfold zcL at h
  have := of_decide_eq_true h
  omega
theorem lp_Mword {M0 : Nat → Nat → Int32} {l1 : Int32} (hK : zKok K) (hT : ztM M0 T len) (hsl : s ≤ len) (kk : ∀ M, ztMf M0 M → M 71 11 = M0 71 11 → M 71 10 = nI (ztru T zcL len s) → ((ztru T zcL len s - s ≤ 7 ∧ M 71 13 = zWf (zpk (fun i => T (s + i)) (ztru T zcL len s - s)) ∧ (M 71 12 = if (0 : Int32) ≤ M 71 13 then 1 else 4)) ∨ (7 < ztru T zcL len s - s ∧ M 71 12 = 4)) → F none (X, b, zLay, K, B, M)) : ∀ (q i : Nat) (M : Nat → Nat → Int32) (l2 : Int64), i + q = len → s ≤ i → ztru T zcL len i = ztru T zcL len s → (∀ j, s ≤ j → j < i → zcL (T j) = true) → ztMf M0 M → M 71 11 = M0 71 11 → M 71 10 = nI i → (i - s ≤ 8 → l2.toInt = (zpk (fun i => T (s + i)) (i - s) : Int)) → zEx (zCall (d + 5)) 10 false 0 zc_Model_next F 99 [.ref 71, .int l1, .long l2, .null, .int (nI (i - s))] [] (X, b, zLay, K, B, M) := by
  have fin : ∀ i M (l2 : Int64), i ≤ len → s ≤ i → ztru T zcL len s = i → ztMf M0 M → M 71 11 = M0 71 11 → M 71 10 = nI i → (i - s ≤ 8 → l2.toInt = (zpk (fun i => T (s + i)) (i - s) : Int)) → zEx (zCall (d + 5)) 10 false 0 zc_Model_next F 173 [.ref 71, .int l1, .long l2, .null, .int (nI (i - s))] [] (X, b, zLay, K, B, M) := by
    intro i M l2 hi hsi e1 u1 u2 u3 u4
    have h3 := hT.2.1
    rw [e1] at kk
    refine zb_Model_next_173 l1 l2 (i - s) (by omega) (fun z => ?_) (fun z => ?_)
    · refine sp_wordOf (d := d + 4) (u4 (by omega)) ?_
      refine zb_Model_next_189 l1 l2 (i - s) _ (fun y => ?_) (fun y => ?_)
      · exact kk _ (ztMf_u (ztMf_u u1 (by omega)) (by omega)) (by rw [zu_at, if_neg (by decide), zu_at, if_neg (by decide)]; exact u2) (by rw [zu_at, if_neg (by decide), zu_at, if_neg (by decide)]; exact u3) (Or.inl ⟨z, by rw [zu_at, if_neg (by decide), zu_at, if_pos rfl], by rw [show ∀ w, (zu (zu M 71 13 w) 71 12 1) 71 13 = w from fun w => by rw [zu_at, if_neg (by decide), zu_at, if_pos rfl], if_pos y, zu_at, if_pos rfl]⟩)
      · exact kk _ (ztMf_u (ztMf_u u1 (by omega)) (by omega)) (by rw [zu_at, if_neg (by decide), zu_at, if_neg (by decide)]; exact u2) (by rw [zu_at, if_neg (by decide), zu_at, if_neg (by decide)]; exact u3) (Or.inl ⟨z, by rw [zu_at, if_neg (by decide), zu_at, if_pos rfl], by rw [show ∀ w, (zu (zu M 71 13 w) 71 12 4) 71 13 = w from fun w => by rw [zu_at, if_neg (by decide), zu_at, if_pos rfl], if_neg y, zu_at, if_pos rfl]⟩)
    · exact kk _ (ztMf_u (ztMf_u u1 (by omega)) (by omega)) (by rw [zu_at, if_neg (by decide), zu_at, if_neg (by decide)]; exact u2) (by rw [zu_at, if_neg (by decide), zu_at, if_neg (by decide)]; exact u3) (Or.inr ⟨z, by rw [zu_at, if_pos rfl]⟩)
  intro q
  induction q with
  | zero =>
    intro i M l2 hi hsi e1 hd u1 u2 u3 u4
    have t := ztM_f u1 hT
    have ei := ztru_e (T := T) (P := zcL) (len := len) (i := i) (by omega)
    exact zb_Model_next_99 (tv := 0) hK l1 l2 (i - s) t.1 t.2.1 u3 (by omega) (fun z => absurd z (by omega)) (by omega) (by have := t.2.1; omega) (fun _ => fin i M l2 (by omega) hsi (by rw [← e1, ei]) u1 u2 u3 u4) (fun z => absurd z (by omega)) (fun z => absurd z (by omega)) (fun z => absurd z (by omega))
  | succ q ih =>
    intro i M l2 hi hsi e1 hd u1 u2 u3 u4
    have t := ztM_f u1 hT
    have ht := t.2.2 i (by omega)
    have go : ∀ v : Int64, (i + 1 - s ≤ 8 → v.toInt = (zpk (fun i => T (s + i)) (i + 1 - s) : Int)) → zcL (T i) = true → zEx (zCall (d + 5)) 10 false 0 zc_Model_next F 99 [.ref 71, .int l1, .long v, .null, .int (nI (i - s + 1))] [] (X, b, zLay, K, B, (zu M 71 10 (nI (i + 1)))) := by
      intro v hv z
      rw [show i - s + 1 = i + 1 - s by omega]
      refine ih (i + 1) _ v (by omega) (by omega) (by rw [← ztru_s (by omega) z]; exact e1) (fun j h1 h2 => ?_) (ztMf_u u1 (by omega)) (by rw [zu_at, if_neg (by decide)]; exact u2) (by rw [zu_at, if_pos rfl]) hv
      by_cases y : j = i
      · rw [y]; exact z
      · exact hd j h1 (by omega)
    refine zb_Model_next_99 (tv := T i) hK l1 l2 (i - s) t.1 t.2.1 u3 (by omega) (fun _ => ht.1) ht.2 (by have := t.2.1; omega) (fun z => absurd z (by omega)) (fun _ z => ?_) (fun _ z z2 => ?_) (fun _ z z2 => ?_)
    · have ei := ztru_e (T := T) (P := zcL) (len := len) (i := i) (fun y => z y.2)
      exact fin i M l2 (by omega) hsi (by rw [← e1, ei]) u1 u2 u3 u4
    · exact go _ (fun y => absurd y (by omega)) z
    · refine go _ (fun y => ?_) z
      have zb := zcL_b z
      have lt := zpk_64 (f := fun i => T (s + i)) (n := i - s) (fun j hj => zcL_b (hd (s + j) (by omega) (by omega))) (by omega)
      have u5 := u4 (by omega)
      have st : zpk (fun i => T (s + i)) (i + 1 - s) = 64 * zpk (fun i => T (s + i)) (i - s) + (T i - 64) := by
        rw [show i + 1 - s = (i - s) + 1 by omega]
        show 64 * zpk (fun i => T (s + i)) (i - s) + (T (s + (i - s)) - 64) = _
        rw [show s + (i - s) = i by omega]
      rw [st, (zB8_e ht.2 (show T i < 128 by omega)).mpr rfl]
      generalize zpk (fun i => T (s + i)) (i - s) = w at u5 lt
      rw [Int64.toInt_sub, Int64.toInt_add, Int64.toInt_mul, u5, Int32.toInt_toInt64, nI_toInt (by omega), show (64 : Int64).toInt = 64 from rfl, Int.bmod_eq_of_le (n := 64 * (w : Int)) (by omega) (by omega), Int.bmod_eq_of_le (n := 64 * (w : Int) + (T i : Int)) (by omega) (by omega), Int.bmod_eq_of_le (by omega) (by omega)]
      omega
theorem lp_Mnext {M0 : Nat → Nat → Int32} (hK : zKok K) (hT : ztM M0 T len) (kk : ∀ M, ztMf M0 M → zRt M T len p → F none (X, b, zLay, K, B, M)) : ∀ i M, i ≤ len → ztst T len p = i → ztMf M0 M → M 71 10 = nI i → zEx (zCall (d + 5)) 10 false 0 zc_Model_next F 52 [.ref 71, .null, .null, .null, .null] [] (X, b, zLay, K, B, M) := by
  intro s M hi e1 u1 u2
  have t := ztM_f u1 hT
  have h3 := t.2.1
  unfold zRt ztk ztnx ztnu at kk
  rw [e1] at kk
  unfold ztk0 ztn0 ztu0 at kk
  have u1s : ztMf M0 (zu M 71 11 (nI s)) := ztMf_u u1 (by omega)
  have us : (zu M 71 11 (nI s)) 71 11 = nI s := by rw [zu_at, if_pos rfl]
  have ua : (zu M 71 11 (nI s)) 71 10 = nI s := by rw [zu_at, if_neg (by decide)]; exact u2
  by_cases h1 : len ≤ s
  · simp only [if_pos h1] at kk
    refine zb_Model_next_52 (tv := 0) (i := s) hK t.1 t.2.1 u2 hi (fun z => absurd z (by omega)) (by omega) (fun z => absurd z (by omega)) (fun z => absurd z (by omega)) (fun _ => ?_)
    exact kk _ (ztMf_u u1s (by omega)) ⟨by rw [zu_at, if_neg (by decide)]; exact us, by rw [zu_at, if_neg (by decide)]; exact ua, fun _ => by rw [zu_at, if_pos rfl], fun z => absurd z (by decide), fun z => absurd z (by decide), fun z => absurd z (by decide), fun z => absurd z (by decide)⟩
  · have ht := t.2.2 s (by omega)
    simp only [if_neg h1] at kk
    refine zb_Model_next_52 (tv := T s) (i := s) hK t.1 t.2.1 u2 hi (fun _ => ht.1) ht.2 (fun _ z => ?_) (fun _ z => ?_) (fun z => absurd z (by omega))
    · simp only [if_neg z] at kk
      have tv2 : ∃ v, v < 256 ∧ (s + 1 < len → M 74 (s + 1) = zB8 v ∧ v = T (s + 1)) := by
        by_cases y : s + 1 < len
        · exact ⟨T (s + 1), (t.2.2 (s + 1) y).2, fun _ => ⟨(t.2.2 (s + 1) y).1, rfl⟩⟩
        · exact ⟨0, by decide, fun q => absurd q y⟩
      obtain ⟨v, v1, v2⟩ := tv2
      have t1 := ztM_f u1s hT
      generalize hM1 : zu M 71 11 (nI s) = M1 at u1s us ua t1
      have m74 : M1 74 = M 74 := by rw [← hM1, zu_oc (by decide)]
      have nq : ∀ so : Int32, (so = 3 ∧ zSg (T s)) ∨ (so = 4 ∧ ¬ zSg (T s)) → ¬ zteq T len s → ¬ zcD (T s) = true → F none (X, b, zLay, K, B, (zu (zu (zu M1 71 10 (nI (s + 1))) 71 13 (zB8 (T s))) 71 12 so)) := by
        intro so hso hz hd
        simp only [if_neg hz, if_neg hd] at kk
        refine kk _ (ztMf_u (ztMf_u (ztMf_u u1s (by omega)) (by omega)) (by omega)) ⟨by rw [zu_at, if_neg (by decide), zu_at, if_neg (by decide), zu_at, if_neg (by decide)]; exact us, by rw [zu_at, if_neg (by decide), zu_at, if_neg (by decide), zu_at, if_pos rfl], fun q => ?_, fun q => ?_, fun q => absurd q (ztsg_n2 _), fun q1 q2 => ?_, fun q => ?_⟩
        · have := ztsg_le (T s); omega
        · rw [zu_at, if_pos rfl, zu_at, if_neg (by decide), zu_at, if_pos rfl]
          rcases hso with ⟨r1, r2⟩ | ⟨r1, r2⟩
          · rcases zSg_y r2 with ⟨_, y⟩ | ⟨y, _⟩
            · exact Or.inr ⟨r1, by rw [y]; rfl⟩
            · omega
          · exact Or.inl r1
        · rcases hso with ⟨r1, r2⟩ | ⟨r1, r2⟩
          · rcases zSg_y r2 with ⟨y, _⟩ | ⟨y, _⟩ <;> omega
          · have := zSg_n r2; omega
        · rw [zu_at, if_pos rfl, zu_at, if_neg (by decide), zu_at, if_pos rfl]
          rcases hso with ⟨r1, r2⟩ | ⟨r1, r2⟩
          · rcases zSg_y r2 with ⟨y, _⟩ | ⟨_, y⟩
            · omega
            · exact ⟨r1, y⟩
          · have := zSg_n r2; omega
      have yq : ∀ to : Int32, zteq T len s → (T s = 60 ∧ to = 300 ∨ T s = 62 ∧ to = 301) → ¬ zcD (T s) = true → F none (X, b, zLay, K, B, (zu (zu (zu (zu (zu M1 71 10 (nI (s + 1))) 71 13 (zB8 (T s))) 71 12 3) 71 13 to) 71 10 (nI (2 + s)))) := by
        intro to hz ho hd
        simp only [if_pos hz, if_neg hd] at kk
        have kd : ztsg (T s) + 1 = 18 ∧ to = nI (ztsc (ztsg (T s) + 1)) ∨ ztsg (T s) + 1 = 20 ∧ to = nI (ztsc (ztsg (T s) + 1)) := by
          rcases ho with ⟨r1, r2⟩ | ⟨r1, r2⟩
          · rw [r1, r2]; exact Or.inl ⟨rfl, rfl⟩
          · rw [r1, r2]; exact Or.inr ⟨rfl, rfl⟩
        refine kk _ (ztMf_u (ztMf_u (ztMf_u (ztMf_u (ztMf_u u1s (by omega)) (by omega)) (by omega)) (by omega)) (by omega)) ⟨by rw [zu_at, if_neg (by decide), zu_at, if_neg (by decide), zu_at, if_neg (by decide), zu_at, if_neg (by decide), zu_at, if_neg (by decide)]; exact us, by rw [zu_at, if_pos rfl, Nat.add_comm], fun q => by omega, fun q => by omega, fun q => by omega, fun q1 q2 => by omega, fun q => ?_⟩
        rw [zu_at, if_neg (by decide), zu_at, if_neg (by decide), zu_at, if_pos rfl, zu_at, if_neg (by decide), zu_at, if_pos rfl]
        rcases kd with r | r <;> exact ⟨rfl, r.2⟩
      have dig : (48 ≤ T s ∧ T s ≤ 57) → zEx (zCall (d + 5)) 10 false 0 zc_Model_next F 232 [.ref 71, .int (zB8 (T s)), .null, .null, .null] [] (X, b, zLay, K, B, (zu (zu M1 71 12 2) 71 13 0)) := by
        intro z3
        have hd : zcD (T s) = true := by unfold zcD; exact decide_eq_true z3
        simp only [if_pos hd] at kk
        have hM : ztMf M0 (zu (zu M1 71 12 2) 71 13 0) := ztMf_u (ztMf_u u1s (by omega)) (by omega)
        refine lp_Mnum hK (ztM_f hM hT) hi (fun M3 v1 v2 v2' v3 v4 => ?_) (len - s) s _ (by omega) (Nat.le_refl _) rfl (fun j h1 h2 => absurd h2 (by omega)) (ztMf_rfl _) rfl rfl (by rw [zu_at, if_neg (by decide), zu_at, if_neg (by decide)]; exact ua) (by rw [zu_at, if_pos rfl, Nat.sub_self]; rfl)
        have al := ztru_all (T := T) (P := zcD) (len := len) (len - s) s (by omega)
        have nb := zrnm_ok (T := T) (s := s) (ztru T zcD len s - s) (fun j hj => zcD_b (al (s + j) (by omega) (by omega)))
        refine kk M3 (ztMf_tr hM v1) ⟨by rw [v2, zu_at, if_neg (by decide), zu_at, if_neg (by decide)]; exact us, v3, fun q => absurd q (by decide), fun q => absurd q (by decide), fun _ => ⟨by rw [v2', zu_at, if_neg (by decide), zu_at, if_pos rfl], _, v4, nb.1, nb.2⟩, fun q => absurd q (by decide), fun q => absurd q (by decide)⟩
      by_cases hd : zcD (T s) = true
      · have hd2 := zcD_b hd
        exact zb_Model_next_211 (tv := T s) (tv2 := v) (i := s) hK t1.1 t1.2.1 ua hi (fun _ => by rw [m74]; exact ht.1) ht.2 (fun q => by rw [m74]; exact (v2 q).1) v1 (by omega) (fun c0 _ _ _ => absurd hd2 c0) (fun c0 _ _ _ _ => absurd hd2 c0) (fun c0 _ _ _ _ _ => absurd hd2 c0) (fun c0 _ _ _ _ _ => absurd hd2 c0) (fun c0 _ _ _ => absurd hd2 c0) (fun c0 _ _ _ _ => absurd hd2 c0) (fun c0 _ _ _ _ _ => absurd hd2 c0) (fun c0 _ _ _ _ _ _ => absurd hd2 c0) (fun c0 _ _ _ _ _ _ => absurd hd2 c0) (fun c0 _ _ _ _ => absurd hd2 c0) (fun c0 _ _ _ _ _ => absurd hd2 c0) (fun c0 _ _ _ _ _ _ => absurd hd2 c0) (fun c0 _ _ _ _ _ _ => absurd hd2 c0) (fun c0 _ _ _ _ => absurd hd2 c0) (fun c0 _ _ _ _ _ => absurd hd2 c0) (fun c0 _ _ _ _ _ _ => absurd hd2 c0) (fun c0 _ _ _ _ _ _ _ => absurd hd2 c0) (fun c0 _ _ _ _ _ _ _ => absurd hd2 c0) (fun c0 _ _ _ _ _ => absurd hd2 c0) (fun c0 _ _ _ _ _ _ => absurd hd2 c0) (fun c0 _ _ _ _ _ _ _ => absurd hd2 c0) (fun c0 _ _ _ _ _ _ _ => absurd hd2 c0) (fun c0 _ _ _ _ _ => absurd hd2 c0) (fun c0 _ _ _ _ _ _ => absurd hd2 c0) (fun c0 _ _ _ _ _ _ _ => absurd hd2 c0) (fun c0 _ _ _ _ _ _ _ _ => absurd hd2 c0) (fun c0 _ _ _ _ _ _ _ _ => absurd hd2 c0) (fun c0 _ _ _ _ _ _ => absurd hd2 c0) (fun c0 _ _ _ _ _ _ _ => absurd hd2 c0) (fun c0 _ _ _ _ _ _ _ _ => absurd hd2 c0) (fun c0 _ _ _ _ _ _ _ _ => absurd hd2 c0) (fun c0 _ _ _ _ _ _ => absurd hd2 c0) (fun c0 _ _ _ _ _ _ _ => absurd hd2 c0) (fun c0 _ _ _ _ _ _ _ _ => absurd hd2 c0) (fun c0 _ _ _ _ _ _ _ _ _ => absurd hd2 c0) (fun c0 _ _ _ _ _ _ _ _ _ => absurd hd2 c0) (fun c0 _ _ _ _ _ _ => absurd hd2 c0) (fun c0 _ _ _ _ _ _ _ => absurd hd2 c0) (fun c0 _ _ _ _ _ _ _ _ => absurd hd2 c0) (fun c0 _ _ _ _ _ _ _ _ => absurd hd2 c0) (fun c0 _ _ _ _ _ _ => absurd hd2 c0) (fun c0 _ _ _ _ _ _ _ => absurd hd2 c0) (fun c0 _ _ _ _ _ _ _ _ => absurd hd2 c0) (fun c0 _ _ _ _ _ _ _ _ _ => absurd hd2 c0) (fun c0 _ _ _ _ _ _ _ _ _ => absurd hd2 c0) (fun z3 => dig z3)
      · have nq := fun so h1 h2 => nq so h1 h2 hd
        have yq := fun to h1 h2 => yq to h1 h2 hd
        have vv : s + 1 < len → v = T (s + 1) := fun q => (v2 q).2
        exact zb_Model_next_211 (tv := T s) (tv2 := v) (i := s) hK t1.1 t1.2.1 ua hi (fun _ => by rw [m74]; exact ht.1) ht.2 (fun q => by rw [m74]; exact (v2 q).1) v1 (by omega) (fun c0 c1 c2 c3 => by have e2 : T s = 60 := (zB8_e (c := 60) ht.2 (by decide)).mp c2; first | (exfalso; omega) | exact nq 3 (Or.inl ⟨rfl, by unfold zSg; omega⟩) (by rw [zteq_i]; omega) | exact nq 4 (Or.inr ⟨rfl, by unfold zSg; omega⟩) (by rw [zteq_i]; omega) | exact yq 300 (by rw [zteq_i]; omega) (Or.inl ⟨by omega, rfl⟩) | exact yq 301 (by rw [zteq_i]; omega) (Or.inr ⟨by omega, rfl⟩)) (fun c0 c1 c2 c3 c4 => by have e2 : T s = 60 := (zB8_e (c := 60) ht.2 (by decide)).mp c2; have e4 : ¬ v = 61 := fun q => c4 ((zB8_e (c := 61) v1 (by decide)).mpr q); first | (exfalso; omega) | exact nq 3 (Or.inl ⟨rfl, by unfold zSg; omega⟩) (by rw [zteq_i]; omega) | exact nq 4 (Or.inr ⟨rfl, by unfold zSg; omega⟩) (by rw [zteq_i]; omega) | exact yq 300 (by rw [zteq_i]; omega) (Or.inl ⟨by omega, rfl⟩) | exact yq 301 (by rw [zteq_i]; omega) (Or.inr ⟨by omega, rfl⟩)) (fun c0 c1 c2 c3 c4 c5 => by have e2 : T s = 60 := (zB8_e (c := 60) ht.2 (by decide)).mp c2; have e4 : v = 61 := (zB8_e (c := 61) v1 (by decide)).mp c4; have e5 : ¬ T s = 60 := fun q => c5 ((zB8_e (c := 60) ht.2 (by decide)).mpr q); first | (exfalso; omega) | exact nq 3 (Or.inl ⟨rfl, by unfold zSg; omega⟩) (by rw [zteq_i]; omega) | exact nq 4 (Or.inr ⟨rfl, by unfold zSg; omega⟩) (by rw [zteq_i]; omega) | exact yq 300 (by rw [zteq_i]; omega) (Or.inl ⟨by omega, rfl⟩) | exact yq 301 (by rw [zteq_i]; omega) (Or.inr ⟨by omega, rfl⟩)) (fun c0 c1 c2 c3 c4 c5 => by have e2 : T s = 60 := (zB8_e (c := 60) ht.2 (by decide)).mp c2; have e4 : v = 61 := (zB8_e (c := 61) v1 (by decide)).mp c4; have e5 : T s = 60 := (zB8_e (c := 60) ht.2 (by decide)).mp c5; first | (exfalso; omega) | exact nq 3 (Or.inl ⟨rfl, by unfold zSg; omega⟩) (by rw [zteq_i]; omega) | exact nq 4 (Or.inr ⟨rfl, by unfold zSg; omega⟩) (by rw [zteq_i]; omega) | exact yq 300 (by rw [zteq_i]; omega) (Or.inl ⟨by omega, rfl⟩) | exact yq 301 (by rw [zteq_i]; omega) (Or.inr ⟨by omega, rfl⟩)) (fun c0 c1 c2 c3 => by have e2 : ¬ T s = 60 := fun q => c2 ((zB8_e (c := 60) ht.2 (by decide)).mpr q); have e3 : ¬ T s = 62 := fun q => c3 ((zB8_e (c := 62) ht.2 (by decide)).mpr q); first | (exfalso; omega) | exact nq 3 (Or.inl ⟨rfl, by unfold zSg; omega⟩) (by rw [zteq_i]; omega) | exact nq 4 (Or.inr ⟨rfl, by unfold zSg; omega⟩) (by rw [zteq_i]; omega) | exact yq 300 (by rw [zteq_i]; omega) (Or.inl ⟨by omega, rfl⟩) | exact yq 301 (by rw [zteq_i]; omega) (Or.inr ⟨by omega, rfl⟩)) (fun c0 c1 c2 c3 c4 => by have e2 : ¬ T s = 60 := fun q => c2 ((zB8_e (c := 60) ht.2 (by decide)).mpr q); have e3 : T s = 62 := (zB8_e (c := 62) ht.2 (by decide)).mp c3; first | (exfalso; omega) | exact nq 3 (Or.inl ⟨rfl, by unfold zSg; omega⟩) (by rw [zteq_i]; omega) | exact nq 4 (Or.inr ⟨rfl, by unfold zSg; omega⟩) (by rw [zteq_i]; omega) | exact yq 300 (by rw [zteq_i]; omega) (Or.inl ⟨by omega, rfl⟩) | exact yq 301 (by rw [zteq_i]; omega) (Or.inr ⟨by omega, rfl⟩)) (fun c0 c1 c2 c3 c4 c5 => by have e2 : ¬ T s = 60 := fun q => c2 ((zB8_e (c := 60) ht.2 (by decide)).mpr q); have e3 : T s = 62 := (zB8_e (c := 62) ht.2 (by decide)).mp c3; have e5 : ¬ v = 61 := fun q => c5 ((zB8_e (c := 61) v1 (by decide)).mpr q); first | (exfalso; omega) | exact nq 3 (Or.inl ⟨rfl, by unfold zSg; omega⟩) (by rw [zteq_i]; omega) | exact nq 4 (Or.inr ⟨rfl, by unfold zSg; omega⟩) (by rw [zteq_i]; omega) | exact yq 300 (by rw [zteq_i]; omega) (Or.inl ⟨by omega, rfl⟩) | exact yq 301 (by rw [zteq_i]; omega) (Or.inr ⟨by omega, rfl⟩)) (fun c0 c1 c2 c3 c4 c5 c6 => by have e2 : ¬ T s = 60 := fun q => c2 ((zB8_e (c := 60) ht.2 (by decide)).mpr q); have e3 : T s = 62 := (zB8_e (c := 62) ht.2 (by decide)).mp c3; have e5 : v = 61 := (zB8_e (c := 61) v1 (by decide)).mp c5; have e6 : ¬ T s = 60 := fun q => c6 ((zB8_e (c := 60) ht.2 (by decide)).mpr q); first | (exfalso; omega) | exact nq 3 (Or.inl ⟨rfl, by unfold zSg; omega⟩) (by rw [zteq_i]; omega) | exact nq 4 (Or.inr ⟨rfl, by unfold zSg; omega⟩) (by rw [zteq_i]; omega) | exact yq 300 (by rw [zteq_i]; omega) (Or.inl ⟨by omega, rfl⟩) | exact yq 301 (by rw [zteq_i]; omega) (Or.inr ⟨by omega, rfl⟩)) (fun c0 c1 c2 c3 c4 c5 c6 => by have e2 : ¬ T s = 60 := fun q => c2 ((zB8_e (c := 60) ht.2 (by decide)).mpr q); have e3 : T s = 62 := (zB8_e (c := 62) ht.2 (by decide)).mp c3; have e5 : v = 61 := (zB8_e (c := 61) v1 (by decide)).mp c5; have e6 : T s = 60 := (zB8_e (c := 60) ht.2 (by decide)).mp c6; first | (exfalso; omega) | exact nq 3 (Or.inl ⟨rfl, by unfold zSg; omega⟩) (by rw [zteq_i]; omega) | exact nq 4 (Or.inr ⟨rfl, by unfold zSg; omega⟩) (by rw [zteq_i]; omega) | exact yq 300 (by rw [zteq_i]; omega) (Or.inl ⟨by omega, rfl⟩) | exact yq 301 (by rw [zteq_i]; omega) (Or.inr ⟨by omega, rfl⟩)) (fun c0 c1 c2 c3 c4 => by have e3 : T s = 60 := (zB8_e (c := 60) ht.2 (by decide)).mp c3; first | (exfalso; omega) | exact nq 3 (Or.inl ⟨rfl, by unfold zSg; omega⟩) (by rw [zteq_i]; omega) | exact nq 4 (Or.inr ⟨rfl, by unfold zSg; omega⟩) (by rw [zteq_i]; omega) | exact yq 300 (by rw [zteq_i]; omega) (Or.inl ⟨by omega, rfl⟩) | exact yq 301 (by rw [zteq_i]; omega) (Or.inr ⟨by omega, rfl⟩)) (fun c0 c1 c2 c3 c4 c5 => by have e3 : T s = 60 := (zB8_e (c := 60) ht.2 (by decide)).mp c3; have e5 : ¬ v = 61 := fun q => c5 ((zB8_e (c := 61) v1 (by decide)).mpr q); first | (exfalso; omega) | exact nq 3 (Or.inl ⟨rfl, by unfold zSg; omega⟩) (by rw [zteq_i]; omega) | exact nq 4 (Or.inr ⟨rfl, by unfold zSg; omega⟩) (by rw [zteq_i]; omega) | exact yq 300 (by rw [zteq_i]; omega) (Or.inl ⟨by omega, rfl⟩) | exact yq 301 (by rw [zteq_i]; omega) (Or.inr ⟨by omega, rfl⟩)) (fun c0 c1 c2 c3 c4 c5 c6 => by have e3 : T s = 60 := (zB8_e (c := 60) ht.2 (by decide)).mp c3; have e5 : v = 61 := (zB8_e (c := 61) v1 (by decide)).mp c5; have e6 : ¬ T s = 60 := fun q => c6 ((zB8_e (c := 60) ht.2 (by decide)).mpr q); first | (exfalso; omega) | exact nq 3 (Or.inl ⟨rfl, by unfold zSg; omega⟩) (by rw [zteq_i]; omega) | exact nq 4 (Or.inr ⟨rfl, by unfold zSg; omega⟩) (by rw [zteq_i]; omega) | exact yq 300 (by rw [zteq_i]; omega) (Or.inl ⟨by omega, rfl⟩) | exact yq 301 (by rw [zteq_i]; omega) (Or.inr ⟨by omega, rfl⟩)) (fun c0 c1 c2 c3 c4 c5 c6 => by have e3 : T s = 60 := (zB8_e (c := 60) ht.2 (by decide)).mp c3; have e5 : v = 61 := (zB8_e (c := 61) v1 (by decide)).mp c5; have e6 : T s = 60 := (zB8_e (c := 60) ht.2 (by decide)).mp c6; first | (exfalso; omega) | exact nq 3 (Or.inl ⟨rfl, by unfold zSg; omega⟩) (by rw [zteq_i]; omega) | exact nq 4 (Or.inr ⟨rfl, by unfold zSg; omega⟩) (by rw [zteq_i]; omega) | exact yq 300 (by rw [zteq_i]; omega) (Or.inl ⟨by omega, rfl⟩) | exact yq 301 (by rw [zteq_i]; omega) (Or.inr ⟨by omega, rfl⟩)) (fun c0 c1 c2 c3 c4 => by have e3 : ¬ T s = 60 := fun q => c3 ((zB8_e (c := 60) ht.2 (by decide)).mpr q); have e4 : ¬ T s = 62 := fun q => c4 ((zB8_e (c := 62) ht.2 (by decide)).mpr q); first | (exfalso; omega) | exact nq 3 (Or.inl ⟨rfl, by unfold zSg; omega⟩) (by rw [zteq_i]; omega) | exact nq 4 (Or.inr ⟨rfl, by unfold zSg; omega⟩) (by rw [zteq_i]; omega) | exact yq 300 (by rw [zteq_i]; omega) (Or.inl ⟨by omega, rfl⟩) | exact yq 301 (by rw [zteq_i]; omega) (Or.inr ⟨by omega, rfl⟩)) (fun c0 c1 c2 c3 c4 c5 => by have e3 : ¬ T s = 60 := fun q => c3 ((zB8_e (c := 60) ht.2 (by decide)).mpr q); have e4 : T s = 62 := (zB8_e (c := 62) ht.2 (by decide)).mp c4; first | (exfalso; omega) | exact nq 3 (Or.inl ⟨rfl, by unfold zSg; omega⟩) (by rw [zteq_i]; omega) | exact nq 4 (Or.inr ⟨rfl, by unfold zSg; omega⟩) (by rw [zteq_i]; omega) | exact yq 300 (by rw [zteq_i]; omega) (Or.inl ⟨by omega, rfl⟩) | exact yq 301 (by rw [zteq_i]; omega) (Or.inr ⟨by omega, rfl⟩)) (fun c0 c1 c2 c3 c4 c5 c6 => by have e3 : ¬ T s = 60 := fun q => c3 ((zB8_e (c := 60) ht.2 (by decide)).mpr q); have e4 : T s = 62 := (zB8_e (c := 62) ht.2 (by decide)).mp c4; have e6 : ¬ v = 61 := fun q => c6 ((zB8_e (c := 61) v1 (by decide)).mpr q); first | (exfalso; omega) | exact nq 3 (Or.inl ⟨rfl, by unfold zSg; omega⟩) (by rw [zteq_i]; omega) | exact nq 4 (Or.inr ⟨rfl, by unfold zSg; omega⟩) (by rw [zteq_i]; omega) | exact yq 300 (by rw [zteq_i]; omega) (Or.inl ⟨by omega, rfl⟩) | exact yq 301 (by rw [zteq_i]; omega) (Or.inr ⟨by omega, rfl⟩)) (fun c0 c1 c2 c3 c4 c5 c6 c7 => by have e3 : ¬ T s = 60 := fun q => c3 ((zB8_e (c := 60) ht.2 (by decide)).mpr q); have e4 : T s = 62 := (zB8_e (c := 62) ht.2 (by decide)).mp c4; have e6 : v = 61 := (zB8_e (c := 61) v1 (by decide)).mp c6; have e7 : ¬ T s = 60 := fun q => c7 ((zB8_e (c := 60) ht.2 (by decide)).mpr q); first | (exfalso; omega) | exact nq 3 (Or.inl ⟨rfl, by unfold zSg; omega⟩) (by rw [zteq_i]; omega) | exact nq 4 (Or.inr ⟨rfl, by unfold zSg; omega⟩) (by rw [zteq_i]; omega) | exact yq 300 (by rw [zteq_i]; omega) (Or.inl ⟨by omega, rfl⟩) | exact yq 301 (by rw [zteq_i]; omega) (Or.inr ⟨by omega, rfl⟩)) (fun c0 c1 c2 c3 c4 c5 c6 c7 => by have e3 : ¬ T s = 60 := fun q => c3 ((zB8_e (c := 60) ht.2 (by decide)).mpr q); have e4 : T s = 62 := (zB8_e (c := 62) ht.2 (by decide)).mp c4; have e6 : v = 61 := (zB8_e (c := 61) v1 (by decide)).mp c6; have e7 : T s = 60 := (zB8_e (c := 60) ht.2 (by decide)).mp c7; first | (exfalso; omega) | exact nq 3 (Or.inl ⟨rfl, by unfold zSg; omega⟩) (by rw [zteq_i]; omega) | exact nq 4 (Or.inr ⟨rfl, by unfold zSg; omega⟩) (by rw [zteq_i]; omega) | exact yq 300 (by rw [zteq_i]; omega) (Or.inl ⟨by omega, rfl⟩) | exact yq 301 (by rw [zteq_i]; omega) (Or.inr ⟨by omega, rfl⟩)) (fun c0 c1 c2 c3 c4 c5 => by have e3 : T s = 47 := (zB8_e (c := 47) ht.2 (by decide)).mp c3; have e4 : T s = 60 := (zB8_e (c := 60) ht.2 (by decide)).mp c4; first | (exfalso; omega) | exact nq 3 (Or.inl ⟨rfl, by unfold zSg; omega⟩) (by rw [zteq_i]; omega) | exact nq 4 (Or.inr ⟨rfl, by unfold zSg; omega⟩) (by rw [zteq_i]; omega) | exact yq 300 (by rw [zteq_i]; omega) (Or.inl ⟨by omega, rfl⟩) | exact yq 301 (by rw [zteq_i]; omega) (Or.inr ⟨by omega, rfl⟩)) (fun c0 c1 c2 c3 c4 c5 c6 => by have e3 : T s = 47 := (zB8_e (c := 47) ht.2 (by decide)).mp c3; have e4 : T s = 60 := (zB8_e (c := 60) ht.2 (by decide)).mp c4; have e6 : ¬ v = 61 := fun q => c6 ((zB8_e (c := 61) v1 (by decide)).mpr q); first | (exfalso; omega) | exact nq 3 (Or.inl ⟨rfl, by unfold zSg; omega⟩) (by rw [zteq_i]; omega) | exact nq 4 (Or.inr ⟨rfl, by unfold zSg; omega⟩) (by rw [zteq_i]; omega) | exact yq 300 (by rw [zteq_i]; omega) (Or.inl ⟨by omega, rfl⟩) | exact yq 301 (by rw [zteq_i]; omega) (Or.inr ⟨by omega, rfl⟩)) (fun c0 c1 c2 c3 c4 c5 c6 c7 => by have e3 : T s = 47 := (zB8_e (c := 47) ht.2 (by decide)).mp c3; have e4 : T s = 60 := (zB8_e (c := 60) ht.2 (by decide)).mp c4; have e6 : v = 61 := (zB8_e (c := 61) v1 (by decide)).mp c6; have e7 : ¬ T s = 60 := fun q => c7 ((zB8_e (c := 60) ht.2 (by decide)).mpr q); first | (exfalso; omega) | exact nq 3 (Or.inl ⟨rfl, by unfold zSg; omega⟩) (by rw [zteq_i]; omega) | exact nq 4 (Or.inr ⟨rfl, by unfold zSg; omega⟩) (by rw [zteq_i]; omega) | exact yq 300 (by rw [zteq_i]; omega) (Or.inl ⟨by omega, rfl⟩) | exact yq 301 (by rw [zteq_i]; omega) (Or.inr ⟨by omega, rfl⟩)) (fun c0 c1 c2 c3 c4 c5 c6 c7 => by have e3 : T s = 47 := (zB8_e (c := 47) ht.2 (by decide)).mp c3; have e4 : T s = 60 := (zB8_e (c := 60) ht.2 (by decide)).mp c4; have e6 : v = 61 := (zB8_e (c := 61) v1 (by decide)).mp c6; have e7 : T s = 60 := (zB8_e (c := 60) ht.2 (by decide)).mp c7; first | (exfalso; omega) | exact nq 3 (Or.inl ⟨rfl, by unfold zSg; omega⟩) (by rw [zteq_i]; omega) | exact nq 4 (Or.inr ⟨rfl, by unfold zSg; omega⟩) (by rw [zteq_i]; omega) | exact yq 300 (by rw [zteq_i]; omega) (Or.inl ⟨by omega, rfl⟩) | exact yq 301 (by rw [zteq_i]; omega) (Or.inr ⟨by omega, rfl⟩)) (fun c0 c1 c2 c3 c4 c5 => by have e3 : T s = 47 := (zB8_e (c := 47) ht.2 (by decide)).mp c3; have e4 : ¬ T s = 60 := fun q => c4 ((zB8_e (c := 60) ht.2 (by decide)).mpr q); have e5 : ¬ T s = 62 := fun q => c5 ((zB8_e (c := 62) ht.2 (by decide)).mpr q); first | (exfalso; omega) | exact nq 3 (Or.inl ⟨rfl, by unfold zSg; omega⟩) (by rw [zteq_i]; omega) | exact nq 4 (Or.inr ⟨rfl, by unfold zSg; omega⟩) (by rw [zteq_i]; omega) | exact yq 300 (by rw [zteq_i]; omega) (Or.inl ⟨by omega, rfl⟩) | exact yq 301 (by rw [zteq_i]; omega) (Or.inr ⟨by omega, rfl⟩)) (fun c0 c1 c2 c3 c4 c5 c6 => by have e3 : T s = 47 := (zB8_e (c := 47) ht.2 (by decide)).mp c3; have e4 : ¬ T s = 60 := fun q => c4 ((zB8_e (c := 60) ht.2 (by decide)).mpr q); have e5 : T s = 62 := (zB8_e (c := 62) ht.2 (by decide)).mp c5; first | (exfalso; omega) | exact nq 3 (Or.inl ⟨rfl, by unfold zSg; omega⟩) (by rw [zteq_i]; omega) | exact nq 4 (Or.inr ⟨rfl, by unfold zSg; omega⟩) (by rw [zteq_i]; omega) | exact yq 300 (by rw [zteq_i]; omega) (Or.inl ⟨by omega, rfl⟩) | exact yq 301 (by rw [zteq_i]; omega) (Or.inr ⟨by omega, rfl⟩)) (fun c0 c1 c2 c3 c4 c5 c6 c7 => by have e3 : T s = 47 := (zB8_e (c := 47) ht.2 (by decide)).mp c3; have e4 : ¬ T s = 60 := fun q => c4 ((zB8_e (c := 60) ht.2 (by decide)).mpr q); have e5 : T s = 62 := (zB8_e (c := 62) ht.2 (by decide)).mp c5; have e7 : ¬ v = 61 := fun q => c7 ((zB8_e (c := 61) v1 (by decide)).mpr q); first | (exfalso; omega) | exact nq 3 (Or.inl ⟨rfl, by unfold zSg; omega⟩) (by rw [zteq_i]; omega) | exact nq 4 (Or.inr ⟨rfl, by unfold zSg; omega⟩) (by rw [zteq_i]; omega) | exact yq 300 (by rw [zteq_i]; omega) (Or.inl ⟨by omega, rfl⟩) | exact yq 301 (by rw [zteq_i]; omega) (Or.inr ⟨by omega, rfl⟩)) (fun c0 c1 c2 c3 c4 c5 c6 c7 c8 => by have e3 : T s = 47 := (zB8_e (c := 47) ht.2 (by decide)).mp c3; have e4 : ¬ T s = 60 := fun q => c4 ((zB8_e (c := 60) ht.2 (by decide)).mpr q); have e5 : T s = 62 := (zB8_e (c := 62) ht.2 (by decide)).mp c5; have e7 : v = 61 := (zB8_e (c := 61) v1 (by decide)).mp c7; have e8 : ¬ T s = 60 := fun q => c8 ((zB8_e (c := 60) ht.2 (by decide)).mpr q); first | (exfalso; omega) | exact nq 3 (Or.inl ⟨rfl, by unfold zSg; omega⟩) (by rw [zteq_i]; omega) | exact nq 4 (Or.inr ⟨rfl, by unfold zSg; omega⟩) (by rw [zteq_i]; omega) | exact yq 300 (by rw [zteq_i]; omega) (Or.inl ⟨by omega, rfl⟩) | exact yq 301 (by rw [zteq_i]; omega) (Or.inr ⟨by omega, rfl⟩)) (fun c0 c1 c2 c3 c4 c5 c6 c7 c8 => by have e3 : T s = 47 := (zB8_e (c := 47) ht.2 (by decide)).mp c3; have e4 : ¬ T s = 60 := fun q => c4 ((zB8_e (c := 60) ht.2 (by decide)).mpr q); have e5 : T s = 62 := (zB8_e (c := 62) ht.2 (by decide)).mp c5; have e7 : v = 61 := (zB8_e (c := 61) v1 (by decide)).mp c7; have e8 : T s = 60 := (zB8_e (c := 60) ht.2 (by decide)).mp c8; first | (exfalso; omega) | exact nq 3 (Or.inl ⟨rfl, by unfold zSg; omega⟩) (by rw [zteq_i]; omega) | exact nq 4 (Or.inr ⟨rfl, by unfold zSg; omega⟩) (by rw [zteq_i]; omega) | exact yq 300 (by rw [zteq_i]; omega) (Or.inl ⟨by omega, rfl⟩) | exact yq 301 (by rw [zteq_i]; omega) (Or.inr ⟨by omega, rfl⟩)) (fun c0 c1 c2 c3 c4 c5 c6 => by have e3 : ¬ T s = 47 := fun q => c3 ((zB8_e (c := 47) ht.2 (by decide)).mpr q); have e4 : ¬ T s = 35 := fun q => c4 ((zB8_e (c := 35) ht.2 (by decide)).mpr q); have e5 : T s = 60 := (zB8_e (c := 60) ht.2 (by decide)).mp c5; first | (exfalso; omega) | exact nq 3 (Or.inl ⟨rfl, by unfold zSg; omega⟩) (by rw [zteq_i]; omega) | exact nq 4 (Or.inr ⟨rfl, by unfold zSg; omega⟩) (by rw [zteq_i]; omega) | exact yq 300 (by rw [zteq_i]; omega) (Or.inl ⟨by omega, rfl⟩) | exact yq 301 (by rw [zteq_i]; omega) (Or.inr ⟨by omega, rfl⟩)) (fun c0 c1 c2 c3 c4 c5 c6 c7 => by have e3 : ¬ T s = 47 := fun q => c3 ((zB8_e (c := 47) ht.2 (by decide)).mpr q); have e4 : ¬ T s = 35 := fun q => c4 ((zB8_e (c := 35) ht.2 (by decide)).mpr q); have e5 : T s = 60 := (zB8_e (c := 60) ht.2 (by decide)).mp c5; have e7 : ¬ v = 61 := fun q => c7 ((zB8_e (c := 61) v1 (by decide)).mpr q); first | (exfalso; omega) | exact nq 3 (Or.inl ⟨rfl, by unfold zSg; omega⟩) (by rw [zteq_i]; omega) | exact nq 4 (Or.inr ⟨rfl, by unfold zSg; omega⟩) (by rw [zteq_i]; omega) | exact yq 300 (by rw [zteq_i]; omega) (Or.inl ⟨by omega, rfl⟩) | exact yq 301 (by rw [zteq_i]; omega) (Or.inr ⟨by omega, rfl⟩)) (fun c0 c1 c2 c3 c4 c5 c6 c7 c8 => by have e3 : ¬ T s = 47 := fun q => c3 ((zB8_e (c := 47) ht.2 (by decide)).mpr q); have e4 : ¬ T s = 35 := fun q => c4 ((zB8_e (c := 35) ht.2 (by decide)).mpr q); have e5 : T s = 60 := (zB8_e (c := 60) ht.2 (by decide)).mp c5; have e7 : v = 61 := (zB8_e (c := 61) v1 (by decide)).mp c7; have e8 : ¬ T s = 60 := fun q => c8 ((zB8_e (c := 60) ht.2 (by decide)).mpr q); first | (exfalso; omega) | exact nq 3 (Or.inl ⟨rfl, by unfold zSg; omega⟩) (by rw [zteq_i]; omega) | exact nq 4 (Or.inr ⟨rfl, by unfold zSg; omega⟩) (by rw [zteq_i]; omega) | exact yq 300 (by rw [zteq_i]; omega) (Or.inl ⟨by omega, rfl⟩) | exact yq 301 (by rw [zteq_i]; omega) (Or.inr ⟨by omega, rfl⟩)) (fun c0 c1 c2 c3 c4 c5 c6 c7 c8 => by have e3 : ¬ T s = 47 := fun q => c3 ((zB8_e (c := 47) ht.2 (by decide)).mpr q); have e4 : ¬ T s = 35 := fun q => c4 ((zB8_e (c := 35) ht.2 (by decide)).mpr q); have e5 : T s = 60 := (zB8_e (c := 60) ht.2 (by decide)).mp c5; have e7 : v = 61 := (zB8_e (c := 61) v1 (by decide)).mp c7; have e8 : T s = 60 := (zB8_e (c := 60) ht.2 (by decide)).mp c8; first | (exfalso; omega) | exact nq 3 (Or.inl ⟨rfl, by unfold zSg; omega⟩) (by rw [zteq_i]; omega) | exact nq 4 (Or.inr ⟨rfl, by unfold zSg; omega⟩) (by rw [zteq_i]; omega) | exact yq 300 (by rw [zteq_i]; omega) (Or.inl ⟨by omega, rfl⟩) | exact yq 301 (by rw [zteq_i]; omega) (Or.inr ⟨by omega, rfl⟩)) (fun c0 c1 c2 c3 c4 c5 c6 => by have e3 : ¬ T s = 47 := fun q => c3 ((zB8_e (c := 47) ht.2 (by decide)).mpr q); have e4 : ¬ T s = 35 := fun q => c4 ((zB8_e (c := 35) ht.2 (by decide)).mpr q); have e5 : ¬ T s = 60 := fun q => c5 ((zB8_e (c := 60) ht.2 (by decide)).mpr q); have e6 : ¬ T s = 62 := fun q => c6 ((zB8_e (c := 62) ht.2 (by decide)).mpr q); first | (exfalso; omega) | exact nq 3 (Or.inl ⟨rfl, by unfold zSg; omega⟩) (by rw [zteq_i]; omega) | exact nq 4 (Or.inr ⟨rfl, by unfold zSg; omega⟩) (by rw [zteq_i]; omega) | exact yq 300 (by rw [zteq_i]; omega) (Or.inl ⟨by omega, rfl⟩) | exact yq 301 (by rw [zteq_i]; omega) (Or.inr ⟨by omega, rfl⟩)) (fun c0 c1 c2 c3 c4 c5 c6 c7 => by have e3 : ¬ T s = 47 := fun q => c3 ((zB8_e (c := 47) ht.2 (by decide)).mpr q); have e4 : ¬ T s = 35 := fun q => c4 ((zB8_e (c := 35) ht.2 (by decide)).mpr q); have e5 : ¬ T s = 60 := fun q => c5 ((zB8_e (c := 60) ht.2 (by decide)).mpr q); have e6 : T s = 62 := (zB8_e (c := 62) ht.2 (by decide)).mp c6; first | (exfalso; omega) | exact nq 3 (Or.inl ⟨rfl, by unfold zSg; omega⟩) (by rw [zteq_i]; omega) | exact nq 4 (Or.inr ⟨rfl, by unfold zSg; omega⟩) (by rw [zteq_i]; omega) | exact yq 300 (by rw [zteq_i]; omega) (Or.inl ⟨by omega, rfl⟩) | exact yq 301 (by rw [zteq_i]; omega) (Or.inr ⟨by omega, rfl⟩)) (fun c0 c1 c2 c3 c4 c5 c6 c7 c8 => by have e3 : ¬ T s = 47 := fun q => c3 ((zB8_e (c := 47) ht.2 (by decide)).mpr q); have e4 : ¬ T s = 35 := fun q => c4 ((zB8_e (c := 35) ht.2 (by decide)).mpr q); have e5 : ¬ T s = 60 := fun q => c5 ((zB8_e (c := 60) ht.2 (by decide)).mpr q); have e6 : T s = 62 := (zB8_e (c := 62) ht.2 (by decide)).mp c6; have e8 : ¬ v = 61 := fun q => c8 ((zB8_e (c := 61) v1 (by decide)).mpr q); first | (exfalso; omega) | exact nq 3 (Or.inl ⟨rfl, by unfold zSg; omega⟩) (by rw [zteq_i]; omega) | exact nq 4 (Or.inr ⟨rfl, by unfold zSg; omega⟩) (by rw [zteq_i]; omega) | exact yq 300 (by rw [zteq_i]; omega) (Or.inl ⟨by omega, rfl⟩) | exact yq 301 (by rw [zteq_i]; omega) (Or.inr ⟨by omega, rfl⟩)) (fun c0 c1 c2 c3 c4 c5 c6 c7 c8 c9 => by have e3 : ¬ T s = 47 := fun q => c3 ((zB8_e (c := 47) ht.2 (by decide)).mpr q); have e4 : ¬ T s = 35 := fun q => c4 ((zB8_e (c := 35) ht.2 (by decide)).mpr q); have e5 : ¬ T s = 60 := fun q => c5 ((zB8_e (c := 60) ht.2 (by decide)).mpr q); have e6 : T s = 62 := (zB8_e (c := 62) ht.2 (by decide)).mp c6; have e8 : v = 61 := (zB8_e (c := 61) v1 (by decide)).mp c8; have e9 : ¬ T s = 60 := fun q => c9 ((zB8_e (c := 60) ht.2 (by decide)).mpr q); first | (exfalso; omega) | exact nq 3 (Or.inl ⟨rfl, by unfold zSg; omega⟩) (by rw [zteq_i]; omega) | exact nq 4 (Or.inr ⟨rfl, by unfold zSg; omega⟩) (by rw [zteq_i]; omega) | exact yq 300 (by rw [zteq_i]; omega) (Or.inl ⟨by omega, rfl⟩) | exact yq 301 (by rw [zteq_i]; omega) (Or.inr ⟨by omega, rfl⟩)) (fun c0 c1 c2 c3 c4 c5 c6 c7 c8 c9 => by have e3 : ¬ T s = 47 := fun q => c3 ((zB8_e (c := 47) ht.2 (by decide)).mpr q); have e4 : ¬ T s = 35 := fun q => c4 ((zB8_e (c := 35) ht.2 (by decide)).mpr q); have e5 : ¬ T s = 60 := fun q => c5 ((zB8_e (c := 60) ht.2 (by decide)).mpr q); have e6 : T s = 62 := (zB8_e (c := 62) ht.2 (by decide)).mp c6; have e8 : v = 61 := (zB8_e (c := 61) v1 (by decide)).mp c8; have e9 : T s = 60 := (zB8_e (c := 60) ht.2 (by decide)).mp c9; first | (exfalso; omega) | exact nq 3 (Or.inl ⟨rfl, by unfold zSg; omega⟩) (by rw [zteq_i]; omega) | exact nq 4 (Or.inr ⟨rfl, by unfold zSg; omega⟩) (by rw [zteq_i]; omega) | exact yq 300 (by rw [zteq_i]; omega) (Or.inl ⟨by omega, rfl⟩) | exact yq 301 (by rw [zteq_i]; omega) (Or.inr ⟨by omega, rfl⟩)) (fun c0 c1 c2 c3 c4 c5 c6 => by have e3 : ¬ T s = 47 := fun q => c3 ((zB8_e (c := 47) ht.2 (by decide)).mpr q); have e4 : T s = 35 := (zB8_e (c := 35) ht.2 (by decide)).mp c4; have e5 : T s = 60 := (zB8_e (c := 60) ht.2 (by decide)).mp c5; first | (exfalso; omega) | exact nq 3 (Or.inl ⟨rfl, by unfold zSg; omega⟩) (by rw [zteq_i]; omega) | exact nq 4 (Or.inr ⟨rfl, by unfold zSg; omega⟩) (by rw [zteq_i]; omega) | exact yq 300 (by rw [zteq_i]; omega) (Or.inl ⟨by omega, rfl⟩) | exact yq 301 (by rw [zteq_i]; omega) (Or.inr ⟨by omega, rfl⟩)) (fun c0 c1 c2 c3 c4 c5 c6 c7 => by have e3 : ¬ T s = 47 := fun q => c3 ((zB8_e (c := 47) ht.2 (by decide)).mpr q); have e4 : T s = 35 := (zB8_e (c := 35) ht.2 (by decide)).mp c4; have e5 : T s = 60 := (zB8_e (c := 60) ht.2 (by decide)).mp c5; have e7 : ¬ v = 61 := fun q => c7 ((zB8_e (c := 61) v1 (by decide)).mpr q); first | (exfalso; omega) | exact nq 3 (Or.inl ⟨rfl, by unfold zSg; omega⟩) (by rw [zteq_i]; omega) | exact nq 4 (Or.inr ⟨rfl, by unfold zSg; omega⟩) (by rw [zteq_i]; omega) | exact yq 300 (by rw [zteq_i]; omega) (Or.inl ⟨by omega, rfl⟩) | exact yq 301 (by rw [zteq_i]; omega) (Or.inr ⟨by omega, rfl⟩)) (fun c0 c1 c2 c3 c4 c5 c6 c7 c8 => by have e3 : ¬ T s = 47 := fun q => c3 ((zB8_e (c := 47) ht.2 (by decide)).mpr q); have e4 : T s = 35 := (zB8_e (c := 35) ht.2 (by decide)).mp c4; have e5 : T s = 60 := (zB8_e (c := 60) ht.2 (by decide)).mp c5; have e7 : v = 61 := (zB8_e (c := 61) v1 (by decide)).mp c7; have e8 : ¬ T s = 60 := fun q => c8 ((zB8_e (c := 60) ht.2 (by decide)).mpr q); first | (exfalso; omega) | exact nq 3 (Or.inl ⟨rfl, by unfold zSg; omega⟩) (by rw [zteq_i]; omega) | exact nq 4 (Or.inr ⟨rfl, by unfold zSg; omega⟩) (by rw [zteq_i]; omega) | exact yq 300 (by rw [zteq_i]; omega) (Or.inl ⟨by omega, rfl⟩) | exact yq 301 (by rw [zteq_i]; omega) (Or.inr ⟨by omega, rfl⟩)) (fun c0 c1 c2 c3 c4 c5 c6 c7 c8 => by have e3 : ¬ T s = 47 := fun q => c3 ((zB8_e (c := 47) ht.2 (by decide)).mpr q); have e4 : T s = 35 := (zB8_e (c := 35) ht.2 (by decide)).mp c4; have e5 : T s = 60 := (zB8_e (c := 60) ht.2 (by decide)).mp c5; have e7 : v = 61 := (zB8_e (c := 61) v1 (by decide)).mp c7; have e8 : T s = 60 := (zB8_e (c := 60) ht.2 (by decide)).mp c8; first | (exfalso; omega) | exact nq 3 (Or.inl ⟨rfl, by unfold zSg; omega⟩) (by rw [zteq_i]; omega) | exact nq 4 (Or.inr ⟨rfl, by unfold zSg; omega⟩) (by rw [zteq_i]; omega) | exact yq 300 (by rw [zteq_i]; omega) (Or.inl ⟨by omega, rfl⟩) | exact yq 301 (by rw [zteq_i]; omega) (Or.inr ⟨by omega, rfl⟩)) (fun c0 c1 c2 c3 c4 c5 c6 => by have e3 : ¬ T s = 47 := fun q => c3 ((zB8_e (c := 47) ht.2 (by decide)).mpr q); have e4 : T s = 35 := (zB8_e (c := 35) ht.2 (by decide)).mp c4; have e5 : ¬ T s = 60 := fun q => c5 ((zB8_e (c := 60) ht.2 (by decide)).mpr q); have e6 : ¬ T s = 62 := fun q => c6 ((zB8_e (c := 62) ht.2 (by decide)).mpr q); first | (exfalso; omega) | exact nq 3 (Or.inl ⟨rfl, by unfold zSg; omega⟩) (by rw [zteq_i]; omega) | exact nq 4 (Or.inr ⟨rfl, by unfold zSg; omega⟩) (by rw [zteq_i]; omega) | exact yq 300 (by rw [zteq_i]; omega) (Or.inl ⟨by omega, rfl⟩) | exact yq 301 (by rw [zteq_i]; omega) (Or.inr ⟨by omega, rfl⟩)) (fun c0 c1 c2 c3 c4 c5 c6 c7 => by have e3 : ¬ T s = 47 := fun q => c3 ((zB8_e (c := 47) ht.2 (by decide)).mpr q); have e4 : T s = 35 := (zB8_e (c := 35) ht.2 (by decide)).mp c4; have e5 : ¬ T s = 60 := fun q => c5 ((zB8_e (c := 60) ht.2 (by decide)).mpr q); have e6 : T s = 62 := (zB8_e (c := 62) ht.2 (by decide)).mp c6; first | (exfalso; omega) | exact nq 3 (Or.inl ⟨rfl, by unfold zSg; omega⟩) (by rw [zteq_i]; omega) | exact nq 4 (Or.inr ⟨rfl, by unfold zSg; omega⟩) (by rw [zteq_i]; omega) | exact yq 300 (by rw [zteq_i]; omega) (Or.inl ⟨by omega, rfl⟩) | exact yq 301 (by rw [zteq_i]; omega) (Or.inr ⟨by omega, rfl⟩)) (fun c0 c1 c2 c3 c4 c5 c6 c7 c8 => by have e3 : ¬ T s = 47 := fun q => c3 ((zB8_e (c := 47) ht.2 (by decide)).mpr q); have e4 : T s = 35 := (zB8_e (c := 35) ht.2 (by decide)).mp c4; have e5 : ¬ T s = 60 := fun q => c5 ((zB8_e (c := 60) ht.2 (by decide)).mpr q); have e6 : T s = 62 := (zB8_e (c := 62) ht.2 (by decide)).mp c6; have e8 : ¬ v = 61 := fun q => c8 ((zB8_e (c := 61) v1 (by decide)).mpr q); first | (exfalso; omega) | exact nq 3 (Or.inl ⟨rfl, by unfold zSg; omega⟩) (by rw [zteq_i]; omega) | exact nq 4 (Or.inr ⟨rfl, by unfold zSg; omega⟩) (by rw [zteq_i]; omega) | exact yq 300 (by rw [zteq_i]; omega) (Or.inl ⟨by omega, rfl⟩) | exact yq 301 (by rw [zteq_i]; omega) (Or.inr ⟨by omega, rfl⟩)) (fun c0 c1 c2 c3 c4 c5 c6 c7 c8 c9 => by have e3 : ¬ T s = 47 := fun q => c3 ((zB8_e (c := 47) ht.2 (by decide)).mpr q); have e4 : T s = 35 := (zB8_e (c := 35) ht.2 (by decide)).mp c4; have e5 : ¬ T s = 60 := fun q => c5 ((zB8_e (c := 60) ht.2 (by decide)).mpr q); have e6 : T s = 62 := (zB8_e (c := 62) ht.2 (by decide)).mp c6; have e8 : v = 61 := (zB8_e (c := 61) v1 (by decide)).mp c8; have e9 : ¬ T s = 60 := fun q => c9 ((zB8_e (c := 60) ht.2 (by decide)).mpr q); first | (exfalso; omega) | exact nq 3 (Or.inl ⟨rfl, by unfold zSg; omega⟩) (by rw [zteq_i]; omega) | exact nq 4 (Or.inr ⟨rfl, by unfold zSg; omega⟩) (by rw [zteq_i]; omega) | exact yq 300 (by rw [zteq_i]; omega) (Or.inl ⟨by omega, rfl⟩) | exact yq 301 (by rw [zteq_i]; omega) (Or.inr ⟨by omega, rfl⟩)) (fun c0 c1 c2 c3 c4 c5 c6 c7 c8 c9 => by have e3 : ¬ T s = 47 := fun q => c3 ((zB8_e (c := 47) ht.2 (by decide)).mpr q); have e4 : T s = 35 := (zB8_e (c := 35) ht.2 (by decide)).mp c4; have e5 : ¬ T s = 60 := fun q => c5 ((zB8_e (c := 60) ht.2 (by decide)).mpr q); have e6 : T s = 62 := (zB8_e (c := 62) ht.2 (by decide)).mp c6; have e8 : v = 61 := (zB8_e (c := 61) v1 (by decide)).mp c8; have e9 : T s = 60 := (zB8_e (c := 60) ht.2 (by decide)).mp c9; first | (exfalso; omega) | exact nq 3 (Or.inl ⟨rfl, by unfold zSg; omega⟩) (by rw [zteq_i]; omega) | exact nq 4 (Or.inr ⟨rfl, by unfold zSg; omega⟩) (by rw [zteq_i]; omega) | exact yq 300 (by rw [zteq_i]; omega) (Or.inl ⟨by omega, rfl⟩) | exact yq 301 (by rw [zteq_i]; omega) (Or.inr ⟨by omega, rfl⟩)) (fun z3 => absurd (by unfold zcD; exact decide_eq_true z3) hd)
    · simp only [if_pos z] at kk
      have al := ztru_all (T := T) (P := zcL) (len := len) (len - s) s (by omega)
      have hT2 : ∀ i, i < ztru T zcL len s - s → 65 ≤ T (s + i) ∧ T (s + i) ≤ 127 := fun j hj => zcL_b (al (s + j) (by omega) (by omega))
      have lw := lp_Mword (d := d) (F := F) (X := X) (b := b) (B := B) (l1 := zB8 (T s)) hK (ztM_f u1s hT) hi (fun M3 v1 v2 v3 v4 => ?_) (len - s) s _ 0 (by omega) (Nat.le_refl _) rfl (fun j h1 h2 => absurd h2 (by omega)) (ztMf_rfl _) rfl ua (fun _ => by rw [Nat.sub_self]; rfl)
      · rw [Nat.sub_self] at lw
        exact lw
      · have m3 := ztMf_tr u1s v1
        rcases v4 with ⟨y1, y2, y3⟩ | ⟨y1, y2⟩
        · have ev := ztwf_v hT2 rfl
          rcases zWk (v := zpk (fun i => T (s + i)) (ztru T zcL len s - s)) with ⟨r1, r2⟩ | ⟨r1, r2, r3⟩
          · rw [← ev] at r1
            rw [r2] at y2
            rw [y2, if_neg (by decide)] at y3
            refine kk M3 m3 ⟨v2.trans us, v3, fun q => by omega, fun _ => Or.inl y3, fun q => by omega, fun q1 q2 => by omega, fun q => by omega⟩
          · rw [← ev] at r1 r2 r3
            rw [r3] at y2
            rw [y2, if_pos (nI_pos' (by unfold ztW; split; omega; split <;> omega))] at y3
            refine kk M3 m3 ⟨v2.trans us, v3, fun q => by omega, fun q => by omega, fun q => by omega, fun _ _ => ⟨y3, y2⟩, fun q => by omega⟩
        · have e1' : ztwf T s (ztru T zcL len s - s) 14 = 1 := by
            have : ∀ k, k ≤ 14 → ztwf T s (ztru T zcL len s - s) k = 1 := by
              intro k
              induction k with
              | zero => intro _; rfl
              | succ k ih =>
                intro hk
                unfold ztwf
                rw [if_neg (fun q => by have := q.1; have := ztw_len (k := k) (by omega); omega)]
                exact ih (by omega)
            exact this 14 (Nat.le_refl _)
          refine kk M3 m3 ⟨v2.trans us, v3, fun q => by omega, fun _ => Or.inl y2, fun q => by omega, fun q1 q2 => by omega, fun q => by omega⟩
theorem lp_Mblank {M0 : Nat → Nat → Int32} (hK : zKok K) (hT : ztM M0 T len) (kk : ∀ M, ztMf M0 M → zRt M T len p → F none (X, b, zLay, K, B, M)) : ∀ (q i : Nat) (M : Nat → Nat → Int32), i + q = len → ztru T zcB len i = ztst T len p → ztMf M0 M → M 71 10 = nI i → zEx (zCall (d + 5)) 10 false 0 zc_Model_next F 0 [.ref 71, .null, .null, .null, .null] [] (X, b, zLay, K, B, M) := by
  intro q
  induction q with
  | zero =>
    intro i M hi e1 u1 u2
    have t := ztM_f u1 hT
    exact zb_Model_nextE_0 (tv := 0) (i := i) hK t.1 t.2.1 u2 (by omega) (fun z => absurd z (by omega)) (by omega) (fun _ => lp_Mnext hK hT kk i M (by omega) (by rw [← e1]; exact ztru_e (by omega)) u1 u2) (fun z => absurd z (by omega)) (fun z => absurd z (by omega)) (fun z => absurd z (by omega))
  | succ q ih =>
    intro i M hi e1 u1 u2
    have t := ztM_f u1 hT
    have ht := t.2.2 i (by omega)
    have go : zcB (T i) = true → zEx (zCall (d + 5)) 10 false 0 zc_Model_next F 0 [.ref 71, .null, .null, .null, .null] [] (X, b, zLay, K, B, (zu M 71 10 (nI (i + 1)))) := fun z => ih (i + 1) _ (by omega) (by rw [← ztru_s (by omega) z]; exact e1) (ztMf_u u1 (by omega)) (by rw [zu_at, if_pos rfl])
    refine zb_Model_nextE_0 (tv := T i) (i := i) hK t.1 t.2.1 u2 (by omega) (fun _ => ht.1) ht.2 (fun z => absurd z (by omega)) (fun _ z => ?_) (fun _ z z2 => ?_) (fun _ _ z => ?_)
    · exact go (by unfold zcB; exact decide_eq_true (Or.inl ((zB8_e (c := 32) ht.2 (by decide)).mp z)))
    · have ne : ¬ (i < len ∧ zcB (T i) = true) := fun y => by
        have y := of_decide_eq_true (show decide (T i = 32 ∨ T i = 10) = true from y.2)
        rcases y with y | y
        · exact z ((zB8_e (c := 32) ht.2 (by decide)).mpr y)
        · exact z2 ((zB8_e (c := 10) ht.2 (by decide)).mpr y)
      exact lp_Mnext hK hT kk i M (by omega) (by rw [← e1]; exact ztru_e ne) u1 u2
    · exact go (by unfold zcB; exact decide_eq_true (Or.inr ((zB8_e (c := 10) ht.2 (by decide)).mp z)))
theorem sp_next (hK : zKok K) (hT : ztM M T len) (hn : M 71 10 = nI p) (hp : p ≤ len) (kk : ∀ M', ztMf M M' → zRt M' T len p → F none (X, b, zLay, K, B, M')) : zCall (d + 6) zm_Model_next [.ref 71] (X, b, zLay, K, B, M) F :=
  zc_of [.ref 71, .null, .null, .null, .null] (rfl : zinfL[zm_Model_next]? = _) rfl rfl (lp_Mblank hK hT kk (len - p) p M (by omega) rfl (ztMf_rfl M) hn)
end LXM
