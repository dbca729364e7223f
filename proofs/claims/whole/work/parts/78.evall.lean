/-! ===== what clauses say: the loops of both ===== -/
theorem zL0 : (0 : Int64).toInt = 0 := rfl
theorem zL1 : (1 : Int64).toInt = 1 := rfl
theorem zLeq {x y : Int64} : x = y ↔ x.toInt = y.toInt := Int64.toInt_inj.symm
theorem zhd_up {M : Nat → Nat → Int32} {P : Nat → Int} {y m : Nat} {v : Int32} {nv : Int} (h : ∀ j, j < m → j ≠ y → (M 40 j).toInt = P j) (hv : v.toInt = nv) : ∀ j, j < m → ((zu M 40 y v) 40 j).toInt = zup P y nv j := by
  intro j hj
  rw [zu_at]
  unfold zup
  by_cases e : j = y
  · rw [if_pos e, if_pos e]; exact hv
  · rw [if_neg e, if_neg e]; exact h j hj e
theorem zpl_up {B : Nat → Nat → Int64} {P : Nat → Int} {y m : Nat} {v : Int64} {nv : Int} (h : ∀ j, j < m → j ≠ y → (B 86 j).toInt = P j) (hv : v.toInt = nv) : ∀ j, j < m → ((zu B 86 y v) 86 j).toInt = zup P y nv j := by
  intro j hj
  rw [zu_at]
  unfold zup
  by_cases e : j = y
  · rw [if_pos e, if_pos e]; exact hv
  · rw [if_neg e, if_neg e]; exact h j hj e
section EV
variable {d : Nat} {F : Option Value → zS → Prop} {X : zX} {b : Nat × Nat} {K : Nat → Nat → Option Nat} {B : Nat → Nat → Int64} {M0 : Nat → Nat → Int32} {nm : Nat → Int} {mask : Nat} {bb : Bool}
theorem lp_val {tx to st w te : Nat} (hK : zKok K) (hytx : zget zLay tx = some (.inl 8)) (hto : K tx 3 = some to) (hyto : zget zLay to = some (.inr (0, 4))) (hst : K tx 0 = some st) (hyst : zget zLay st = some (.inr (0, 300))) (hw : w < 4) (hte : M0 to w = nI te) (hte3 : te ≤ 300) (h40 : to ≠ 40 ∧ st ≠ 40) (hn : ∀ j, j < 7 → mask.testBit j = true → (M0 39 j).toInt = nm j ∧ -1000000 ≤ nm j ∧ nm j ≤ 1000000) : ∀ (rest : List (Nat × Nat)) (i : Nat) (s : List Bool) (P : Nat → Int) (M : Nat → Nat → Int32) (l5 : Value), l5.category = 1 → i + rest.length = te → (∀ j, j < rest.length → M0 st (i + j) = zcc (rest.getD j (0, 0))) → zty mask rest s = some [bb] → zgd s P → s.length ≤ 32 → (∀ j, j < s.length → (M 40 j).toInt = P j) → (∀ c, c ≠ 40 → M c = M0 c) → (∀ (v : Int32) M', (∀ c, c ≠ 40 → M' c = M0 c) → v.toInt = (zevs nm rest (s.length, P)).2 0 → F (some (.int v)) (X, b, zLay, K, B, M')) → zEx (zCall (d + 3)) 3 false 1 zc_Judge_valueOf F 9 [.ref 38, .ref tx, .int (nI (3 + w)), .int (nI s.length), .int (nI i), l5] [] (X, b, zLay, K, B, M) := by
  intro rest
  induction rest with
  | nil =>
    intro i s P M l5 c5 hi hc hty hg hl hP u1 kk
    unfold zty at hty
    cases hty
    have hi : i = te := by simpa using hi
    subst hi
    refine zb_Judge_valueOfE_9 hK i l5 c5 hytx hto hyto hw (by rw [u1 to h40.1]; exact hte) hte3 (Nat.le_refl _) (fun _ => kk _ M u1 (hP 0 (by simp))) (fun q => absurd q (by omega))
  | cons t rest ih =>
    intro i s P M l5 c5 hi hc hty hg hl hP u1 kk
    have hi : i + (rest.length + 1) = te := hi
    unfold zty at hty
    cases hz : zty1 mask t s with
    | none => rw [hz] at hty; cases hty
    | some s' =>
    rw [hz] at hty
    have hty : zty mask rest s' = some [bb] := hty
    obtain ⟨o1, o2, o3⟩ := zst_ok (nm := nm) (fun j h1 h2 => (hn j h1 h2).2) hz hg hl
    have sv : M st i = zcc t := by
      rw [u1 st h40.2]
      exact hc 0 (by simp)
    have hte' : M to w = nI te := by rw [u1 to h40.1]; exact hte
    have next : ∀ (M1 : Nat → Nat → Int32) (l5 : Value), l5.category = 1 → (∀ c, c ≠ 40 → M1 c = M0 c) → (∀ j, j < s'.length → (M1 40 j).toInt = (zst nm t (s.length, P)).2 j) → zEx (zCall (d + 3)) 3 false 1 zc_Judge_valueOf F 9 [.ref 38, .ref tx, .int (nI (3 + w)), .int (nI s'.length), .int (nI (i + 1)), l5] [] (X, b, zLay, K, B, M1) := by
      intro M1 l5 c5 v1 v2
      refine ih (i + 1) s' (zst nm t (s.length, P)).2 M1 l5 c5 (by omega) (fun j hj => ?_) hty o2 o3 v2 v1 (fun v M' w1 w2 => kk v M' w1 ?_)
      · have := hc (j + 1) (by simp; omega)
        rw [show i + 1 + j = i + (j + 1) by omega]
        exact this
      · rw [w2]
        show _ = (zevs nm rest (zst nm t (s.length, P))).2 0
        rw [← o1]
    have fr : ∀ (y : Nat) (v : Int32) c, c ≠ 40 → (zu M 40 y v) c = M0 c := fun y v c hc => by rw [zu_oc hc]; exact u1 c hc
    obtain ⟨k, nu⟩ := t
    rcases zty1_c hz with ⟨h1, h2, h3, rfl⟩ | ⟨h1, h2, h3, h4, rfl⟩ | ⟨h1, h2, r, rfl, rfl⟩ | ⟨h1, h2, r, rfl, rfl⟩ | ⟨h1, h2, r, rfl, rfl⟩ | ⟨h1, h2, r, rfl, rfl⟩ | ⟨h1, h2, r, rfl, rfl⟩
    · have h1 : k = 2 := h1
      have h2 : nu ≤ 9999 := h2
      subst h1
      exact zb_Judge_valueOfK2_9 (nu := nu) (yh := s.length) hK i l5 c5 hytx hto hyto hst hyst hw hte' hte3 (by omega) (by omega) sv (zcc_k (t := (2, nu)) (show 2 < 256 by decide) h2) (zcc_n (t := (2, nu)) (show 2 < 256 by decide) h2) h2 (fun q _ => absurd q (by omega)) (fun q _ => absurd q (by omega)) (fun _ q => absurd q (by omega)) (fun _ _ => next _ _ rfl (fr _ _) (zhd_up (fun j hj hne => hP j (by have hj : j < s.length + 1 := hj; omega)) (nI_toInt (by omega))))
    · have h1 : 7 ≤ k ∧ k ≤ 13 := h1
      have h3 : nu = 0 := h3
      subst h3
      have h2 : mask.testBit (k - 7) = true := h2
      have z : k = 7 ∨ k = 8 ∨ k = 9 ∨ k = 10 ∨ k = 11 ∨ k = 12 ∨ k = 13 := by omega
      rcases z with rfl | rfl | rfl | rfl | rfl | rfl | rfl
      · have e := (hn 0 (by decide) h2).1
        rw [← u1 39 (by decide)] at e
        exact zb_Judge_valueOfK7_9 (yh := s.length) hK i l5 c5 hytx hto hyto hst hyst hw hte' hte3 (by omega) (by omega) sv (zcc_k (t := (7, 0)) (by decide) (by decide)) (fun q _ => absurd q (by omega)) (fun q _ => absurd q (by omega)) (fun _ q => absurd q (by omega)) (fun _ _ => next _ _ rfl (fr _ _) (zhd_up (fun j hj hne => hP j (by have hj : j < s.length + 1 := hj; omega)) e))
      · have e := (hn 1 (by decide) h2).1
        rw [← u1 39 (by decide)] at e
        exact zb_Judge_valueOfK8_9 (yh := s.length) hK i l5 c5 hytx hto hyto hst hyst hw hte' hte3 (by omega) (by omega) sv (zcc_k (t := (8, 0)) (by decide) (by decide)) (fun q _ => absurd q (by omega)) (fun q _ => absurd q (by omega)) (fun _ q => absurd q (by omega)) (fun _ _ => next _ _ rfl (fr _ _) (zhd_up (fun j hj hne => hP j (by have hj : j < s.length + 1 := hj; omega)) e))
      · have e := (hn 2 (by decide) h2).1
        rw [← u1 39 (by decide)] at e
        exact zb_Judge_valueOfK9_9 (yh := s.length) hK i l5 c5 hytx hto hyto hst hyst hw hte' hte3 (by omega) (by omega) sv (zcc_k (t := (9, 0)) (by decide) (by decide)) (fun q _ => absurd q (by omega)) (fun q _ => absurd q (by omega)) (fun _ q => absurd q (by omega)) (fun _ _ => next _ _ rfl (fr _ _) (zhd_up (fun j hj hne => hP j (by have hj : j < s.length + 1 := hj; omega)) e))
      · have e := (hn 3 (by decide) h2).1
        rw [← u1 39 (by decide)] at e
        exact zb_Judge_valueOfK10_9 (yh := s.length) hK i l5 c5 hytx hto hyto hst hyst hw hte' hte3 (by omega) (by omega) sv (zcc_k (t := (10, 0)) (by decide) (by decide)) (fun q _ => absurd q (by omega)) (fun q _ => absurd q (by omega)) (fun _ q => absurd q (by omega)) (fun _ _ => next _ _ rfl (fr _ _) (zhd_up (fun j hj hne => hP j (by have hj : j < s.length + 1 := hj; omega)) e))
      · have e := (hn 4 (by decide) h2).1
        rw [← u1 39 (by decide)] at e
        exact zb_Judge_valueOfK11_9 (yh := s.length) hK i l5 c5 hytx hto hyto hst hyst hw hte' hte3 (by omega) (by omega) sv (zcc_k (t := (11, 0)) (by decide) (by decide)) (fun q _ => absurd q (by omega)) (fun q _ => absurd q (by omega)) (fun _ q => absurd q (by omega)) (fun _ _ => next _ _ rfl (fr _ _) (zhd_up (fun j hj hne => hP j (by have hj : j < s.length + 1 := hj; omega)) e))
      · have e := (hn 5 (by decide) h2).1
        rw [← u1 39 (by decide)] at e
        exact zb_Judge_valueOfK12_9 (yh := s.length) hK i l5 c5 hytx hto hyto hst hyst hw hte' hte3 (by omega) (by omega) sv (zcc_k (t := (12, 0)) (by decide) (by decide)) (fun q _ => absurd q (by omega)) (fun q _ => absurd q (by omega)) (fun _ q => absurd q (by omega)) (fun _ _ => next _ _ rfl (fr _ _) (zhd_up (fun j hj hne => hP j (by have hj : j < s.length + 1 := hj; omega)) e))
      · have e := (hn 6 (by decide) h2).1
        rw [← u1 39 (by decide)] at e
        exact zb_Judge_valueOfK13_9 (yh := s.length) hK i l5 c5 hytx hto hyto hst hyst hw hte' hte3 (by omega) (by omega) sv (zcc_k (t := (13, 0)) (by decide) (by decide)) (fun q _ => absurd q (by omega)) (fun q _ => absurd q (by omega)) (fun _ q => absurd q (by omega)) (fun _ _ => next _ _ rfl (fr _ _) (zhd_up (fun j hj hne => hP j (by have hj : j < s.length + 1 := hj; omega)) e))
    · have h1 : k = 16 := h1
      have h2 : nu = 0 := h2
      subst h1 h2
      have hl : r.length + 1 ≤ 32 := hl
      have g : (M 40 r.length).toInt = 0 ∨ (M 40 r.length).toInt = 1 := by
        rw [hP r.length (by simp)]
        exact hg.1
      have e : (1 - M 40 r.length).toInt = 1 - P r.length := by
        rw [← hP r.length (by simp)]
        rcases zI_01 g with e | e <;> rw [e] <;> decide
      exact zb_Judge_valueOfK16_9 (yh := r.length) hK i l5 c5 hytx hto hyto hst hyst hw hte' hte3 (by omega) (by omega) sv (zcc_k (t := (16, 0)) (by decide) (by decide)) (fun q => absurd q (by omega)) (fun _ => next _ _ rfl (fr _ _) (zhd_up (fun j hj hne => hP j (by exact hj)) e))
    · have h1 : k = 30 := h1
      have h2 : nu = 0 := h2
      subst h1 h2
      have hl : r.length + 1 ≤ 32 := hl
      have g : -1000000 ≤ P r.length ∧ P r.length ≤ 1000000 := hg.1
      have e : (-(M 40 r.length)).toInt = -(P r.length) := by
        rw [Int32.toInt_neg, hP r.length (by simp), Int.bmod_eq_of_le (by omega) (by omega)]
      exact zb_Judge_valueOfK30_9 (yh := r.length) hK i l5 c5 hytx hto hyto hst hyst hw hte' hte3 (by omega) (by omega) sv (zcc_k (t := (30, 0)) (by decide) (by decide)) (fun q => absurd q (by omega)) (fun _ => next _ _ rfl (fr _ _) (zhd_up (fun j hj hne => hP j (by exact hj)) e))
    · have h1 : 17 ≤ k ∧ k ≤ 22 := h1
      have h2 : nu = 0 := h2
      subst h2
      have hl : r.length + 2 ≤ 32 := hl
      have el : (false :: false :: r).length = 2 + r.length := by simp; omega
      have hx : (M 40 r.length).toInt = P r.length := hP r.length (by simp; omega)
      have hy : (M 40 (r.length + 1)).toInt = P (r.length + 1) := hP (r.length + 1) (by simp)
      have z : k = 17 ∨ k = 18 ∨ k = 19 ∨ k = 20 ∨ k = 21 ∨ k = 22 := by omega
      rw [el]
      rcases z with rfl | rfl | rfl | rfl | rfl | rfl
      · exact zb_Judge_valueOfK17_9 (yh := r.length) hK i l5 c5 hytx hto hyto hst hyst hw hte' hte3 (by omega) (by omega) sv (zcc_k (t := (17, 0)) (by decide) (by decide)) (fun q => absurd q (by omega)) (fun _ q0 => next _ _ rfl (fr _ _) (zhd_up (fun j hj hne => hP j (by have hj : j < r.length + 1 := hj; rw [el]; omega)) (show _ = zjn 17 (P r.length) (P (r.length + 1)) by simp only [zlt, zle, zeq, hx, hy] at q0; unfold zjn; simp only [zl0, zl1]; split <;> omega))) (fun _ q0 => next _ _ rfl (fr _ _) (zhd_up (fun j hj hne => hP j (by have hj : j < r.length + 1 := hj; rw [el]; omega)) (show _ = zjn 17 (P r.length) (P (r.length + 1)) by simp only [zlt, zle, zeq, hx, hy] at q0; unfold zjn; simp only [zl0, zl1]; split <;> omega)))
      · exact zb_Judge_valueOfK18_9 (yh := r.length) hK i l5 c5 hytx hto hyto hst hyst hw hte' hte3 (by omega) (by omega) sv (zcc_k (t := (18, 0)) (by decide) (by decide)) (fun q => absurd q (by omega)) (fun _ q0 => next _ _ rfl (fr _ _) (zhd_up (fun j hj hne => hP j (by have hj : j < r.length + 1 := hj; rw [el]; omega)) (show _ = zjn 18 (P r.length) (P (r.length + 1)) by simp only [zlt, zle, zeq, hx, hy] at q0; unfold zjn; simp only [zl0, zl1]; split <;> omega))) (fun _ q0 => next _ _ rfl (fr _ _) (zhd_up (fun j hj hne => hP j (by have hj : j < r.length + 1 := hj; rw [el]; omega)) (show _ = zjn 18 (P r.length) (P (r.length + 1)) by simp only [zlt, zle, zeq, hx, hy] at q0; unfold zjn; simp only [zl0, zl1]; split <;> omega)))
      · exact zb_Judge_valueOfK19_9 (yh := r.length) hK i l5 c5 hytx hto hyto hst hyst hw hte' hte3 (by omega) (by omega) sv (zcc_k (t := (19, 0)) (by decide) (by decide)) (fun q => absurd q (by omega)) (fun _ q0 => next _ _ rfl (fr _ _) (zhd_up (fun j hj hne => hP j (by have hj : j < r.length + 1 := hj; rw [el]; omega)) (show _ = zjn 19 (P r.length) (P (r.length + 1)) by simp only [zlt, zle, zeq, hx, hy] at q0; unfold zjn; simp only [zl0, zl1]; split <;> omega))) (fun _ q0 => next _ _ rfl (fr _ _) (zhd_up (fun j hj hne => hP j (by have hj : j < r.length + 1 := hj; rw [el]; omega)) (show _ = zjn 19 (P r.length) (P (r.length + 1)) by simp only [zlt, zle, zeq, hx, hy] at q0; unfold zjn; simp only [zl0, zl1]; split <;> omega)))
      · exact zb_Judge_valueOfK20_9 (yh := r.length) hK i l5 c5 hytx hto hyto hst hyst hw hte' hte3 (by omega) (by omega) sv (zcc_k (t := (20, 0)) (by decide) (by decide)) (fun q => absurd q (by omega)) (fun _ q0 => next _ _ rfl (fr _ _) (zhd_up (fun j hj hne => hP j (by have hj : j < r.length + 1 := hj; rw [el]; omega)) (show _ = zjn 20 (P r.length) (P (r.length + 1)) by simp only [zlt, zle, zeq, hx, hy] at q0; unfold zjn; simp only [zl0, zl1]; split <;> omega))) (fun _ q0 => next _ _ rfl (fr _ _) (zhd_up (fun j hj hne => hP j (by have hj : j < r.length + 1 := hj; rw [el]; omega)) (show _ = zjn 20 (P r.length) (P (r.length + 1)) by simp only [zlt, zle, zeq, hx, hy] at q0; unfold zjn; simp only [zl0, zl1]; split <;> omega)))
      · exact zb_Judge_valueOfK21_9 (yh := r.length) hK i l5 c5 hytx hto hyto hst hyst hw hte' hte3 (by omega) (by omega) sv (zcc_k (t := (21, 0)) (by decide) (by decide)) (fun q => absurd q (by omega)) (fun _ q0 => next _ _ rfl (fr _ _) (zhd_up (fun j hj hne => hP j (by have hj : j < r.length + 1 := hj; rw [el]; omega)) (show _ = zjn 21 (P r.length) (P (r.length + 1)) by simp only [zlt, zle, zeq, hx, hy] at q0; unfold zjn; simp only [zl0, zl1]; split <;> omega))) (fun _ q0 => next _ _ rfl (fr _ _) (zhd_up (fun j hj hne => hP j (by have hj : j < r.length + 1 := hj; rw [el]; omega)) (show _ = zjn 21 (P r.length) (P (r.length + 1)) by simp only [zlt, zle, zeq, hx, hy] at q0; unfold zjn; simp only [zl0, zl1]; split <;> omega)))
      · exact zb_Judge_valueOfK22_9 (yh := r.length) hK i l5 c5 hytx hto hyto hst hyst hw hte' hte3 (by omega) (by omega) sv (zcc_k (t := (22, 0)) (by decide) (by decide)) (fun q => absurd q (by omega)) (fun _ q0 => next _ _ rfl (fr _ _) (zhd_up (fun j hj hne => hP j (by have hj : j < r.length + 1 := hj; rw [el]; omega)) (show _ = zjn 22 (P r.length) (P (r.length + 1)) by simp only [zlt, zle, zeq, hx, hy] at q0; unfold zjn; simp only [zl0, zl1]; split <;> omega))) (fun _ q0 => next _ _ rfl (fr _ _) (zhd_up (fun j hj hne => hP j (by have hj : j < r.length + 1 := hj; rw [el]; omega)) (show _ = zjn 22 (P r.length) (P (r.length + 1)) by simp only [zlt, zle, zeq, hx, hy] at q0; unfold zjn; simp only [zl0, zl1]; split <;> omega)))
    · have h1 : 23 ≤ k ∧ k ≤ 26 := h1
      have h2 : nu = 0 := h2
      subst h2
      have hl : r.length + 2 ≤ 32 := hl
      have el : (false :: false :: r).length = 2 + r.length := by simp; omega
      have hx : (M 40 r.length).toInt = P r.length := hP r.length (by simp; omega)
      have hy : (M 40 (r.length + 1)).toInt = P (r.length + 1) := hP (r.length + 1) (by simp)
      have gx : -1000000 ≤ P r.length ∧ P r.length ≤ 1000000 := hg.2.1
      have gy : -1000000 ≤ P (r.length + 1) ∧ P (r.length + 1) ≤ 1000000 := hg.1
      have lx : ((M 40 r.length).toInt64).toInt = P r.length := by rw [Int32.toInt_toInt64]; exact hx
      have ly : ((M 40 (r.length + 1)).toInt64).toInt = P (r.length + 1) := by rw [Int32.toInt_toInt64]; exact hy
      have z : k = 23 ∨ k = 24 ∨ k = 25 ∨ k = 26 := by omega
      rw [el]
      rcases z with rfl | rfl | rfl | rfl
      · exact zb_Judge_valueOfK23_9 (yh := r.length) hK i l5 c5 hytx hto hyto hst hyst hw hte' hte3 (by omega) (by omega) sv (zcc_k (t := (23, 0)) (by decide) (by decide)) (fun q => absurd q (by omega)) (fun _ => next _ _ rfl (fr _ _) (zhd_up (fun j hj hne => hP j (by have hj : j < r.length + 1 := hj; rw [el]; omega)) ((zbC_t _).trans (by rw [zLadd (by rw [lx]; exact gx) (by rw [ly]; exact gy), lx, ly]; rfl))))
      · exact zb_Judge_valueOfK24_9 (yh := r.length) hK i l5 c5 hytx hto hyto hst hyst hw hte' hte3 (by omega) (by omega) sv (zcc_k (t := (24, 0)) (by decide) (by decide)) (fun q => absurd q (by omega)) (fun _ => next _ _ rfl (fr _ _) (zhd_up (fun j hj hne => hP j (by have hj : j < r.length + 1 := hj; rw [el]; omega)) ((zbC_t _).trans (by rw [zLsub (by rw [lx]; exact gx) (by rw [ly]; exact gy), lx, ly]; rfl))))
      · exact zb_Judge_valueOfK25_9 (yh := r.length) hK i l5 c5 hytx hto hyto hst hyst hw hte' hte3 (by omega) (by omega) sv (zcc_k (t := (25, 0)) (by decide) (by decide)) (fun q => absurd q (by omega)) (fun _ => next _ _ rfl (fr _ _) (zhd_up (fun j hj hne => hP j (by have hj : j < r.length + 1 := hj; rw [el]; omega)) ((zbC_t _).trans (by rw [zLmul (by rw [lx]; exact gx) (by rw [ly]; exact gy), lx, ly]; rfl))))
      · exact zb_Judge_valueOfK26_9 (yh := r.length) hK i l5 c5 hytx hto hyto hst hyst hw hte' hte3 (by omega) (by omega) sv (zcc_k (t := (26, 0)) (by decide) (by decide)) (fun q => absurd q (by omega)) (fun _ q => q) (fun _ q0 => next _ _ rfl (fr _ _) (zhd_up (fun j hj hne => hP j (by have hj : j < r.length + 1 := hj; rw [el]; omega)) (show _ = zjn 26 (P r.length) (P (r.length + 1)) by simp only [zeq, zl0, hy] at q0; rw [Int32.toInt_div, hx, hy, Int.bmod_eq_of_le (by have := ztd (y := P (r.length + 1)) gx; omega) (by have := ztd (y := P (r.length + 1)) gx; omega)]; exact (if_neg q0).symm))) (fun _ q0 => next _ _ rfl (fr _ _) (zhd_up (fun j hj hne => hP j (by have hj : j < r.length + 1 := hj; rw [el]; omega)) (show _ = zjn 26 (P r.length) (P (r.length + 1)) by simp only [zeq, zl0, hy] at q0; exact (if_pos q0).symm)))
    · have h1 : k = 14 ∨ k = 15 := h1
      have h2 : nu = 0 := h2
      subst h2
      have hl : r.length + 2 ≤ 32 := hl
      have el : (true :: true :: r).length = 2 + r.length := by simp; omega
      have hx : (M 40 r.length).toInt = P r.length := hP r.length (by simp; omega)
      have hy : (M 40 (r.length + 1)).toInt = P (r.length + 1) := hP (r.length + 1) (by simp)
      have gx : M 40 r.length = 0 ∨ M 40 r.length = 1 := zI_01 (by rw [hx]; exact hg.2.1)
      have gy : M 40 (r.length + 1) = 0 ∨ M 40 (r.length + 1) = 1 := zI_01 (by rw [hy]; exact hg.1)
      rw [el]
      rcases h1 with rfl | rfl
      · exact zb_Judge_valueOfK14_9 (yh := r.length) hK i l5 c5 hytx hto hyto hst hyst hw hte' hte3 (by omega) (by omega) sv (zcc_k (t := (14, 0)) (by decide) (by decide)) (fun q => absurd q (by omega)) (fun _ => next _ _ rfl (fr _ _) (zhd_up (fun j hj hne => hP j (by have hj : j < r.length + 1 := hj; rw [el]; omega)) (show _ = zjn 14 (P r.length) (P (r.length + 1)) by rw [← hx, ← hy]; rcases gx with e | e <;> rcases gy with e2 | e2 <;> rw [e, e2] <;> decide)))
      · exact zb_Judge_valueOfK15_9 (yh := r.length) hK i l5 c5 hytx hto hyto hst hyst hw hte' hte3 (by omega) (by omega) sv (zcc_k (t := (15, 0)) (by decide) (by decide)) (fun q => absurd q (by omega)) (fun _ => next _ _ rfl (fr _ _) (zhd_up (fun j hj hne => hP j (by have hj : j < r.length + 1 := hj; rw [el]; omega)) (show _ = zjn 15 (P r.length) (P (r.length + 1)) by rw [← hx, ← hy]; rcases gx with e | e <;> rcases gy with e2 | e2 <;> rw [e, e2] <;> decide)))
theorem lp_says {M : Nat → Nat → Int32} {fr0 : Nat} (hK : zKok K) (hn : ∀ j, j < 7 → mask.testBit j = true → (M 85 j).toInt = nm j ∧ -1000000 ≤ nm j ∧ nm j ≤ 1000000) : ∀ (rest : List (Nat × Nat)) (i : Nat) (s : List Bool) (P : Nat → Int) (B : Nat → Nat → Int64) (l4 : Value), l4.category = 1 → i + rest.length < 1600 → (∀ j, j < rest.length → M 76 (i + j) = zrop (rest.getD j (0, 0)) ∧ M 77 (i + j) = zrov (rest.getD j (0, 0))) → M 76 (i + rest.length) = 408 → zty mask rest s = some [bb] → zgd s P → s.length ≤ 32 → (∀ j, j < s.length → (B 86 j).toInt = P j) → (∀ (v : Int64) B', v.toInt = (zevs nm rest (s.length, P)).2 0 → F (some (.long v)) (X, b, zLay, K, B', M)) → zEx (zCall (d + 3)) 10 false 3 zc_Model_saysOf F 4 [.ref 71, .int (nI fr0), .int (nI s.length), .int (nI i), l4] [] (X, b, zLay, K, B, M) := by
  intro rest
  induction rest with
  | nil =>
    intro i s P B l4 c4 hi hc he hty hg hl hP kk
    unfold zty at hty
    cases hty
    exact zb_Model_saysOfO408_4 (yh := 0) hK fr0 i l4 c4 (by omega) (by omega) he (kk _ B (hP 0 (by simp)))
  | cons t rest ih =>
    intro i s P B l4 c4 hi hc he hty hg hl hP kk
    have hi : i + (rest.length + 1) < 1600 := hi
    have he : M 76 (i + (rest.length + 1)) = 408 := he
    unfold zty at hty
    cases hz : zty1 mask t s with
    | none => rw [hz] at hty; cases hty
    | some s' =>
    rw [hz] at hty
    have hty : zty mask rest s' = some [bb] := hty
    obtain ⟨o1, o2, o3⟩ := zst_ok (nm := nm) (fun j h1 h2 => (hn j h1 h2).2) hz hg hl
    obtain ⟨so, sv⟩ : M 76 i = zrop t ∧ M 77 i = zrov t := hc 0 (by simp)
    have next : ∀ (B1 : Nat → Nat → Int64) (l4 : Value), l4.category = 1 → (∀ j, j < s'.length → (B1 86 j).toInt = (zst nm t (s.length, P)).2 j) → zEx (zCall (d + 3)) 10 false 3 zc_Model_saysOf F 4 [.ref 71, .int (nI fr0), .int (nI s'.length), .int (nI (i + 1)), l4] [] (X, b, zLay, K, B1, M) := by
      intro B1 l4 c4 v2
      refine ih (i + 1) s' (zst nm t (s.length, P)).2 B1 l4 c4 (by omega) (fun j hj => ?_) (by rw [show i + 1 + rest.length = i + (rest.length + 1) by omega]; exact he) hty o2 o3 v2 (fun v B' w2 => kk v B' ?_)
      · have := hc (j + 1) (by simp; omega)
        rw [show i + 1 + j = i + (j + 1) by omega]
        exact this
      · rw [w2]
        show _ = (zevs nm rest (zst nm t (s.length, P))).2 0
        rw [← o1]
    obtain ⟨k, nu⟩ := t
    rcases zty1_c hz with ⟨h1, h2, h3, rfl⟩ | ⟨h1, h2, h3, h4, rfl⟩ | ⟨h1, h2, r, rfl, rfl⟩ | ⟨h1, h2, r, rfl, rfl⟩ | ⟨h1, h2, r, rfl, rfl⟩ | ⟨h1, h2, r, rfl, rfl⟩ | ⟨h1, h2, r, rfl, rfl⟩
    · have h1 : k = 2 := h1
      have h2 : nu ≤ 9999 := h2
      subst h1
      exact zb_Model_saysOfO400_4 (ov := nu) (yh := s.length) hK fr0 i l4 c4 (by omega) (by omega) so sv h2 (next _ _ rfl (zpl_up (fun j hj hne => hP j (by have hj : j < s.length + 1 := hj; omega)) (by rw [Int32.toInt_toInt64, nI_toInt (by omega)])))
    · have h1 : 7 ≤ k ∧ k ≤ 13 := h1
      have h3 : nu = 0 := h3
      subst h3
      have h2 : mask.testBit (k - 7) = true := h2
      have e := (hn (k - 7) (by omega) h2).1
      have ez : (zst nm (k, 0) (s.length, P)).2 = zup P s.length (nm (k - 7)) := by
        unfold zst
        rw [if_neg (show ¬ k = 2 by omega), if_pos h1]
      rw [ez] at next
      have so : M 76 i = 401 := by
        rw [so]
        have z : k = 7 ∨ k = 8 ∨ k = 9 ∨ k = 10 ∨ k = 11 ∨ k = 12 ∨ k = 13 := by omega
        rcases z with rfl | rfl | rfl | rfl | rfl | rfl | rfl <;> rfl
      have sv : M 77 i = nI (k - 7) := by
        rw [sv]
        unfold zrov
        rw [if_neg (show ¬ k = 2 by omega), if_pos h1]
      exact zb_Model_saysOfO401_4 (ov := k - 7) (yh := s.length) hK fr0 i l4 c4 (by omega) (by omega) so sv (by omega) (next _ _ rfl (zpl_up (fun j hj hne => hP j (by have hj : j < s.length + 1 := hj; omega)) (by rw [Int32.toInt_toInt64]; exact e)))
    · have h1 : k = 16 := h1
      have h2 : nu = 0 := h2
      subst h1 h2
      have hl : r.length + 1 ≤ 32 := hl
      have g : P r.length = 0 ∨ P r.length = 1 := hg.1
      have e : ((1) - B 86 r.length).toInt = 1 - P r.length := by
        rw [Int64.toInt_sub, hP r.length (by simp), show (1 : Int64).toInt = 1 from rfl, Int.bmod_eq_of_le (by omega) (by omega)]
      exact zb_Model_saysOfO405_4 (yh := r.length) hK fr0 i l4 c4 (by omega) (by omega) so (next _ _ rfl (zpl_up (fun j hj hne => hP j (by exact hj)) e))
    · have h1 : k = 30 := h1
      have h2 : nu = 0 := h2
      subst h1 h2
      have hl : r.length + 1 ≤ 32 := hl
      have g : -1000000 ≤ P r.length ∧ P r.length ≤ 1000000 := hg.1
      have e : (-(B 86 r.length)).toInt = -(P r.length) := by
        rw [Int64.toInt_neg, hP r.length (by simp), Int.bmod_eq_of_le (by omega) (by omega)]
      exact zb_Model_saysOfO402_4 (yh := r.length) hK fr0 i l4 c4 (by omega) (by omega) so (next _ _ rfl (zpl_up (fun j hj hne => hP j (by exact hj)) e))
    · have h1 : 17 ≤ k ∧ k ≤ 22 := h1
      have h2 : nu = 0 := h2
      subst h2
      have hl : r.length + 2 ≤ 32 := hl
      have el : (false :: false :: r).length = 2 + r.length := by simp; omega
      have hx : (B 86 r.length).toInt = P r.length := hP r.length (by simp; omega)
      have hy : (B 86 (r.length + 1)).toInt = P (r.length + 1) := hP (r.length + 1) (by simp)
      have z : k = 17 ∨ k = 18 ∨ k = 19 ∨ k = 20 ∨ k = 21 ∨ k = 22 := by omega
      rw [el]
      rcases z with rfl | rfl | rfl | rfl | rfl | rfl
      · exact zb_Model_saysOfO60_4 (yh := r.length) hK fr0 i l4 c4 (by omega) (by omega) so (fun q0 => next _ _ rfl (zpl_up (fun j hj hne => hP j (by have hj : j < r.length + 1 := hj; rw [el]; omega)) (show _ = zjn 17 (P r.length) (P (r.length + 1)) by simp only [lg_cmp_ge, lg_cmp_le, lg_cmp_gt, lg_cmp_lt, lg_cmp_eq, zLlt, zLle, zLeq, hx, hy] at q0; unfold zjn; simp only [zL0, zL1]; split <;> omega))) (fun q0 => next _ _ rfl (zpl_up (fun j hj hne => hP j (by have hj : j < r.length + 1 := hj; rw [el]; omega)) (show _ = zjn 17 (P r.length) (P (r.length + 1)) by simp only [lg_cmp_ge, lg_cmp_le, lg_cmp_gt, lg_cmp_lt, lg_cmp_eq, zLlt, zLle, zLeq, hx, hy] at q0; unfold zjn; simp only [zL0, zL1]; split <;> omega)))
      · exact zb_Model_saysOfO300_4 (yh := r.length) hK fr0 i l4 c4 (by omega) (by omega) so (fun q0 => next _ _ rfl (zpl_up (fun j hj hne => hP j (by have hj : j < r.length + 1 := hj; rw [el]; omega)) (show _ = zjn 18 (P r.length) (P (r.length + 1)) by simp only [lg_cmp_ge, lg_cmp_le, lg_cmp_gt, lg_cmp_lt, lg_cmp_eq, zLlt, zLle, zLeq, hx, hy] at q0; unfold zjn; simp only [zL0, zL1]; split <;> omega))) (fun q0 => next _ _ rfl (zpl_up (fun j hj hne => hP j (by have hj : j < r.length + 1 := hj; rw [el]; omega)) (show _ = zjn 18 (P r.length) (P (r.length + 1)) by simp only [lg_cmp_ge, lg_cmp_le, lg_cmp_gt, lg_cmp_lt, lg_cmp_eq, zLlt, zLle, zLeq, hx, hy] at q0; unfold zjn; simp only [zL0, zL1]; split <;> omega)))
      · exact zb_Model_saysOfO62_4 (yh := r.length) hK fr0 i l4 c4 (by omega) (by omega) so (fun q0 => next _ _ rfl (zpl_up (fun j hj hne => hP j (by have hj : j < r.length + 1 := hj; rw [el]; omega)) (show _ = zjn 19 (P r.length) (P (r.length + 1)) by simp only [lg_cmp_ge, lg_cmp_le, lg_cmp_gt, lg_cmp_lt, lg_cmp_eq, zLlt, zLle, zLeq, hx, hy] at q0; unfold zjn; simp only [zL0, zL1]; split <;> omega))) (fun q0 => next _ _ rfl (zpl_up (fun j hj hne => hP j (by have hj : j < r.length + 1 := hj; rw [el]; omega)) (show _ = zjn 19 (P r.length) (P (r.length + 1)) by simp only [lg_cmp_ge, lg_cmp_le, lg_cmp_gt, lg_cmp_lt, lg_cmp_eq, zLlt, zLle, zLeq, hx, hy] at q0; unfold zjn; simp only [zL0, zL1]; split <;> omega)))
      · exact zb_Model_saysOfO301_4 (yh := r.length) hK fr0 i l4 c4 (by omega) (by omega) so (fun q0 => next _ _ rfl (zpl_up (fun j hj hne => hP j (by have hj : j < r.length + 1 := hj; rw [el]; omega)) (show _ = zjn 20 (P r.length) (P (r.length + 1)) by simp only [lg_cmp_ge, lg_cmp_le, lg_cmp_gt, lg_cmp_lt, lg_cmp_eq, zLlt, zLle, zLeq, hx, hy] at q0; unfold zjn; simp only [zL0, zL1]; split <;> omega))) (fun q0 => next _ _ rfl (zpl_up (fun j hj hne => hP j (by have hj : j < r.length + 1 := hj; rw [el]; omega)) (show _ = zjn 20 (P r.length) (P (r.length + 1)) by simp only [lg_cmp_ge, lg_cmp_le, lg_cmp_gt, lg_cmp_lt, lg_cmp_eq, zLlt, zLle, zLeq, hx, hy] at q0; unfold zjn; simp only [zL0, zL1]; split <;> omega)))
      · exact zb_Model_saysOfO61_4 (yh := r.length) hK fr0 i l4 c4 (by omega) (by omega) so (fun q0 => next _ _ rfl (zpl_up (fun j hj hne => hP j (by have hj : j < r.length + 1 := hj; rw [el]; omega)) (show _ = zjn 21 (P r.length) (P (r.length + 1)) by simp only [lg_cmp_ge, lg_cmp_le, lg_cmp_gt, lg_cmp_lt, lg_cmp_eq, zLlt, zLle, zLeq, hx, hy] at q0; unfold zjn; simp only [zL0, zL1]; split <;> omega))) (fun q0 => next _ _ rfl (zpl_up (fun j hj hne => hP j (by have hj : j < r.length + 1 := hj; rw [el]; omega)) (show _ = zjn 21 (P r.length) (P (r.length + 1)) by simp only [lg_cmp_ge, lg_cmp_le, lg_cmp_gt, lg_cmp_lt, lg_cmp_eq, zLlt, zLle, zLeq, hx, hy] at q0; unfold zjn; simp only [zL0, zL1]; split <;> omega)))
      · exact zb_Model_saysOfO35_4 (yh := r.length) hK fr0 i l4 c4 (by omega) (by omega) so (fun q0 => next _ _ rfl (zpl_up (fun j hj hne => hP j (by have hj : j < r.length + 1 := hj; rw [el]; omega)) (show _ = zjn 22 (P r.length) (P (r.length + 1)) by simp only [lg_cmp_ge, lg_cmp_le, lg_cmp_gt, lg_cmp_lt, lg_cmp_eq, zLlt, zLle, zLeq, hx, hy] at q0; unfold zjn; simp only [zL0, zL1]; split <;> omega))) (fun q0 => next _ _ rfl (zpl_up (fun j hj hne => hP j (by have hj : j < r.length + 1 := hj; rw [el]; omega)) (show _ = zjn 22 (P r.length) (P (r.length + 1)) by simp only [lg_cmp_ge, lg_cmp_le, lg_cmp_gt, lg_cmp_lt, lg_cmp_eq, zLlt, zLle, zLeq, hx, hy] at q0; unfold zjn; simp only [zL0, zL1]; split <;> omega)))
    · have h1 : 23 ≤ k ∧ k ≤ 26 := h1
      have h2 : nu = 0 := h2
      subst h2
      have hl : r.length + 2 ≤ 32 := hl
      have el : (false :: false :: r).length = 2 + r.length := by simp; omega
      have hx : (B 86 r.length).toInt = P r.length := hP r.length (by simp; omega)
      have hy : (B 86 (r.length + 1)).toInt = P (r.length + 1) := hP (r.length + 1) (by simp)
      have gx : -1000000 ≤ P r.length ∧ P r.length ≤ 1000000 := hg.2.1
      have gy : -1000000 ≤ P (r.length + 1) ∧ P (r.length + 1) ≤ 1000000 := hg.1
      have ea := zLadd (x := B 86 r.length) (y := B 86 (r.length + 1)) (by rw [hx]; exact gx) (by rw [hy]; exact gy)
      have es := zLsub (x := B 86 r.length) (y := B 86 (r.length + 1)) (by rw [hx]; exact gx) (by rw [hy]; exact gy)
      have em := zLmul (x := B 86 r.length) (y := B 86 (r.length + 1)) (by rw [hx]; exact gx) (by rw [hy]; exact gy)
      rw [hx, hy] at ea es em
      have z : k = 23 ∨ k = 24 ∨ k = 25 ∨ k = 26 := by omega
      rw [el]
      rcases z with rfl | rfl | rfl | rfl
      · exact zb_Model_saysOfO43_4 (yh := r.length) hK fr0 i l4 c4 (by omega) (by omega) so (fun q0 q1 => next _ _ rfl (zpl_up (fun j hj hne => hP j (by have hj : j < r.length + 1 := hj; rw [el]; omega)) (show _ = zbd (P r.length + P (r.length + 1)) by simp only [lg_cmp_ge, lg_cmp_le, lg_cmp_gt, lg_cmp_lt, lg_cmp_eq, zLlt, zLle, zLeq, hx, hy, zLM, zLm, ea] at q0 q1; (try rw [ea]); (try rw [zLM]); (try rw [zLm]); unfold zbd; split <;> (try split) <;> omega))) (fun q0 q1 => next _ _ rfl (zpl_up (fun j hj hne => hP j (by have hj : j < r.length + 1 := hj; rw [el]; omega)) (show _ = zbd (P r.length + P (r.length + 1)) by simp only [lg_cmp_ge, lg_cmp_le, lg_cmp_gt, lg_cmp_lt, lg_cmp_eq, zLlt, zLle, zLeq, hx, hy, zLM, zLm, ea] at q0 q1; (try rw [ea]); (try rw [zLM]); (try rw [zLm]); unfold zbd; split <;> (try split) <;> omega))) (fun q0 => next _ _ rfl (zpl_up (fun j hj hne => hP j (by have hj : j < r.length + 1 := hj; rw [el]; omega)) (show _ = zbd (P r.length + P (r.length + 1)) by simp only [lg_cmp_ge, lg_cmp_le, lg_cmp_gt, lg_cmp_lt, lg_cmp_eq, zLlt, zLle, zLeq, hx, hy, zLM, zLm, ea] at q0; (try rw [ea]); (try rw [zLM]); (try rw [zLm]); unfold zbd; split <;> (try split) <;> omega)))
      · exact zb_Model_saysOfO45_4 (yh := r.length) hK fr0 i l4 c4 (by omega) (by omega) so (fun q0 q1 => next _ _ rfl (zpl_up (fun j hj hne => hP j (by have hj : j < r.length + 1 := hj; rw [el]; omega)) (show _ = zbd (P r.length - P (r.length + 1)) by simp only [lg_cmp_ge, lg_cmp_le, lg_cmp_gt, lg_cmp_lt, lg_cmp_eq, zLlt, zLle, zLeq, hx, hy, zLM, zLm, es] at q0 q1; (try rw [es]); (try rw [zLM]); (try rw [zLm]); unfold zbd; split <;> (try split) <;> omega))) (fun q0 q1 => next _ _ rfl (zpl_up (fun j hj hne => hP j (by have hj : j < r.length + 1 := hj; rw [el]; omega)) (show _ = zbd (P r.length - P (r.length + 1)) by simp only [lg_cmp_ge, lg_cmp_le, lg_cmp_gt, lg_cmp_lt, lg_cmp_eq, zLlt, zLle, zLeq, hx, hy, zLM, zLm, es] at q0 q1; (try rw [es]); (try rw [zLM]); (try rw [zLm]); unfold zbd; split <;> (try split) <;> omega))) (fun q0 => next _ _ rfl (zpl_up (fun j hj hne => hP j (by have hj : j < r.length + 1 := hj; rw [el]; omega)) (show _ = zbd (P r.length - P (r.length + 1)) by simp only [lg_cmp_ge, lg_cmp_le, lg_cmp_gt, lg_cmp_lt, lg_cmp_eq, zLlt, zLle, zLeq, hx, hy, zLM, zLm, es] at q0; (try rw [es]); (try rw [zLM]); (try rw [zLm]); unfold zbd; split <;> (try split) <;> omega)))
      · exact zb_Model_saysOfO42_4 (yh := r.length) hK fr0 i l4 c4 (by omega) (by omega) so (fun q0 q1 => next _ _ rfl (zpl_up (fun j hj hne => hP j (by have hj : j < r.length + 1 := hj; rw [el]; omega)) (show _ = zbd (P r.length * P (r.length + 1)) by simp only [lg_cmp_ge, lg_cmp_le, lg_cmp_gt, lg_cmp_lt, lg_cmp_eq, zLlt, zLle, zLeq, hx, hy, zLM, zLm, em] at q0 q1; (try rw [em]); (try rw [zLM]); (try rw [zLm]); unfold zbd; split <;> (try split) <;> omega))) (fun q0 q1 => next _ _ rfl (zpl_up (fun j hj hne => hP j (by have hj : j < r.length + 1 := hj; rw [el]; omega)) (show _ = zbd (P r.length * P (r.length + 1)) by simp only [lg_cmp_ge, lg_cmp_le, lg_cmp_gt, lg_cmp_lt, lg_cmp_eq, zLlt, zLle, zLeq, hx, hy, zLM, zLm, em] at q0 q1; (try rw [em]); (try rw [zLM]); (try rw [zLm]); unfold zbd; split <;> (try split) <;> omega))) (fun q0 => next _ _ rfl (zpl_up (fun j hj hne => hP j (by have hj : j < r.length + 1 := hj; rw [el]; omega)) (show _ = zbd (P r.length * P (r.length + 1)) by simp only [lg_cmp_ge, lg_cmp_le, lg_cmp_gt, lg_cmp_lt, lg_cmp_eq, zLlt, zLle, zLeq, hx, hy, zLM, zLm, em] at q0; (try rw [em]); (try rw [zLM]); (try rw [zLm]); unfold zbd; split <;> (try split) <;> omega)))
      · exact zb_Model_saysOfO47_4 (yh := r.length) hK fr0 i l4 c4 (by omega) (by omega) so (fun q => fun z => q (by rw [z]; decide)) (fun q0 => next _ _ rfl (zpl_up (fun j hj hne => hP j (by have hj : j < r.length + 1 := hj; rw [el]; omega)) (show _ = zjn 26 (P r.length) (P (r.length + 1)) by simp only [lg_cmp_ge, lg_cmp_le, lg_cmp_gt, lg_cmp_lt, lg_cmp_eq, zLlt, zLle, zLeq, hx, hy, zL0] at q0; rw [Int64.toInt_div, hx, hy, Int.bmod_eq_of_le (by have := ztd (y := P (r.length + 1)) gx; omega) (by have := ztd (y := P (r.length + 1)) gx; omega)]; exact (if_neg q0).symm))) (fun q0 => next _ _ rfl (zpl_up (fun j hj hne => hP j (by have hj : j < r.length + 1 := hj; rw [el]; omega)) (show _ = zjn 26 (P r.length) (P (r.length + 1)) by simp only [lg_cmp_ge, lg_cmp_le, lg_cmp_gt, lg_cmp_lt, lg_cmp_eq, zLlt, zLle, zLeq, hx, hy, zL0] at q0; exact (if_pos q0).symm)))
    · have h1 : k = 14 ∨ k = 15 := h1
      have h2 : nu = 0 := h2
      subst h2
      have hl : r.length + 2 ≤ 32 := hl
      have el : (true :: true :: r).length = 2 + r.length := by simp; omega
      have hx : (B 86 r.length).toInt = P r.length := hP r.length (by simp; omega)
      have hy : (B 86 (r.length + 1)).toInt = P (r.length + 1) := hP (r.length + 1) (by simp)
      have gx : P r.length = 0 ∨ P r.length = 1 := hg.2.1
      have gy : P (r.length + 1) = 0 ∨ P (r.length + 1) = 1 := hg.1
      have ea := zLadd (x := B 86 r.length) (y := B 86 (r.length + 1)) (by rw [hx]; omega) (by rw [hy]; omega)
      have em := zLmul (x := B 86 r.length) (y := B 86 (r.length + 1)) (by rw [hx]; omega) (by rw [hy]; omega)
      rw [hx, hy] at ea em
      rw [el]
      rcases h1 with rfl | rfl
      · exact zb_Model_saysOfO407_4 (yh := r.length) hK fr0 i l4 c4 (by omega) (by omega) so (fun q0 => next _ _ rfl (zpl_up (fun j hj hne => hP j (by have hj : j < r.length + 1 := hj; rw [el]; omega)) (show _ = zjn 14 (P r.length) (P (r.length + 1)) by simp only [lg_cmp_ge, lg_cmp_le, lg_cmp_gt, lg_cmp_lt, lg_cmp_eq, zLlt, zLle, zLeq, hx, hy, zL0, ea] at q0; unfold zjn; simp only [zL0, zL1]; split <;> omega))) (fun q0 => next _ _ rfl (zpl_up (fun j hj hne => hP j (by have hj : j < r.length + 1 := hj; rw [el]; omega)) (show _ = zjn 14 (P r.length) (P (r.length + 1)) by simp only [lg_cmp_ge, lg_cmp_le, lg_cmp_gt, lg_cmp_lt, lg_cmp_eq, zLlt, zLle, zLeq, hx, hy, zL0, ea] at q0; unfold zjn; simp only [zL0, zL1]; split <;> omega)))
      · exact zb_Model_saysOfO406_4 (yh := r.length) hK fr0 i l4 c4 (by omega) (by omega) so (next _ _ rfl (zpl_up (fun j hj hne => hP j (by have hj : j < r.length + 1 := hj; rw [el]; omega)) em))
end EV
