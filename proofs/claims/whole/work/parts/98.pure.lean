/-! ===== the law's run: constructors, then the loop ===== -/
theorem zops_all (L : Nat) (xs : Nat → Int32) : zOps zInv L xs :=
  ⟨zop_place _, zop_way _, zop_shut _, zop_pace _, zop_boat _, zop_seen _, zop_excuse _, zop_feed _, zop_end _, zop_text L xs, zop_fault _, zop_miles _, zop_round _, zop_may _, zop_known _, zop_over _, zop_longest _, zop_far _, zop_shortOf _, zop_broken _, zop_look _, zop_send _, zop_appeal _, zop_crowd _, zop_tied _, zop_swapped _, zop_image _, zop_back _, zop_about _⟩
abbrev zzgK (K : Nat → Nat → Option Nat) : Prop := (K 41 6 = some 44 ∧ K 41 7 = some 45) ∧ (K 46 6 = some 49 ∧ K 46 7 = some 50) ∧ (K 51 4 = some 53 ∧ K 51 5 = some 54)
abbrev zzg8 (A : Nat → Int32) : Prop := A 0 = nI 0 ∧ A 1 = nI 0 ∧ A 2 = nI 0 ∧ A 3 = nI 10 ∧ A 4 = nI 0 ∧ A 5 = nI 0 ∧ A 6 = nI 0 ∧ A 7 = nI 0
abbrev zzgM (M : Nat → Nat → Int32) : Prop := zzg8 (M 72) ∧ zzg8 (M 73) ∧ (M 1 1 = M 72 0 ∧ M 1 5 = M 72 1 ∧ M 1 9 = M 72 2 ∧ M 1 10 = M 72 3 ∧ M 13 0 = M 72 4 ∧ M 13 5 = M 72 5 ∧ M 13 10 = M 72 6 ∧ M 0 7 = M 72 7) ∧ (M 26 0 = M 73 0 ∧ M 26 1 = M 73 1 ∧ M 26 2 = M 73 2 ∧ M 26 3 = M 73 3 ∧ M 26 4 = M 73 4 ∧ M 26 5 = M 73 5 ∧ M 26 6 = M 73 6 ∧ M 26 7 = M 73 7) ∧ (∀ b, b < 8 → M 23 b = nI 0 ∧ M 72 (420 + b) = nI 0 ∧ M 28 b = nI 0 ∧ M 73 (420 + b) = nI 0) ∧ (M 31 1 = nI 0 ∧ M 71 3 = nI 0) ∧ (M 31 2 = M 71 4 ∧ M 31 3 = M 71 5) ∧ M 1 11 = 1 ∧ (∀ i, i < 4 → M 34 i = -1)
def zzchk : Bool := match zzrun with
  | some (.inl (pc, ls, st, s)) => Nat.beq pc 18 && (decide (ls = [.ref 1000, .ref 0, .ref 71, .int (nI 0)]) && (decide (st = []) && (Nat.beq s.2.1 97 && (zall zKtL (fun c k j => decide (zzaK s.2.2.1 c k = some j)) && (decide (zzgK (zzaK s.2.2.1)) && decide (zzgM (zzaM s.2.2.2)))))))
  | _ => false
set_option maxRecDepth 100000 in
theorem zzchk_t : zzchk = true := by decide +kernel
theorem zz_inv {K : Nat → Nat → Option Nat} {B : Nat → Nat → Int64} {M : Nat → Nat → Int32} (hK : zKok K) (hS : zzgK K) (hM : zzgM M) : zInv K B M := by
  obtain ⟨s1, s2, s3⟩ := hS
  obtain ⟨a, a', c, c', lt, tp, fa, ta, nr⟩ := hM
  refine ⟨hK, ⟨Or.inl s1, Or.inl s2, Or.inl s3⟩, fun j => if j = 3 then 10 else 0, fun j => if j = 3 then 10 else 0, ?_⟩
  refine ⟨⟨a, by decide⟩, ⟨a', by decide⟩, by unfold zLe; decide, c, c', ?_, ?_, ?_, ?_, ⟨0, by decide, tp.1, tp.2, fun i hi => by omega⟩, fa, Or.inl ta, ?_, nr⟩
  · exact ⟨fun i hi => absurd hi (Nat.not_lt_zero i), fun i hi => absurd hi (Nat.not_lt_zero i), fun i hi => absurd hi (Nat.not_lt_zero i), fun i hi => absurd hi (Nat.not_lt_zero i), fun i hi => absurd hi (Nat.not_lt_zero i)⟩
  · exact ⟨fun i hi => absurd hi (Nat.not_lt_zero i), fun i hi => absurd hi (Nat.not_lt_zero i), fun i hi => absurd hi (Nat.not_lt_zero i), fun i hi => absurd hi (Nat.not_lt_zero i), fun i hi => absurd hi (Nat.not_lt_zero i)⟩
  · exact fun b hb => ⟨0, by decide, (lt b hb).1, (lt b hb).2.1, fun i hi => absurd hi (Nat.not_lt_zero i)⟩
  · exact fun b hb => ⟨0, by decide, (lt b hb).2.2.1, (lt b hb).2.2.2, fun i hi => absurd hi (Nat.not_lt_zero i)⟩
  · exact fun t ht => absurd ht (Nat.not_lt_zero t)
theorem zz_fin : ∃ (b : Nat × Nat) (kl : List (Nat × Nat × Nat)) (ml : List (Nat × Nat × Int32)), zzrun = zzGo 18 [.ref 1000, .ref 0, .ref 71, .int (nI 0)] [] (b, 97, kl, ml) ∧ zInv (zzaK kl) (fun _ _ => 0) (zzaM ml) := by
  have h := zzchk_t
  unfold zzchk at h
  generalize zzrun = r at h ⊢
  rcases r with _ | (⟨pc, ls, st, s⟩ | r)
  · cases h
  · simp only [Bool.and_eq_true, decide_eq_true_eq] at h
    obtain ⟨h1, h2, h3, h4, h5, h6, h7⟩ := h
    obtain ⟨b, n, kl, ml⟩ := s
    have h1 := zzbeq h1
    have h4 : n = 97 := zzbeq h4
    refine ⟨b, kl, ml, by rw [h1, h2, h3, h4], zz_inv (fun c k j hj => ?_) h6 h7⟩
    exact of_decide_eq_true (zall_spec h5 hj)
  · rcases r with r | r <;> cases h
theorem zpure {L : Nat} {xs : Nat → Int32} (hL : L ≤ 3072) : zEx (zCall 1000) 12 false 2 zc_law (fun v _ => v = some (.int 1)) 0 [.ref 1000, .null, .null, .null] [] (zS0 L xs) := by
  have h := zzgo_q (X := zX0 L xs) (F := fun v _ => v = some (.int 1)) (own := 12) (ini := false) (rt := 2) (cd := zc_law) (stop := 18) (cev := zzev 10) (zCall_m 1000) (fun mi as s s' h F hF => zCall_le (by decide : 10 ≤ 1000) (zzev_q 10 mi as s s' h F hF)) 100 0 [.ref 1000, .null, .null, .null] [] ((100, 20000), 0, [], [])
  obtain ⟨b, kl, ml, e, hi⟩ := zz_fin
  have e0 : zzem (zX0 L xs) ((100, 20000), 0, [], []) = zS0 L xs := rfl
  rw [e0] at h
  apply h
  have e1 : zzgo (zzev 10) 12 false 2 zc_law 18 100 0 [.ref 1000, .null, .null, .null] [] ((100, 20000), 0, [], []) = zzGo 18 [.ref 1000, .ref 0, .ref 71, .int (nI 0)] [] (b, 97, kl, ml) := by
    rw [← e]
    unfold zzrun
    rfl
  rw [e1]
  have e2 : zLay.take 97 = zLay := rfl
  have g := zlaw_loop (d := 800) (b := b) hL (zops_all L xs) (L + 6) 0 (zzaK kl) (fun _ _ => 0) (zzaM ml) (by omega) (Nat.zero_le _) hi
  have e3 : zzem (zX0 L xs) (b, 97, kl, ml) = (zX0 L xs, b, zLay, zzaK kl, fun _ _ => 0, zzaM ml) := by
    unfold zzem
    simp only [e2]
  show zEx _ _ _ _ _ _ _ _ _ (zzem (zX0 L xs) (b, 97, kl, ml))
  rw [e3]
  exact g
