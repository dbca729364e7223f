/-! ===== fields of the classes: their words, types, names apart ===== -/
def zusL : List (List Nat) := [[64, 66, 68, 70, 72, 74, 76, 78, 80, 82, 84, 86, 88, 90, 92, 94, 96], [186, 188, 190, 192, 194, 196, 198, 200, 202], [310, 312, 314, 316, 318, 320, 322, 324], [281, 283, 285], [161, 163, 165], [128, 130, 132, 134, 136, 138, 140, 142, 144, 146, 148], [223, 225, 227, 229, 231, 233, 235, 237, 239], [341, 343, 345, 347, 349, 351], [262, 264, 266, 268], [366, 368, 370, 372, 374, 376, 378, 380, 382, 384, 386, 388], [1055, 1057, 1059, 1061, 1063, 1065, 1067, 1069, 1071, 1073, 1075, 1077, 1079, 1081, 1083, 1085, 1087, 1089, 1091, 1093, 1095, 1097, 1099, 1101, 1103, 1105, 1107, 1109, 1111, 1113, 1115, 1117, 1119, 1121, 1123, 1125, 1127, 1129, 1131, 1133, 1135, 1137, 1139, 1141]]
def zinsL : List (Nat × Nat) := [(30, 2), (169, 5), (289, 11), (273, 10), (152, 4), (101, 3), (206, 6), (328, 12), (243, 7), (22, 1), (1002, 13)]
def zacL : List Nat := [99, 646, 1145, 1144]
def zusB (ci : Nat) : Bool := match zcls ci, zusL[ci]?, zinsL[ci]? with
  | some (r, g), some ps, some q => (List.range r.2.2).all (fun k => (match ps[k]? with
      | some p => zeqW p (u_lay r.1 r.2.1 k)
      | none => false) && decide (parseFieldDescriptor (r.2.1 k).2.2.1 = some (g k)) && (List.range r.2.2).all (fun j => Nat.beq j k || decide ((r.2.1 j).2.1 ≠ (r.2.1 k).2.1)))
      && zeqW q.1 (.instantiable r.1 r.2.2) && zeqW q.2 (.initialized r.1)
  | _, _, _ => false
set_option maxRecDepth 100000 in
theorem zus_ok : (List.range 11).all zusB = true := by decide +kernel
theorem zcl_len : zcl.length = 11 := rfl
theorem zcls_of {ci : Nat} {r : vw_C} (h : zcl[ci]? = some r) : ∃ g, zcls ci = some (r, g) ∧ zGs[ci]? = some g := by
  have hlt : ci < 11 := by rw [← zcl_len]; exact (List.getElem?_eq_some_iff.mp h).1
  have hb := List.all_eq_true.mp zus_ok ci (List.mem_range.mpr hlt)
  unfold zusB at hb
  unfold zcls at hb ⊢
  rw [h] at hb ⊢
  cases hg : zGs[ci]? with
  | none => rw [hg] at hb; simp at hb
  | some g => exact ⟨g, rfl, rfl⟩
theorem zus_of {ci : Nat} {r : vw_C} (h : zcl[ci]? = some r) : ∃ g, zGs[ci]? = some g ∧ zcls ci = some (r, g) ∧ (∀ w ∈ u_ws r.1 r.2.1 r.2.2, w ∈ zWS) ∧ (∀ k, k < r.2.2 → parseFieldDescriptor (r.2.1 k).2.2.1 = some (g k)) ∧ (∀ a, a < r.2.2 → ∀ b, b < r.2.2 → a ≠ b → (r.2.1 a).2.1 ≠ (r.2.1 b).2.1) ∧ Cond.instantiable r.1 r.2.2 ∈ zWS ∧ Cond.initialized r.1 ∈ zWS := by
  have hlt : ci < 11 := by rw [← zcl_len]; exact (List.getElem?_eq_some_iff.mp h).1
  have hb := List.all_eq_true.mp zus_ok ci (List.mem_range.mpr hlt)
  obtain ⟨g, hg, hG⟩ := zcls_of h
  unfold zusB at hb
  rw [hg] at hb
  cases hp : zusL[ci]? with
  | none => rw [hp] at hb; simp at hb
  | some ps =>
    cases hq : zinsL[ci]? with
    | none => rw [hp, hq] at hb; simp at hb
    | some q =>
      rw [hp, hq] at hb
      simp only [Bool.and_eq_true] at hb
      obtain ⟨⟨hb, hi1⟩, hi2⟩ := hb
      have key : ∀ k, k < r.2.2 → u_lay r.1 r.2.1 k ∈ zWS ∧ parseFieldDescriptor (r.2.1 k).2.2.1 = some (g k) ∧ ∀ j, j < r.2.2 → j ≠ k → (r.2.1 j).2.1 ≠ (r.2.1 k).2.1 := by
        intro k hk
        have h1 := List.all_eq_true.mp hb k (List.mem_range.mpr hk)
        simp only [Bool.and_eq_true, decide_eq_true_eq] at h1
        obtain ⟨⟨h1, h2⟩, h3⟩ := h1
        refine ⟨?_, h2, fun j hj hne => ?_⟩
        · cases hpk : ps[k]? with
          | none => rw [hpk] at h1; simp at h1
          | some z => rw [hpk] at h1; exact zWS_of h1
        · have h4 := List.all_eq_true.mp h3 j (List.mem_range.mpr hj)
          simp only [Bool.or_eq_true, decide_eq_true_eq] at h4
          rcases h4 with h4 | h4
          · exact absurd (Nat.eq_of_beq_eq_true h4) hne
          · exact h4
      refine ⟨g, hG, hg, fun w hw => ?_, fun k hk => (key k hk).2.1, fun a ha b hb' hne => (key b hb').2.2 a ha hne, zWS_of hi1, zWS_of hi2⟩
      obtain ⟨k, hk, rfl⟩ := List.mem_map.mp hw
      exact (key k (List.mem_range.mp hk)).1
theorem zac_0 : Cond.arrayClass .int ∈ zWS := zWS_of (i := zacL.getD 0 0) (by decide +kernel)
theorem zac_1 : Cond.arrayClass .byte ∈ zWS := zWS_of (i := zacL.getD 1 0) (by decide +kernel)
theorem zac_2 : Cond.arrayClass .boolean ∈ zWS := zWS_of (i := zacL.getD 2 0) (by decide +kernel)
theorem zac_3 : Cond.arrayClass .long ∈ zWS := zWS_of (i := zacL.getD 3 0) (by decide +kernel)
theorem zobj_0 : Cond.instanceMethod Lib.objectInit ∈ zWS := zWS_of (i := 27) (by decide +kernel)
theorem zobj_1 : Cond.code Lib.objectInit ⟨#[0xb1]⟩ 1 none ∈ zWS := zWS_of (i := 28) (by decide +kernel)
theorem zcp_0 : Cond.native arraycopyName ∈ zWS := zWS_of (i := 984) (by decide +kernel)
theorem zcp_1 : Cond.static arraycopyName ∈ zWS := zWS_of (i := 983) (by decide +kernel)
theorem zcp_2 : Cond.initialized "java/lang/System" ∈ zWS := zWS_of (i := 20) (by decide +kernel)
