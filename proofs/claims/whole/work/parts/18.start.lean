/-! ===== the law's start ===== -/
def R_law : String := "BoatsMoveOnLaw"
def lw_P (b : Addr) (xs : List Int32) (args : Array Value) (s : State) : Prop := args = #[.ref b] ∧ s.IntsAt b xs ∧ xs.length ≤ 3072 ∧ (Jvm.Cond.and given_1 narrow_1).before args s = true
def lw_Q (_ : Array Value) (s : State) (o : Outcome) (t : State) : Prop := o = .returned (some (.int 1)) ∧ Framed s o t [] 600000 7302250
def lw_Z (below : List Frame) (a : Array Value) (s : State) : State → Prop := fun t => ∃ o, t.status = .running ∧ Ended t below o ∧ lw_Q a s o t
def lw_At (p : Program) (s : State) (m : MethodId) (meth : Method) (c : Code) (b L : Nat) (xs : Nat → Int32) : Prop :=
  p.tables.exec = Jvm.exec ∧ c.code = code ∧ meth.sig.returnType = ret ∧ c.maxLocals = 4 ∧ s.vm.findClass R_law = some m.cls ∧ (∀ w ∈ lw_tbl, w.before #[Value.ref b] s = true) ∧ va_X b L xs s s.heap ∧ b < s.heap.size ∧ meth.locks = false ∧ (Jvm.Cond.and given_1 narrow_1).before #[Value.ref b] s = true
def zFlat : List Cond := flatC (Jvm.Cond.and given_1 narrow_1)
def ztm (i : Nat) : Term := .string "BoatsMoveOn$Kind" (zstr.getD i (0, "")).1
def zkn : List Int32 := [7, 7, 1, 1, 1, 4, 8]
set_option maxRecDepth 100000 in
theorem zf_ex : ∀ i, i < 15 → Cond.exactly (ztm i) "java/lang/String" ∈ zFlat := by decide +kernel
set_option maxRecDepth 100000 in
theorem zf_co : ∀ i, i < 15 → Cond.eq (.field (ztm i) "java/lang/String" "coder" "B") (.int 0) ∈ zFlat := by decide +kernel
set_option maxRecDepth 100000 in
theorem zf_ar : ∀ i, i < 15 → Cond.arrayOf (.field (ztm i) "java/lang/String" "value" "[B") .byte ∈ zFlat := by decide +kernel
set_option maxRecDepth 100000 in
theorem zf_le : ∀ i, i < 15 → Cond.eq (.length (.field (ztm i) "java/lang/String" "value" "[B")) (.int (Int32.ofNat ((zstb.map List.length).getD i 0))) ∈ zFlat := by decide +kernel
set_option maxRecDepth 100000 in
theorem zf_el : ∀ i, i < 15 → ∀ j, j < (zstb.map List.length).getD i 0 → Cond.eq (.elem (.field (ztm i) "java/lang/String" "value" "[B") (.int (Int32.ofNat j))) (.int ((zstb.getD i []).getD j 0)) ∈ zFlat := by decide +kernel
def zneP : List Nat := [0, 35, 46, 56, 67, 81, 95, 111, 127, 142, 159, 175, 193, 212, 229, 35, 0, 47, 57, 68, 82, 96, 112, 128, 143, 160, 176, 194, 213, 230, 46, 47, 0, 58, 69, 83, 97, 113, 129, 144, 161, 177, 195, 214, 231, 56, 57, 58, 0, 70, 84, 98, 114, 130, 145, 162, 178, 196, 215, 232, 67, 68, 69, 70, 0, 85, 99, 115, 131, 146, 163, 179, 197, 216, 233, 81, 82, 83, 84, 85, 0, 100, 116, 132, 147, 164, 180, 198, 217, 234, 95, 96, 97, 98, 99, 100, 0, 117, 133, 148, 165, 181, 199, 218, 235, 111, 112, 113, 114, 115, 116, 117, 0, 134, 149, 166, 182, 200, 219, 236, 127, 128, 129, 130, 131, 132, 133, 134, 0, 150, 167, 183, 201, 220, 237, 142, 143, 144, 145, 146, 147, 148, 149, 150, 0, 168, 184, 202, 221, 238, 159, 160, 161, 162, 163, 164, 165, 166, 167, 168, 0, 185, 203, 222, 239, 175, 176, 177, 178, 179, 180, 181, 182, 183, 184, 185, 0, 204, 223, 240, 193, 194, 195, 196, 197, 198, 199, 200, 201, 202, 203, 204, 0, 224, 241, 212, 213, 214, 215, 216, 217, 218, 219, 220, 221, 222, 223, 224, 0, 242, 229, 230, 231, 232, 233, 234, 235, 236, 237, 238, 239, 240, 241, 242, 0]
def zneB (i j : Nat) : Bool := Nat.beq i j || (match zFlat[zneP.getD (15 * i + j) 0]? with
  | some w => decide (w = Cond.not (Cond.eq (ztm i) (ztm j))) || decide (w = Cond.not (Cond.eq (ztm j) (ztm i)))
  | none => false)
theorem zne_0 : (List.range 15).all (zneB 0) = true := by decide +kernel
theorem zne_1 : (List.range 15).all (zneB 1) = true := by decide +kernel
theorem zne_2 : (List.range 15).all (zneB 2) = true := by decide +kernel
theorem zne_3 : (List.range 15).all (zneB 3) = true := by decide +kernel
theorem zne_4 : (List.range 15).all (zneB 4) = true := by decide +kernel
theorem zne_5 : (List.range 15).all (zneB 5) = true := by decide +kernel
theorem zne_6 : (List.range 15).all (zneB 6) = true := by decide +kernel
theorem zne_7 : (List.range 15).all (zneB 7) = true := by decide +kernel
theorem zne_8 : (List.range 15).all (zneB 8) = true := by decide +kernel
theorem zne_9 : (List.range 15).all (zneB 9) = true := by decide +kernel
theorem zne_10 : (List.range 15).all (zneB 10) = true := by decide +kernel
theorem zne_11 : (List.range 15).all (zneB 11) = true := by decide +kernel
theorem zne_12 : (List.range 15).all (zneB 12) = true := by decide +kernel
theorem zne_13 : (List.range 15).all (zneB 13) = true := by decide +kernel
theorem zne_14 : (List.range 15).all (zneB 14) = true := by decide +kernel
theorem zne_all : ∀ i, i < 15 → (List.range 15).all (zneB i) = true := fun i h => match i, h with
  | 0, _ => zne_0
  | 1, _ => zne_1
  | 2, _ => zne_2
  | 3, _ => zne_3
  | 4, _ => zne_4
  | 5, _ => zne_5
  | 6, _ => zne_6
  | 7, _ => zne_7
  | 8, _ => zne_8
  | 9, _ => zne_9
  | 10, _ => zne_10
  | 11, _ => zne_11
  | 12, _ => zne_12
  | 13, _ => zne_13
  | 14, _ => zne_14
  | n + 15, h => absurd h (by omega)
theorem zf_ne : ∀ i, i < 15 → ∀ j, j < 15 → i ≠ j → Cond.not (Cond.eq (ztm i) (ztm j)) ∈ zFlat ∨ Cond.not (Cond.eq (ztm j) (ztm i)) ∈ zFlat := by
  intro i hi j hj hne
  have h := List.all_eq_true.mp (zne_all i hi) j (List.mem_range.mpr hj)
  unfold zneB at h
  rw [Bool.or_eq_true] at h
  rcases h with h | h
  · exact absurd (Nat.eq_of_beq_eq_true h) hne
  · cases hz : zFlat[zneP.getD (15 * i + j) 0]? with
    | none => rw [hz] at h; cases h
    | some w =>
      rw [hz] at h
      simp only [Bool.or_eq_true, decide_eq_true_eq] at h
      rcases h with h | h
      · exact Or.inl (h ▸ List.mem_of_getElem? hz)
      · exact Or.inr (h ▸ List.mem_of_getElem? hz)
theorem zf_sl : ∀ i, i < 15 → (zstb.map List.length).getD i 0 < 2 ^ 31 := by decide +kernel
set_option maxRecDepth 100000 in
theorem zf_k1 : Cond.arrayOf (.static "BoatsMoveOn$Kind" "CLAUSES_OF_NAMES" "[I") .int ∈ zFlat := by decide +kernel
set_option maxRecDepth 100000 in
theorem zf_k2 : Cond.eq (.length (.static "BoatsMoveOn$Kind" "CLAUSES_OF_NAMES" "[I")) (.int (Int32.ofNat 7)) ∈ zFlat := by decide +kernel
set_option maxRecDepth 100000 in
theorem zf_k3 : ∀ j, j < 7 → Cond.eq (.elem (.static "BoatsMoveOn$Kind" "CLAUSES_OF_NAMES" "[I") (.int (Int32.ofNat j))) (.int (zkn.getD j 0)) ∈ zFlat := by decide +kernel
set_option maxRecDepth 100000 in
theorem zf_c : Cond.eq (.static "java/lang/String" "COMPACT_STRINGS" "Z") (.int 1) ∈ zFlat := by decide +kernel
set_option maxRecDepth 100000 in
theorem zf_s : Cond.isRef (.static "jdk/internal/util/Preconditions" "SIOOBE_FORMATTER" "Ljava/util/function/BiFunction;") ∈ zFlat := by decide +kernel
theorem zt_of {i : Nat} {w : Cond} (h : tables_1[i]? = some w) : w ∈ lw_tbl := List.mem_append_right _ (List.mem_of_getElem? h)
theorem zt_k : Cond.laysStatic "BoatsMoveOn$Kind" "CLAUSES_OF_NAMES" "[I" ∈ lw_tbl := zt_of (i := 641) (by decide +kernel)
theorem zt_c : Cond.laysStatic "java/lang/String" "COMPACT_STRINGS" "Z" ∈ lw_tbl := zt_of (i := 523) (by decide +kernel)
theorem zt_s : Cond.laysStatic "jdk/internal/util/Preconditions" "SIOOBE_FORMATTER" "Ljava/util/function/BiFunction;" ∈ lw_tbl := zt_of (i := 539) (by decide +kernel)
theorem zt_ki : Cond.initialized "BoatsMoveOn$Kind" ∈ lw_tbl := zt_of (i := 14) (by decide +kernel)
theorem zt_ci : Cond.initialized "java/lang/String" ∈ lw_tbl := zt_of (i := 15) (by decide +kernel)
theorem zt_si : Cond.initialized "jdk/internal/util/Preconditions" ∈ lw_tbl := zt_of (i := 17) (by decide +kernel)
theorem zt_ao : Cond.arrayOver (.object "BoatsMoveOn$Text") ∈ lw_tbl := zt_of (i := 271) (by decide +kernel)
theorem zt_str : ∀ i, i < 15 → Cond.stringRef "BoatsMoveOn$Kind" (zstr.getD i (0, "")).1 (zstr.getD i (0, "")).2 ∈ lw_tbl := by
  intro i hi
  refine zt_of (i := 495 + i) ?_
  have h : (List.range 15).all (fun i => decide (tables_1[495 + i]? = some (Cond.stringRef "BoatsMoveOn$Kind" (zstr.getD i (0, "")).1 (zstr.getD i (0, "")).2))) = true := by decide +kernel
  simpa using List.all_eq_true.mp h i (List.mem_range.mpr hi)
theorem zcn_law : zcn[12]? = some R_law := rfl
/-- what lies ahead of the law: the script at 1000, the table of names at 1001 -/
def zX0 (L : Nat) (xs : Nat → Int32) : zX := fun a => bif Nat.beq a 1000 then some (L, xs) else bif Nat.beq a 1001 then some (7, fun j => zkn.getD j 0) else none
def zS0 (L : Nat) (xs : Nat → Int32) : zS := (zX0 L xs, (100, 20000), [], fun _ _ => none, fun _ _ => 0, fun _ _ => 0)
theorem zstart {p : Program} {e : Env} {s : State} {m : MethodId} {below : List Frame} {meth : Method} {c : Code} (l : Launch) {b L : Nat} {xs : Nat → Int32} (hZ : zAllOk) (hlaw : zall zc_law (zdcB code) = true) (hpure : zEx (zCall 1000) 12 false 2 zc_law (fun v _ => v = some (.int 1)) 0 [.ref 1000, .null, .null, .null] [] (zS0 L xs)) (C0 : lw_At p s m meth c b L xs) (hret : ∀ (pc : Nat) (H : Heap) (ls : Array Slot), decode code pc = .ok (.ireturn, 1) → W p l e room_1 s m #[Value.ref b] below meth c H [] 600000 7302250 (lw_Z below #[Value.ref b] s) (F0 m pc ls [.int 1])) : W p l e room_1 s m #[Value.ref b] below meth c s.heap [] 0 0 (lw_Z below #[Value.ref b] s) (entryFrame m ([Value.ref b] : List Value).toArray 4) := by
  obtain ⟨hx, hb, hr, hml, hown, hts, hX, hbl, hlocks, hgv⟩ := id C0
  have hfl : ∀ w ∈ zFlat, w.before #[Value.ref b] s = true := flat_of_before _ hgv
  have hA : ∀ a : Nat, a < s.heap.size → ¬ zA s.heap.size a := fun a h => Nat.not_le.mpr h
  have htw : ∀ w ∈ zWS, w.before #[Value.ref b] s = true := fun w hw => hts w (List.mem_filter.mp hw).1
  -- classes
  have hcl : ∀ ci : Nat, ∃ q : ClassId × (Nat → Nat), ∀ r, zcl[ci]? = some r → u_Kn s r.1 r.2.1 r.2.2 q.1 q.2 := by
    intro ci
    cases hr' : zcl[ci]? with
    | none => exact ⟨(0, fun _ => 0), fun r h => by cases h⟩
    | some r =>
      obtain ⟨g, -, -, hin, -, -, hi, -⟩ := zus_of hr'
      obtain ⟨cC, iS, h⟩ := u_known (C := r.1) (T := r.2.1) (N := r.2.2) (n := r.2.2) htw hin (htw _ hi)
      exact ⟨(cC, iS), fun r' h' => by cases h'; exact h⟩
  obtain ⟨qc, hqc⟩ := Classical.axiomOfChoice hcl
  -- arrays
  have harr : ∀ t : Nat, ∃ cA : ClassId, ∀ q, (zTy (fun _ => cA))[t]? = some q → ArrOfT s cA q.2 ∧ va_RA s cA q.2 := by
    intro t
    have prim : ∀ ty : FieldType, Cond.arrayClass ty ∈ zWS → ∃ cA : ClassId, ArrOfT s cA ty ∧ s.vm.findClass ("[" ++ ty.toString) = some cA := by
      intro ty hty
      obtain ⟨cA, k, comp, h1, h2, h3⟩ := Cond.arrayClass_spec (htw _ hty)
      exact ⟨cA, fun n z => ⟨(fun k h => by cases h), k, h2, comp, h3⟩, h1⟩
    match t with
    | 0 => obtain ⟨cA, h1, h2⟩ := prim _ zac_0; exact ⟨cA, fun q h => by cases h; exact ⟨h1, h2⟩⟩
    | 1 => obtain ⟨cA, h1, h2⟩ := prim _ zac_1; exact ⟨cA, fun q h => by cases h; exact ⟨h1, h2⟩⟩
    | 2 => obtain ⟨cA, h1, h2⟩ := prim _ zac_2; exact ⟨cA, fun q h => by cases h; exact ⟨h1, h2⟩⟩
    | 3 => obtain ⟨cA, h1, h2⟩ := prim _ zac_3; exact ⟨cA, fun q h => by cases h; exact ⟨h1, h2⟩⟩
    | 4 =>
      obtain ⟨comp, cA, k, h1, -, h3, h4, h5⟩ := Cond.arrayOver_spec (hts _ zt_ao)
      exact ⟨cA, fun q h => by cases h; exact ⟨fun n z => ⟨(fun k h => by cases h), k, h3, comp, h4⟩, k, comp, h3, h4, h1, h5⟩⟩
    | t + 5 => exact ⟨0, fun q h => by cases h⟩
  obtain ⟨dA, hdA⟩ := Classical.axiomOfChoice harr
  have hK : va_K (fun ci => (qc ci).1, fun ci => (qc ci).2) zcl (zTy dA) s := by
    refine ⟨fun ci r h => hqc ci r h, fun t q h => ?_⟩
    match t, h with
    | 0, h => cases h; exact hdA 0 _ rfl
    | 1, h => cases h; exact hdA 1 _ rfl
    | 2, h => cases h; exact hdA 2 _ rfl
    | 3, h => cases h; exact hdA 3 _ rfl
    | 4, h => cases h; exact hdA 4 _ rfl
    | t + 5, h => cases h
  -- texts
  obtain ⟨adK, adV, hS, hKa⟩ := vk_Sof (args := #[Value.ref b]) (s := s) (N := 15) (tm := ztm) (len := zstb.map List.length) (byt := zstb) (A := zA s.heap.size) zf_sl (fun i h => hfl _ (zf_ex i h)) (fun i h => hfl _ (zf_co i h)) (fun i h => hfl _ (zf_ar i h)) (fun i h => hfl _ (zf_le i h)) (fun i h j hj => hfl _ (zf_el i h j hj)) (fun i j h1 h2 h3 => (zf_ne i h1 j h2 h3).imp (hfl _) (hfl _)) hA
  -- the table of names
  obtain ⟨tk, htk, hTk⟩ := va_Tof (N := 7) (f := fun j => .int (zkn.getD j 0)) (A := zA s.heap.size) (by decide) (hfl _ zf_k1) (va_eqt (hfl _ zf_k2)) (fun j hj => va_eqt (hfl _ (zf_k3 j hj))) hA
  obtain ⟨scr, hc1, hc2, hc3, hc4, hc5⟩ := hX
  let xq : Nat → Nat := fun a => if a = 1000 then b else if a = 1001 then tk else adK (a - 2000)
  have hq0 : zq s.heap.size xq 1000 = b := rfl
  have hq1 : zq s.heap.size xq 1001 = tk := rfl
  have hq2 : ∀ i, zq s.heap.size xq (2000 + i) = adK i := fun i => by
    have e1 : ¬ 2000 + i < 1000 := by omega
    have e2 : ¬ 2000 + i = 1000 := by omega
    have e3 : ¬ 2000 + i = 1001 := by omega
    simp [zq, xq, e1, e2, e3]
  have hXt : zXt (zX0 L xs) (zq s.heap.size xq) adV s.heap.size s.heap s := by
    refine ⟨fun a x ha => ?_, ?_, fun w hw => ?_, hts _ zt_ao, fun i t ht => ?_, ?_, ?_, ?_⟩
    · unfold zX0 at ha
      cases h0 : Nat.beq a 1000
      · rw [h0] at ha
        cases h1 : Nat.beq a 1001
        · rw [h1] at ha; cases ha
        · rw [h1] at ha
          cases ha
          rw [Nat.eq_of_beq_eq_true h1, hq1]
          exact hTk
      · rw [h0] at ha
        cases ha
        rw [Nat.eq_of_beq_eq_true h0, hq0]
        exact ⟨scr, hc1, hc2, hc3, by show L ≤ _; omega, by rw [hc4], hc5, hA b hbl⟩
    · rw [hq1]
      exact va_Zof (hts _ zt_k) (hts _ zt_ki) htk hA
    · obtain ⟨a, i, x, b', rfl⟩ := zNW_form hw
      exact va_Nw.of rfl (hts _ (List.mem_append_right _ (List.mem_filter.mp hw).1))
    · have hi : i < 15 := (List.getElem?_eq_some_iff.mp ht).1
      have e1 : zstr.getD i (0, "") = t := by simp [List.getD, ht]
      rw [hq2]
      have h1 := hts _ (zt_str i hi)
      have h2 := hKa i hi
      unfold ztm at h2
      rw [e1] at h1 h2
      exact vk_R.of h1 h2
    · have e1 : (fun i => zq s.heap.size xq (2000 + i)) = adK := funext hq2
      rw [e1]
      exact hS
    · exact va_Zof (hts _ zt_c) (hts _ zt_ci) (va_eqi (hfl _ zf_c)) hA
    · exact va_Zqof (hts _ zt_s) (hts _ zt_si) (hfl _ zf_s) hA
  have hWd : zWd (fun ci => (qc ci).1, fun ci => (qc ci).2) dA s.heap.size xq s.heap (zS0 L xs) s.heap := ⟨rfl, fun _ _ => rfl, Nat.zero_le _, fun c x h => by cases h⟩
  have BX : zBx p room_1 s m #[Value.ref b] meth c code 12 false (fun ci => (qc ci).1, fun ci => (qc ci).2) dA s.heap.size xq adV s.heap (zX0 L xs) 1000 := ⟨hx, hb, ⟨_, zcn_law, hown⟩, htw, hK, hXt, (fun h => by cases h), rfl, ⟨Nat.le_refl _, fun _ _ => rfl⟩, by decide, by decide⟩
  have hl := lv_entry [Value.ref b] (n := 4) (Nat.le_of_ble_eq_true rfl)
  rw [lg_entry_eq]
  generalize (lg_sl [Value.ref b] ++ List.replicate (4 - (lg_sl [Value.ref b]).length) Slot.unset).toArray = ls at hl ⊢
  have hfin := hpure (zPw p l e room_1 s m #[Value.ref b] below meth c (fun ci => (qc ci).1, fun ci => (qc ci).2) dA s.heap.size xq s.heap (zX0 L xs) (lw_Z below #[Value.ref b] s))
    (zclose hZ BX hlaw ziv_law (fun mi as S F h1 h2 h3 h4 => zsound hZ rfl 1000 mi as S F h1 h2 h3 h4) (fun i v pc ls S ho hd hF => by
      subst hF
      intro H locs cells slots lsR a1 a2 a3 a4 a5 a6 a7 a8
      have hi : i = .ireturn := by
        rcases ho with ⟨h, -⟩ | ⟨-, -, x, h⟩ | ⟨-, -, x, h⟩ | ⟨-, -, h⟩
        · exact h
        · cases h
        · cases h
        · cases h
      subst hi
      refine va_forget a4 ?_
      refine W.widen (k := 600000) (n := 7302250) (by have : room_1.cells = 600000 := rfl; omega) (by have : room_1.slots = 7302250 := rfl; omega) ?_
      exact hret pc H lsR hd))
  exact hfin s.heap [] 0 0 ls rfl hWd (Nat.le_refl _) (fun z hz => by cases hz) (show 0 + 100 ≤ 600000 by decide) (show 0 + 20000 ≤ 7302250 by decide) hml.symm (zLr_entry (as := [.ref 1000]) (n := 4) hl)
