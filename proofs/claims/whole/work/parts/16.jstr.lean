/-! ===== the JDK's texts: length and charAt of the class's own constants ===== -/
def zyL : MethodName := ⟨"java/lang/String", "length", "()I"⟩
theorem zw_yL_code : Cond.code zyL prog_16_method_54_code 1 (some .int) ∈ zWS := zWS_of (i := 517) (by decide +kernel)
def zyC : MethodName := ⟨"java/lang/String", "coder", "()B"⟩
theorem zw_yC_code : Cond.code zyC prog_16_method_152_code 1 (some .byte) ∈ zWS := zWS_of (i := 521) (by decide +kernel)
theorem zw_yC_inst : Cond.instanceMethod zyC ∈ zWS := zWS_of (i := 519) (by decide +kernel)
theorem zw_yC_sel : Cond.selects "java/lang/String" zyC zyC ∈ zWS := zWS_of (i := 520) (by decide +kernel)
def zyA : MethodName := ⟨"java/lang/String", "charAt", "(I)C"⟩
theorem zw_yA_code : Cond.code zyA prog_16_method_56_code 2 (some .char) ∈ zWS := zWS_of (i := 527) (by decide +kernel)
def zyI : MethodName := ⟨"java/lang/String", "isLatin1", "()Z"⟩
theorem zw_yI_code : Cond.code zyI prog_16_method_154_code 1 (some .boolean) ∈ zWS := zWS_of (i := 531) (by decide +kernel)
theorem zw_yI_inst : Cond.instanceMethod zyI ∈ zWS := zWS_of (i := 529) (by decide +kernel)
theorem zw_yI_sel : Cond.selects "java/lang/String" zyI zyI ∈ zWS := zWS_of (i := 530) (by decide +kernel)
def zyT : MethodName := ⟨"java/lang/StringLatin1", "charAt", "([BI)C"⟩
theorem zw_yT_code : Cond.code zyT prog_17_method_2_code 2 (some .char) ∈ zWS := zWS_of (i := 534) (by decide +kernel)
theorem zw_yT_st : Cond.static zyT ∈ zWS := zWS_of (i := 533) (by decide +kernel)
def zyK : MethodName := ⟨"java/lang/String", "checkIndex", "(II)V"⟩
theorem zw_yK_code : Cond.code zyK prog_16_method_155_code 2 none ∈ zWS := zWS_of (i := 537) (by decide +kernel)
theorem zw_yK_st : Cond.static zyK ∈ zWS := zWS_of (i := 536) (by decide +kernel)
def zyP : MethodName := ⟨"jdk/internal/util/Preconditions", "checkIndex", "(IILjava/util/function/BiFunction;)I"⟩
theorem zw_yP_code : Cond.code zyP prog_21_method_11_code 3 (some .int) ∈ zWS := zWS_of (i := 542) (by decide +kernel)
theorem zw_yP_st : Cond.static zyP ∈ zWS := zWS_of (i := 541) (by decide +kernel)
theorem zw_L335 : Cond.methodLink "java/lang/String" 335 zyC ∈ zWS := zWS_of (i := 518) (by decide +kernel)
theorem zw_L492 : Cond.methodLink "java/lang/String" 492 zyI ∈ zWS := zWS_of (i := 528) (by decide +kernel)
theorem zw_L495 : Cond.methodLink "java/lang/String" 495 zyT ∈ zWS := zWS_of (i := 532) (by decide +kernel)
theorem zw_L9 : Cond.methodLink "java/lang/StringLatin1" 9 zyK ∈ zWS := zWS_of (i := 535) (by decide +kernel)
theorem zw_L1059 : Cond.methodLink "java/lang/String" 1059 zyP ∈ zWS := zWS_of (i := 540) (by decide +kernel)
theorem zw_F38 : Cond.fieldLink "java/lang/String" 38 "java/lang/String" "COMPACT_STRINGS" "Z" ∈ zWS := zWS_of (i := 522) (by decide +kernel)
theorem zw_F9 : Cond.fieldLink "java/lang/String" 9 "java/lang/String" "value" "[B" ∈ zWS := zWS_of (i := 1519) (by decide +kernel)
theorem zw_F15 : Cond.fieldLink "java/lang/String" 15 "java/lang/String" "coder" "B" ∈ zWS := zWS_of (i := 1520) (by decide +kernel)
theorem zw_F1053 : Cond.fieldLink "java/lang/String" 1053 "jdk/internal/util/Preconditions" "SIOOBE_FORMATTER" "Ljava/util/function/BiFunction;" ∈ zWS := zWS_of (i := 538) (by decide +kernel)
theorem zw_iL : Cond.initialized "java/lang/StringLatin1" ∈ zWS := zWS_of (i := 16) (by decide +kernel)
theorem zw_iP : Cond.initialized "jdk/internal/util/Preconditions" ∈ zWS := zWS_of (i := 17) (by decide +kernel)
def zKc (r : Option Value) : Array Value → State → Outcome → State → Prop := fun _ st o t => o = .returned r ∧ t.heap = st.heap
def zRk (k : Nat) : Room := { frames := k, cells := 0, slots := 0, locals := 60 * k }
theorem zgoodC {y : MethodName} {b : ByteArray} {n : Nat} {r : Option FieldType} (h : Cond.code y b n r ∈ zWS) : GoodIn zWS (.code y b n r :: zWS) := fun w hw => (List.mem_cons.mp hw).elim (fun e => by rw [e]; exact zgood _ h) (zgood w)
theorem zstl {k : Nat} {t : List Int32} (h : zstb[k]? = some t) : t.length < 2 ^ 31 := by
  have h1 : zstb.all (fun t => decide (t.length < 2 ^ 31)) = true := by decide
  simpa using List.all_eq_true.mp h1 t (List.mem_of_getElem? h)
/-- the bytes of the constants are plain letters -/
theorem zstc {k : Nat} {t : List Int32} (h : zstb[k]? = some t) (j : Nat) (hj : j < t.length) : ((t.getD j 0 &&& 255).toUInt32 % 65536).toInt32 = t.getD j 0 ∧ narrow .char (.int (t.getD j 0)) = .int (t.getD j 0) := by
  have h1 : zstb.all (fun t => t.all (fun x => decide (((x &&& 255).toUInt32 % 65536).toInt32 = x ∧ narrow .char (.int x) = .int x))) = true := by decide +kernel
  have h2 := List.all_eq_true.mp h1 t (List.mem_of_getElem? h)
  have h3 := List.all_eq_true.mp h2 (t.getD j 0) (by rw [List.getD_eq_getElem?_getD, List.getElem?_eq_getElem hj]; exact List.getElem_mem hj)
  simpa using h3
section ZJ
variable {p : Program} {l : Launch} {e : Env} {R : Room} {s : State} {m : MethodId} {args : Array Value} {below : List Frame} {meth : Method} {c : Code} {H : Heap} {locs : List Loc} {cells slots : Nat} {Q : State → Prop} {D : va_G} {dA : Nat → ClassId} {base : Nat} {xq adV : Nat → Nat} {H0 : Heap} {X : zX} {S : zS}
theorem zcallK {r : Option Value} {rest st0 : List Value} {pc : Nat} {ls : Array Slot} {a : Array Value} (hr : CallRun p l e R s m args below meth c H locs cells slots 0 0 (F0 m pc ls st0) rest (zKc r a) (fun _ => False)) (kk : W p l e R s m args below meth c H locs cells slots Q (F0 m (pc + 3) ls (r.toList ++ rest))) : W p l e R s m args below meth c H locs cells slots Q (F0 m pc ls st0) := by
  intro T hT XS
  obtain ⟨v, st₀, t, T', L, h0, XS', hL, e1, ⟨h2, h3⟩, stp⟩ := hr T hT XS
  have hv : v = r := by simpa using h2
  subst hv
  have hL0 : L = [] := by
    cases L with
    | nil => rfl
    | cons x xs => exact absurd (hL x List.mem_cons_self) id
  subst hL0
  obtain ⟨t2, b1, b2⟩ := kk T' (by rw [e1, h3, h0]) (by simpa using XS')
  exact ⟨t2, stp t2 b1, b2⟩
/-- checkIndex of Preconditions, within -/
theorem zc_yP (i n : Int32) (f : Option Nat) (h0 : ¬ i < 0) (h1 : i < n) : Met l zyP (.code zyP prog_21_method_11_code 3 (some .int) :: zWS) (zRk 0) (va_Pc [.int i, .int n, va_rf f] (fun _ => True)) (zKc (some (.int i))) 0 0 (fun _ => False) := by
  refine Met.ofW (cc := prog_21_method_11_code) (maxL := 3) (ret := some .int) (by decide) rfl ?_
  intro p e s m args below meth c s₁ B hml hv
  obtain ⟨rfl, -⟩ := hv
  have hx := B.exec
  have hb := B.bytes
  have hl := lv_entry [.int i, .int n, va_rf f] (n := 3) (by cases f <;> exact Nat.le_of_ble_eq_true rfl)
  rw [lg_entry_eq]
  generalize (lg_sl [.int i, .int n, va_rf f] ++ List.replicate (3 - (lg_sl [.int i, .int n, va_rf f]).length) Slot.unset).toArray = ls at hl ⊢
  refine lv_iload_n hx hb (k := 0) (by decide +kernel) rfl (lv_at hl 0 rfl) ?_
  refine lv_if_lt (tgt := 9) (off := 8) hx hb (by decide +kernel) (by decide) (fun h => absurd h h0) (fun _ => ?_)
  refine lv_iload_n hx hb (k := 0) (by decide +kernel) rfl (lv_at hl 0 rfl) ?_
  refine lv_iload_n hx hb (k := 1) (by decide +kernel) rfl (lv_at hl 1 rfl) ?_
  refine lv_icmp_lt (tgt := 16) (off := 10) hx hb (by decide +kernel) (by decide) (fun _ => ?_) (fun h => absurd h1 h)
  refine lv_iload_n hx hb (k := 0) (by decide +kernel) rfl (lv_at hl 0 rfl) ?_
  exact W.iret hx hb B.returns (fun t ht _ => ⟨rfl, ht⟩) (fun q hq => by cases hq) (by decide +kernel) B.notSynchronized
theorem zc_yK (hbase : H0.size = base) (i n : Int32) (h0 : ¬ i < 0) (h1 : i < n) : Met l zyK (.code zyK prog_16_method_155_code 2 none :: zWS) (zRk 1) (va_Pc [.int i, .int n] (zPre D dA base xq adV H0 X S)) (zKc none) 0 0 (fun _ => False) := by
  refine Met.ofW (cc := prog_16_method_155_code) (maxL := 2) (ret := none) (by decide) rfl ?_
  intro p e s m args below meth c s₁ B hml hv
  obtain ⟨rfl, hX, hWd, hK, hXt⟩ := hv
  have hx := B.exec
  have hb := B.bytes
  have hts0 := atoms_spec (ws := .code zyK prog_16_method_155_code 2 none :: zWS) B.pre
  have hts : ∀ w ∈ zWS, w.before ([.int i, .int n] : List Value).toArray s = true := fun w hw => hts0 w (List.mem_cons_of_mem _ hw)
  have hown : s.vm.findClass "java/lang/String" = some m.cls := findClass_of_methodNamed B.named
  have hl := lv_entry [.int i, .int n] (n := 2) (Nat.le_of_ble_eq_true rfl)
  rw [lg_entry_eq]
  generalize (lg_sl [.int i, .int n] ++ List.replicate (2 - (lg_sl [.int i, .int n]).length) Slot.unset).toArray = ls at hl ⊢
  have hS : va_S (zA base) s.heap s.heap [] := va_S.rf
  have hZ : ∃ f : Option Nat, va_Z "jdk/internal/util/Preconditions" "SIOOBE_FORMATTER" "Ljava/util/function/BiFunction;" (va_rf f) (zA base) s s.heap := by
    rcases hXt.2.2.2.2.2.2.2 with h | ⟨t, h⟩
    · exact ⟨none, h.kept (fun a ha _ => hWd.2.1 a (by omega))⟩
    · exact ⟨some t, h.kept (fun a ha _ => hWd.2.1 a (by omega))⟩
  obtain ⟨f, hZ⟩ := hZ
  refine lv_iload_n hx hb (k := 0) (by decide +kernel) rfl (lv_at hl 0 rfl) ?_
  refine lv_iload_n hx hb (k := 1) (by decide +kernel) rfl (lv_at hl 1 rfl) ?_
  refine va_gets (index := 1053) hx hb hZ hS hown (hts _ zw_F1053) (fun _ h => h) (by decide +kernel) ?_
  refine zcallK (W.runS (Ts := zWS) (n := 3) (index := 1059) (As := [.int i, .int n, va_rf f]) (rest := []) ⟨hx, hb, hml, hown, hts⟩ (zc_yP i n f h0 h1) ⟨callB_of 3 hts (zgoodC zw_yP_code) rfl rfl rfl (hts _ zw_iP) (hts _ zw_L1059) ⟨by decide, by decide, by decide +kernel⟩ ⟨Nat.le_refl _, by decide⟩, hts _ zw_yP_st⟩ ⟨fun _ _ _ _ h => h, fun U hU hW => ⟨rfl, trivial⟩⟩ rfl rfl hl.1 (by cases f <;> rfl) (lv_room (Nat.le_of_ble_eq_true rfl)) (show decode prog_16_method_155_code 5 = _ by decide +kernel) ⟨Nat.le_refl _, Nat.le_refl _⟩) ?_
  refine lv_pop hx hb (va := .int i) (by decide +kernel) rfl ?_
  exact W.vret hx hb B.returns (fun t ht _ => ⟨rfl, ht⟩) (fun q hq => by cases hq) (by decide +kernel) B.notSynchronized
/-- StringLatin1.charAt of a constant's bytes -/
theorem zc_yT (hbase : H0.size = base) {k : Nat} {t : List Int32} (hk : zstb[k]? = some t) (i : Int32) (h : vp_in i t.length) : Met l zyT (.code zyT prog_17_method_2_code 2 (some .char) :: zWS) (zRk 2) (va_Pc [.ref (adV k), .int i] (zPre D dA base xq adV H0 X S)) (zKc (some (.int (t.getD i.toNatClampNeg 0)))) 0 0 (fun _ => False) := by
  refine Met.ofW (cc := prog_17_method_2_code) (maxL := 2) (ret := some .char) (by decide) rfl ?_
  intro p e s m args below meth c s₁ B hml hv
  obtain ⟨rfl, hX, hWd, hK, hXt⟩ := hv
  have hx := B.exec
  have hb := B.bytes
  have hts0 := atoms_spec (ws := .code zyT prog_17_method_2_code 2 (some .char) :: zWS) B.pre
  have hts : ∀ w ∈ zWS, w.before ([.ref (adV k), .int i] : List Value).toArray s = true := fun w hw => hts0 w (List.mem_cons_of_mem _ hw)
  have hown : s.vm.findClass "java/lang/StringLatin1" = some m.cls := findClass_of_methodNamed B.named
  have hl := lv_entry [.ref (adV k), .int i] (n := 2) (Nat.le_of_ble_eq_true rfl)
  rw [lg_entry_eq]
  generalize (lg_sl [.ref (adV k), .int i] ++ List.replicate (2 - (lg_sl [.ref (adV k), .int i]).length) Slot.unset).toArray = ls at hl ⊢
  have hS : va_S (zA base) s.heap s.heap [] := va_S.rf
  have hk15 : k < 15 := (List.getElem?_eq_some_iff.mp hk).1
  have hT0 := ((hXt.2.2.2.2.2.1.kept (H1 := s.heap) (fun a ha _ => hWd.2.1 a (by omega))).1 k hk15).2.2.2
  have hlen : (zstb.map List.length).getD k 0 = t.length := by simp [List.getD, hk]
  have hbyt : zstb.getD k [] = t := by simp [List.getD, hk]
  rw [hlen, hbyt] at hT0
  obtain ⟨j, hj, rfl⟩ := vp_in_of h (zstl hk)
  have hjs : (nI j).toNatClampNeg = j := nI_clamp (by have := zstl hk; omega)
  have hch := zstc hk j hj
  rw [hjs]
  refine lv_iload_n hx hb (k := 1) (by decide +kernel) rfl (lv_at hl 1 rfl) ?_
  refine lv_aload_n hx hb (k := 0) (by decide +kernel) rfl (lv_at hl 0 rfl) ?_
  refine va_tlen hx hb hT0 hS rfl (by decide +kernel) ?_
  have hlt : nI j < Int32.ofNat t.length := nI_lt hj (zstl hk)
  refine zcallK (W.runS (Ts := zWS) (n := 2) (index := 9) (As := [.int (nI j), .int (Int32.ofNat t.length)]) (rest := []) ⟨hx, hb, hml, hown, hts⟩ (zc_yK hbase (nI j) (Int32.ofNat t.length) (nI_pos (by have := zstl hk; omega)) hlt) ⟨callB_of 2 hts (zgoodC zw_yK_code) rfl rfl rfl (hts _ zstr_6) (hts _ zw_L9) ⟨by decide, by decide, by decide +kernel⟩ ⟨Nat.le_refl _, by decide⟩, hts _ zw_yK_st⟩ ⟨zPre_blind, fun U hU hW => ⟨rfl, hX, by rw [hU]; exact hWd, va_K.moved hW.alike hK, zXt_warm hW hXt⟩⟩ rfl rfl hl.1 rfl (lv_room (Nat.le_of_ble_eq_true rfl)) (show decode prog_17_method_2_code 3 = _ by decide +kernel) ⟨Nat.le_refl _, Nat.le_refl _⟩) ?_
  refine lv_aload_n hx hb (k := 0) (show decode prog_17_method_2_code 6 = _ by decide +kernel) rfl (lv_at hl 0 rfl) ?_
  refine lv_iload_n hx hb (k := 1) (by decide +kernel) rfl (lv_at hl 1 rfl) ?_
  refine va_tb hx hb hT0 hS (vp_in_nI hj (zstl hk)) (v := .int (t.getD j 0)) (by rw [hjs]) (by decide +kernel) ?_
  refine lv_sipush (v := 255) (n := 255) hx hb (by decide +kernel) (by decide) ?_
  refine lv_iand hx hb (by decide +kernel) ?_
  refine lv_i2c (v := t.getD j 0) hx hb (by decide +kernel) hch.1 ?_
  exact W.zret hx hb B.returns hch.2 (fun t ht _ => ⟨rfl, ht⟩) (fun q hq => by cases hq) (by decide +kernel) B.notSynchronized
/-- coder(): 0 -/
theorem zc_yC (hbase : H0.size = base) {k : Nat} (hk : k < 15) : Met l zyC (.code zyC prog_16_method_152_code 1 (some .byte) :: zWS) (zRk 0) (va_Pc [.ref (zq base xq (2000 + k))] (zPre D dA base xq adV H0 X S)) (zKc (some (.int 0))) 0 0 (fun _ => False) := by
  refine Met.ofW (cc := prog_16_method_152_code) (maxL := 1) (ret := some .byte) (by decide) rfl ?_
  intro p e s m args below meth c s₁ B hml hv
  obtain ⟨rfl, hX, hWd, hK, hXt⟩ := hv
  have hx := B.exec
  have hb := B.bytes
  have hts0 := atoms_spec (ws := .code zyC prog_16_method_152_code 1 (some .byte) :: zWS) B.pre
  have hts : ∀ w ∈ zWS, w.before ([.ref (zq base xq (2000 + k))] : List Value).toArray s = true := fun w hw => hts0 w (List.mem_cons_of_mem _ hw)
  have hown : s.vm.findClass "java/lang/String" = some m.cls := findClass_of_methodNamed B.named
  have hl := lv_entry [.ref (zq base xq (2000 + k))] (n := 1) (Nat.le_of_ble_eq_true rfl)
  rw [lg_entry_eq]
  generalize (lg_sl [.ref (zq base xq (2000 + k))] ++ List.replicate (1 - (lg_sl [.ref (zq base xq (2000 + k))]).length) Slot.unset).toArray = ls at hl ⊢
  have hS : va_S (zA base) s.heap s.heap [] := va_S.rf
  have hZ := hXt.2.2.2.2.2.2.1.kept (H1 := s.heap) (fun a ha _ => hWd.2.1 a (by omega))
  have hE := ((hXt.2.2.2.2.2.1.kept (H1 := s.heap) (fun a ha _ => hWd.2.1 a (by omega))).1 k hk).2.1
  refine va_gets (index := 38) hx hb hZ hS hown (hts _ zw_F38) (fun _ h => h) (by decide +kernel) ?_
  refine lv_if_eq (tgt := 13) (off := 10) hx hb (by decide +kernel) (by decide) (fun h => absurd h (by decide)) (fun _ => ?_)
  refine lv_aload_n hx hb (k := 0) (by decide +kernel) rfl (lv_at hl 0 rfl) ?_
  refine vk_getf (index := 15) hx hb hE hS hown (hts _ zw_F15) (fun _ h => h) (by decide +kernel) ?_
  refine lv_goto (tgt := 14) (off := 4) hx hb (by decide +kernel) (by decide) ?_
  exact W.zret hx hb B.returns rfl (fun t ht _ => ⟨rfl, ht⟩) (fun q hq => by cases hq) (by decide +kernel) B.notSynchronized
/-- isLatin1(): 1 -/
theorem zc_yI (hbase : H0.size = base) {k : Nat} (hk : k < 15) : Met l zyI (.code zyI prog_16_method_154_code 1 (some .boolean) :: zWS) (zRk 0) (va_Pc [.ref (zq base xq (2000 + k))] (zPre D dA base xq adV H0 X S)) (zKc (some (.int 1))) 0 0 (fun _ => False) := by
  refine Met.ofW (cc := prog_16_method_154_code) (maxL := 1) (ret := some .boolean) (by decide) rfl ?_
  intro p e s m args below meth c s₁ B hml hv
  obtain ⟨rfl, hX, hWd, hK, hXt⟩ := hv
  have hx := B.exec
  have hb := B.bytes
  have hts0 := atoms_spec (ws := .code zyI prog_16_method_154_code 1 (some .boolean) :: zWS) B.pre
  have hts : ∀ w ∈ zWS, w.before ([.ref (zq base xq (2000 + k))] : List Value).toArray s = true := fun w hw => hts0 w (List.mem_cons_of_mem _ hw)
  have hown : s.vm.findClass "java/lang/String" = some m.cls := findClass_of_methodNamed B.named
  have hl := lv_entry [.ref (zq base xq (2000 + k))] (n := 1) (Nat.le_of_ble_eq_true rfl)
  rw [lg_entry_eq]
  generalize (lg_sl [.ref (zq base xq (2000 + k))] ++ List.replicate (1 - (lg_sl [.ref (zq base xq (2000 + k))]).length) Slot.unset).toArray = ls at hl ⊢
  have hS : va_S (zA base) s.heap s.heap [] := va_S.rf
  have hZ := hXt.2.2.2.2.2.2.1.kept (H1 := s.heap) (fun a ha _ => hWd.2.1 a (by omega))
  have hE := ((hXt.2.2.2.2.2.1.kept (H1 := s.heap) (fun a ha _ => hWd.2.1 a (by omega))).1 k hk).2.1
  refine va_gets (index := 38) hx hb hZ hS hown (hts _ zw_F38) (fun _ h => h) (by decide +kernel) ?_
  refine lv_if_eq (tgt := 17) (off := 14) hx hb (by decide +kernel) (by decide) (fun h => absurd h (by decide)) (fun _ => ?_)
  refine lv_aload_n hx hb (k := 0) (by decide +kernel) rfl (lv_at hl 0 rfl) ?_
  refine vk_getf (index := 15) hx hb hE hS hown (hts _ zw_F15) (fun _ h => h) (by decide +kernel) ?_
  refine lv_if_ne (tgt := 17) (off := 7) hx hb (by decide +kernel) (by decide) (fun h => absurd rfl h) (fun _ => ?_)
  refine lv_iconst (v := 1) (n := 1) hx hb (by decide +kernel) (by decide) ?_
  refine lv_goto (tgt := 18) (off := 4) hx hb (by decide +kernel) (by decide) ?_
  exact W.zret hx hb B.returns rfl (fun t ht _ => ⟨rfl, ht⟩) (fun q hq => by cases hq) (by decide +kernel) B.notSynchronized
end ZJ

