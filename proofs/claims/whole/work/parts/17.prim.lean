/-! ===== the texts' two methods, as calls of the pure machine ===== -/
section ZPR
variable {l : Launch} {D : va_G} {dA : Nat → ClassId} {base : Nat} {xq adV : Nat → Nat} {H0 : Heap} {X : zX} {S : zS} {F : Option Value → zS → Prop}
theorem zam300 : zam 300 = (0, 0) := by decide +kernel
theorem zam301 : zam 301 = (0, 0) := by decide +kernel
theorem zrmle {d : Nat} : 60 ≤ 60 * (d + 1) := by omega
theorem zm_len (hbase : H0.size = base) (d k : Nat) {t : List Int32} (hk : zstb[k]? = some t) (hF : F (some (.int (Int32.ofNat t.length))) S) : zMt l D dA base xq adV H0 X (d + 1) 300 [.ref (2000 + k)] S F := by
  unfold zMt zws zcw
  rw [zcv300, zam300]
  refine Met.ofW (cc := prog_16_method_54_code) (maxL := 1) (ret := some .int) (by decide) rfl ?_
  intro p e s m args below meth c s₁ B hml hv
  obtain ⟨rfl, hX, hWd, hK, hXt⟩ := hv
  have hx := B.exec
  have hb := B.bytes
  have hts0 := atoms_spec (ws := .code ⟨"java/lang/String", "length", "()I"⟩ prog_16_method_54_code 1 (some .int) :: zWS) B.pre
  have hts : ∀ w ∈ zWS, w.before ([.ref (zq base xq (2000 + k))] : List Value).toArray s = true := fun w hw => hts0 w (List.mem_cons_of_mem _ hw)
  have hown : s.vm.findClass "java/lang/String" = some m.cls := findClass_of_methodNamed B.named
  show W p l e (zrm (d + 1) 300) s m ([.ref (zq base xq (2000 + k))] : List Value).toArray below meth c s.heap [] 0 0 _ (entryFrame m ([.ref (zq base xq (2000 + k))] : List Value).toArray 1)
  have hl := lv_entry [.ref (zq base xq (2000 + k))] (n := 1) (Nat.le_of_ble_eq_true rfl)
  rw [lg_entry_eq]
  generalize (lg_sl [.ref (zq base xq (2000 + k))] ++ List.replicate (1 - (lg_sl [.ref (zq base xq (2000 + k))]).length) Slot.unset).toArray = ls at hl ⊢
  have hS : va_S (zA base) s.heap s.heap [] := va_S.rf
  have hk15 : k < 15 := (List.getElem?_eq_some_iff.mp hk).1
  have hV := hXt.2.2.2.2.2.1.kept (H1 := s.heap) (fun a ha _ => hWd.2.1 a (by omega))
  obtain ⟨-, -, hE, hT0⟩ := hV.1 k hk15
  have hlen : (zstb.map List.length).getD k 0 = t.length := by simp [List.getD, hk]
  rw [hlen] at hT0
  refine lv_aload_n hx hb (k := 0) (by decide +kernel) rfl (lv_at hl 0 rfl) ?_
  refine vk_getf (index := 9) hx hb hE hS hown (hts _ zw_F9) (fun _ h => h) (by decide +kernel) ?_
  refine va_tlen hx hb hT0 hS rfl (by decide +kernel) ?_
  refine lv_aload_n hx hb (k := 0) (by decide +kernel) rfl (lv_at hl 0 rfl) ?_
  refine zcallK (W.runV (Ts := zWS) (n := 0) (index := 335) (C := "java/lang/String") (As := []) (rest := [.int (Int32.ofNat t.length)]) ⟨hx, hb, hml, hown, hts⟩ (zc_yC hbase hk15) ⟨callB_of 0 hts (zgoodC zw_yC_code) rfl rfl rfl (hts _ zstr_6) (hts _ zw_L335) ⟨by decide, by decide, by decide +kernel⟩ ⟨Nat.succ_le_succ (Nat.zero_le _), by show 8 + (1 + 11) + 60 * 0 ≤ 60 * (d + 1); omega⟩, hts _ zw_yC_inst, hts _ zw_yC_sel⟩ ⟨zPre_blind, vk_recv hV hk15 hS, fun U hU hW => ⟨rfl, hX, by rw [hU]; exact hWd, va_K.moved hW.alike hK, zXt_warm hW hXt⟩⟩ rfl rfl hl.1 rfl (lv_room (Nat.le_of_ble_eq_true rfl)) (show decode prog_16_method_54_code 6 = _ by decide +kernel) ⟨Nat.zero_le _, Nat.zero_le _⟩) ?_
  refine lv_ishr hx hb (show decode prog_16_method_54_code 9 = _ by decide +kernel) ?_
  rw [sb_shr0]
  exact W.iret hx hb B.returns (fun u hu _ => ⟨some (.int (Int32.ofNat t.length)), S, rfl, hF, hX, by rw [hu]; exact hWd, by rw [hu]; exact Nat.le_refl _⟩) (fun q hq => by cases hq) (by decide +kernel) B.notSynchronized
theorem zm_chr (hbase : H0.size = base) (d k : Nat) {t : List Int32} (hk : zstb[k]? = some t) (i : Int32) (hi : vp_in i t.length) (hF : F (some (.int (t.getD i.toNatClampNeg 0))) S) (hd : 2 ≤ d) : zMt l D dA base xq adV H0 X (d + 1) 301 [.ref (2000 + k), .int i] S F := by
  unfold zMt zws zcw
  rw [zcv301, zam301]
  refine Met.ofW (cc := prog_16_method_56_code) (maxL := 2) (ret := some .char) (by decide) rfl ?_
  intro p e s m args below meth c s₁ B hml hv
  obtain ⟨rfl, hX, hWd, hK, hXt⟩ := hv
  have hx := B.exec
  have hb := B.bytes
  have hts0 := atoms_spec (ws := .code ⟨"java/lang/String", "charAt", "(I)C"⟩ prog_16_method_56_code 2 (some .char) :: zWS) B.pre
  have hts : ∀ w ∈ zWS, w.before ([.ref (zq base xq (2000 + k)), .int i] : List Value).toArray s = true := fun w hw => hts0 w (List.mem_cons_of_mem _ hw)
  have hown : s.vm.findClass "java/lang/String" = some m.cls := findClass_of_methodNamed B.named
  show W p l e (zrm (d + 1) 301) s m ([.ref (zq base xq (2000 + k)), .int i] : List Value).toArray below meth c s.heap [] 0 0 _ (entryFrame m ([.ref (zq base xq (2000 + k)), .int i] : List Value).toArray 2)
  have hl := lv_entry [.ref (zq base xq (2000 + k)), .int i] (n := 2) (Nat.le_of_ble_eq_true rfl)
  rw [lg_entry_eq]
  generalize (lg_sl [.ref (zq base xq (2000 + k)), .int i] ++ List.replicate (2 - (lg_sl [.ref (zq base xq (2000 + k)), .int i]).length) Slot.unset).toArray = ls at hl ⊢
  have hS : va_S (zA base) s.heap s.heap [] := va_S.rf
  have hk15 : k < 15 := (List.getElem?_eq_some_iff.mp hk).1
  have hV := hXt.2.2.2.2.2.1.kept (H1 := s.heap) (fun a ha _ => hWd.2.1 a (by omega))
  obtain ⟨-, -, hE, hT0⟩ := hV.1 k hk15
  obtain ⟨j, hj, rfl⟩ := vp_in_of hi (zstl hk)
  have hjs : (nI j).toNatClampNeg = j := nI_clamp (by have := zstl hk; omega)
  refine lv_aload_n hx hb (k := 0) (by decide +kernel) rfl (lv_at hl 0 rfl) ?_
  refine zcallK (W.runV (Ts := zWS) (n := 0) (index := 492) (C := "java/lang/String") (As := []) (rest := []) ⟨hx, hb, hml, hown, hts⟩ (zc_yI hbase hk15) ⟨callB_of 0 hts (zgoodC zw_yI_code) rfl rfl rfl (hts _ zstr_6) (hts _ zw_L492) ⟨by decide, by decide, by decide +kernel⟩ ⟨Nat.succ_le_succ (Nat.zero_le _), by show 8 + (1 + 11) + 60 * 0 ≤ 60 * (d + 1); omega⟩, hts _ zw_yI_inst, hts _ zw_yI_sel⟩ ⟨zPre_blind, vk_recv hV hk15 hS, fun U hU hW => ⟨rfl, hX, by rw [hU]; exact hWd, va_K.moved hW.alike hK, zXt_warm hW hXt⟩⟩ rfl rfl hl.1 rfl (lv_room (Nat.le_of_ble_eq_true rfl)) (show decode prog_16_method_56_code 1 = _ by decide +kernel) ⟨Nat.zero_le _, Nat.zero_le _⟩) ?_
  refine lv_if_eq (tgt := 16) (off := 12) hx hb (show decode prog_16_method_56_code 4 = _ by decide +kernel) (by decide) (fun h => absurd h (by decide)) (fun _ => ?_)
  refine lv_aload_n hx hb (k := 0) (show decode prog_16_method_56_code 7 = _ by decide +kernel) rfl (lv_at hl 0 rfl) ?_
  refine vk_getf (index := 9) hx hb hE hS hown (hts _ zw_F9) (fun _ h => h) (show decode prog_16_method_56_code 8 = _ by decide +kernel) ?_
  refine lv_iload_n hx hb (k := 1) (show decode prog_16_method_56_code 11 = _ by decide +kernel) rfl (lv_at hl 1 rfl) ?_
  refine zcallK (W.runS (Ts := zWS) (n := 2) (index := 495) (As := [.ref (adV k), .int (nI j)]) (rest := []) ⟨hx, hb, hml, hown, hts⟩ (zc_yT hbase hk (nI j) hi) ⟨callB_of 2 hts (zgoodC zw_yT_code) rfl rfl rfl (hts _ zw_iL) (hts _ zw_L495) ⟨by decide, by decide, by decide +kernel⟩ ⟨by show 2 + 1 ≤ d + 1; omega, by show 8 + (2 + 11) + 60 * 2 ≤ 60 * (d + 1); omega⟩, hts _ zw_yT_st⟩ ⟨zPre_blind, fun U hU hW => ⟨rfl, hX, by rw [hU]; exact hWd, va_K.moved hW.alike hK, zXt_warm hW hXt⟩⟩ rfl rfl hl.1 rfl (lv_room (Nat.le_of_ble_eq_true rfl)) (show decode prog_16_method_56_code 12 = _ by decide +kernel) ⟨Nat.zero_le _, Nat.zero_le _⟩) ?_
  rw [hjs] at hF ⊢
  exact W.zret hx hb B.returns (zstc hk j hj).2 (fun u hu _ => ⟨some (.int (t.getD j 0)), S, rfl, hF, hX, by rw [hu]; exact hWd, by rw [hu]; exact Nat.le_refl _⟩) (fun q hq => by cases hq) (show decode prog_16_method_56_code 15 = _ by decide +kernel) B.notSynchronized
theorem zm_prim (hbase : H0.size = base) (d mi : Nat) (as : List Value) (S : zS) (F : Option Value → zS → Prop) (hmi : mi = 300 ∨ mi = 301) (hd : 2 ≤ d) (h : zprim mi as S F) : zMt l D dA base xq adV H0 X (d + 1) mi as S F := by
  unfold zprim at h
  split at h
  · obtain ⟨t, h1, h2, h3⟩ := h
    rename_i a
    have := zm_len (l := l) (D := D) (dA := dA) (xq := xq) (adV := adV) (X := X) hbase d (a - 2000) h1 h3
    rwa [show 2000 + (a - 2000) = a from Nat.add_sub_of_le h2] at this
  · obtain ⟨t, h1, h2, h3, h4⟩ := h
    rename_i a i
    have := zm_chr (l := l) (D := D) (dA := dA) (xq := xq) (adV := adV) (X := X) hbase d (a - 2000) h1 i h3 h4 hd
    rwa [show 2000 + (a - 2000) = a from Nat.add_sub_of_le h2] at this
  · exact h.elim
theorem zsound (hZ : zAllOk) (hbase : H0.size = base) (d mi : Nat) (as : List Value) (S : zS) (F : Option Value → zS → Prop) (hmi : zmiI mi) (hX : S.1 = X) (hb : S.2.1 = zam mi) (h : zCall d mi as S F) : zMt l D dA base xq adV H0 X d mi as S F :=
  zsnd hZ hbase (fun d mi as S F h1 h2 h3 => zm_prim hbase d mi as S F h1 h2 h3) d mi as S F hmi hX hb h
end ZPR
