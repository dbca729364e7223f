/-! ===== calls ===== -/
def zam (mi : Nat) : Nat × Nat := (zlk zalL mi).getD (0, 0)
def zrm (d mi : Nat) : Room := { frames := d, cells := (zam mi).1, slots := (zam mi).2, locals := 60 * d }
/-- a method's own word, its locals, its answer, its bytes -/
def zcv (mi : Nat) : MethodName × ByteArray × Nat × Option FieldType := match zinfL[mi]?, znamL[mi]? with
  | some (_, _, _, mL, _, _, _), some (y, b, ret, _) => (y, b, mL, ret)
  | _, _ => match mi with
    | 300 => (⟨"java/lang/String", "length", "()I"⟩, prog_16_method_54_code, 1, some .int)
    | _ => (⟨"java/lang/String", "charAt", "(I)C"⟩, prog_16_method_56_code, 2, some .char)
def zcw (mi : Nat) : Cond := .code (zcv mi).1 (zcv mi).2.1 (zcv mi).2.2.1 (zcv mi).2.2.2
def zws (mi : Nat) : List Cond := zcw mi :: zWS
def zMt (l : Launch) (D : va_G) (dA : Nat → ClassId) (base : Nat) (xq adV : Nat → Nat) (H0 : Heap) (X : zX) (d mi : Nat) (as : List Value) (S : zS) (F : Option Value → zS → Prop) : Prop :=
  Met l (zcv mi).1 (zws mi) (zrm d mi) (va_Pc (as.map (zc (zq base xq))) (zPre D dA base xq adV H0 X S)) (zPost D dA base xq H0 X F) (zam mi).1 (zam mi).2 (zA base)
/-- the numbers of methods: those of the table, and the texts' two -/
def zmiI (mi : Nat) : Prop := mi < zinfL.length ∨ mi = 300 ∨ mi = 301
theorem zlens : zinfL.length = znamL.length ∧ zinfL.length = zkwL.length ∧ zinfL.length < 300 := by decide +kernel
theorem zinf_lenN : zinfL.length = 234 := by decide +kernel
theorem zmi_spec (hZ : zAllOk) {mi : Nat} (h : mi < zinfL.length) : ∃ own ini rt mL a b cd y by_ ret row, zinfL[mi]? = some (own, ini, rt, mL, a, b, cd) ∧ znamL[mi]? = some (y, by_, ret, row) ∧ zall cd (zdcB by_) = true ∧ Cond.code y by_ mL ret ∈ zWS ∧ zcn[own]? = some y.cls ∧ plainName y.cls = true ∧ (ini = true → y.name = "<init>") ∧ zrtB rt ret = true ∧ mL ≤ 40 ∧ zam mi = (a, b) ∧ (y.cls ≠ "java/lang/invoke/MethodHandle" ∧ y.cls ≠ "java/lang/invoke/VarHandle") := by
  have hb := hZ mi h
  unfold zmiB at hb
  cases hi : zinfL[mi]? with
  | none => rw [hi] at hb; simp at hb
  | some x =>
    obtain ⟨own, ini, rt, mL, a, b, cd⟩ := x
    cases hn : znamL[mi]? with
    | none => rw [hi, hn] at hb; simp at hb
    | some z =>
      obtain ⟨y, by_, ret, row⟩ := z
      rw [hi, hn] at hb
      simp only [Bool.and_eq_true, decide_eq_true_eq, Bool.or_eq_true, Bool.not_eq_true'] at hb
      obtain ⟨⟨⟨⟨⟨⟨⟨⟨h1, h2⟩, h3⟩, h4⟩, h5⟩, h6⟩, h7⟩, h8⟩, h9⟩ := hb
      refine ⟨own, ini, rt, mL, a, b, cd, y, by_, ret, row, rfl, rfl, h1, zWS_of h2, h3, h4, fun hi1 => ?_, h6, Nat.le_of_ble_eq_true h7, h8, h9⟩
      rcases h5 with h5 | h5
      · rw [hi1] at h5; cases h5
      · exact h5
theorem zcv_at {mi : Nat} {own : Nat} {ini : Bool} {rt mL a b : Nat} {cd : List (List (Nat × zE))} {y : MethodName} {by_ : ByteArray} {ret : Option FieldType} {row : Nat} (h1 : zinfL[mi]? = some (own, ini, rt, mL, a, b, cd)) (h2 : znamL[mi]? = some (y, by_, ret, row)) : zcv mi = (y, by_, mL, ret) := by
  unfold zcv
  rw [h1, h2]
theorem zgood : GoodIn zWS zWS := fun w hw => ⟨hw, good_of_word (List.mem_filter.mp hw).2⟩
theorem zws_good {mi : Nat} (h : zcw mi ∈ zWS) : GoodIn zWS (zws mi) := fun w hw => (List.mem_cons.mp hw).elim (fun e => by rw [e]; exact zgood _ h) (zgood w)
theorem ztake_spec : ∀ (n : Nat) (acc st as r : List Value), ztake n acc st = some (as, r) → as.reverse ++ r = acc.reverse ++ st ∧ as.length = n + acc.length
  | 0, acc, st, as, r, h => by
    simp only [ztake, Option.some.injEq, Prod.mk.injEq] at h
    obtain ⟨rfl, rfl⟩ := h
    exact ⟨rfl, by omega⟩
  | n + 1, acc, [], as, r, h => by simp [ztake] at h
  | n + 1, acc, v :: st, as, r, h => by
    obtain ⟨h1, h2⟩ := ztake_spec n (v :: acc) st as r h
    refine ⟨by rw [h1]; simp, by rw [h2]; simp; omega⟩
theorem zcat_sum (q : Nat → Nat) : ∀ r : List Value, ((r.map (zc q)).map fun v => v.category).sum = zcat r
  | [] => rfl
  | v :: t => by
    simp only [List.map_cons, List.sum_cons, zcat, zcat_zc]
    rw [zcat_sum q t]
theorem zkw_spec {mi : Nat} (h : mi < zinfL.length) {y : MethodName} {by_ : ByteArray} {ret : Option FieldType} {row : Nat} (h2 : znamL[mi]? = some (y, by_, ret, row)) : ∃ st a s i, zkwL[mi]? = some (st, a, s, i) ∧ Cond.initialized y.cls ∈ zWS ∧ (st = true → Cond.static y ∈ zWS) ∧ (st = false → Cond.instanceMethod y ∈ zWS ∧ (¬ y.name = "<init>" → Cond.selects y.cls y y ∈ zWS)) := by
  have hb : zkwB mi = true := by
    have h3 := zinf_lenN
    exact zkw_at (by rw [← h3]; exact h)
  unfold zkwB at hb
  rw [h2] at hb
  cases hk : zkwL[mi]? with
  | none => rw [hk] at hb; simp at hb
  | some x =>
    obtain ⟨st, a, s, i⟩ := x
    rw [hk] at hb
    simp only [Bool.and_eq_true] at hb
    refine ⟨st, a, s, i, rfl, zWS_of hb.1, fun hs => ?_, fun hs => ?_⟩
    · subst hs
      exact zWS_of hb.2
    · subst hs
      simp only [Bool.and_eq_true, Bool.or_eq_true, decide_eq_true_eq] at hb
      refine ⟨zWS_of hb.2.1, fun hn => ?_⟩
      rcases hb.2.2 with h | h
      · exact absurd h hn
      · exact List.mem_filter.mpr ⟨List.mem_of_getElem? h.1, h.2⟩
theorem zml_spec {own idx mi n cl row : Nat} {nb : Bool} (h : zlk2 zmlL own idx = some (mi, n, cl, nb, row)) {C : String} (hC : zcn[own]? = some C) : (nb = true → Cond.methodLinkNest C idx (zmn mi) "BoatsMoveOn" ∈ zNW) ∧ (nb = false → Cond.methodLink C idx (zmn mi) ∈ zWS) ∧ (parseMethodDescriptor (zmn mi).desc).map (fun d => d.parameters.length) = some n ∧ (cl = 99 ∨ zcn[cl]? = some (zmn mi).cls) ∧ (mi < zinfL.length ∨ cl = 99) := by
  have h1 := zall_spec zml_ok h
  unfold zml_chk at h1
  rw [hC] at h1
  simp only [Bool.and_eq_true, Bool.or_eq_true, decide_eq_true_eq] at h1
  obtain ⟨⟨⟨h1, h2⟩, h3⟩, h4⟩ := h1
  refine ⟨fun hn => ?_, fun hn => ?_, h2, ?_, ?_⟩
  · subst hn
    refine List.mem_filter.mpr ⟨List.mem_of_getElem? (by simpa using h1), rfl⟩
  · subst hn
    exact zWS_of h1
  · rcases h3 with h3 | h3
    · exact Or.inl (Nat.eq_of_beq_eq_true h3)
    · exact Or.inr h3
  · rcases h4 with h4 | h4
    · refine Or.inl ?_
      have := Nat.le_of_ble_eq_true h4
      exact this
    · exact Or.inr (Nat.eq_of_beq_eq_true h4)
section ZC
variable {p : Program} {l : Launch} {e : Env} {R : Room} {s : State} {m : MethodId} {args : Array Value} {below : List Frame} {meth : Method} {c : Code} {D : va_G} {dA : Nat → ClassId} {base : Nat} {xq adV : Nat → Nat} {H0 : Heap} {X : zX} {Q : State → Prop} {cc : ByteArray} {pc : Nat} {ls st : List Value} {S : zS}
theorem z_call {H : Heap} {locs : List Loc} {cells slots mc ms : Nat} {lsR : Array Slot} {st0 rest : List Value} {a : Array Value} {F : Option Value → zS → Prop} (hr : va_Run p l e R s m args below meth c H locs cells slots mc ms (F0 m pc lsR st0) rest (zPost D dA base xq H0 X F a) (zA base)) (hsz : s.heap.size ≤ H.size) (hl : ∀ z ∈ locs, base ≤ z.base)
    (kk : ∀ (v : Option Value) (S' : zS) (H1 : Heap) (locs1 : List Loc), F v S' → S'.1 = X → zWd D dA base xq H0 S' H1 → s.heap.size ≤ H1.size → (∀ z ∈ locs1, base ≤ z.base) → W p l e R s m args below meth c H1 locs1 (cells + mc) (slots + ms) Q (F0 m (pc + 3) lsR ((v.map (zc (zq base xq))).toList ++ rest))) : W p l e R s m args below meth c H locs cells slots Q (F0 m pc lsR st0) := by
  intro T hT XS
  obtain ⟨v, st₀, t, T', L, h0, XS', hL, e1, e2, ⟨v', S', hv, hF, hX, hW, hz⟩, stp⟩ := hr T hT XS
  have hv' : v = v'.map (zc (zq base xq)) := by simpa using hv
  subst hv'
  rw [← e1] at hW hz
  rw [h0] at hz
  obtain ⟨t2, b1, b2⟩ := kk v' S' T'.heap (locs ++ L) hF hX hW (Nat.le_trans hsz hz) (fun z hz' => by
    rcases List.mem_append.mp hz' with h | h
    · exact hl z h
    · exact hL z h) T' rfl XS'
  exact ⟨t2, stp t2 b1, b2⟩
/-- behind a call the frame goes on -/
theorem z_after {call : zC} {d mi : Nat} {as r : List Value} (hcall : ∀ mi as S F, zmiI mi → S.1 = X → S.2.1 = zam mi → call mi as S F → zMt l D dA base xq adV H0 X d mi as S F) (hmi : zmiI mi) (h : zcal call (zPw p l e R s m args below meth c D dA base xq H0 X Q) mi as (pc + 3) ls r S) (hX : S.1 = X) :
    ∃ (b0 : Nat × Nat) (F : Option Value → zS → Prop), zMt l D dA base xq adV H0 X d mi as (zbud S b0) F ∧ (zam mi).1 ≤ S.2.1.1 ∧ (zam mi).2 ≤ S.2.1.2 ∧ ∀ v S', F v S' → zPw p l e R s m args below meth c D dA base xq H0 X Q (pc + 3) ls (v.toList ++ r) (zbud S' (S.2.1.1 - (zam mi).1, S.2.1.2 - (zam mi).2)) := by
  unfold zcal at h
  unfold zam
  cases hz : zlk zalL mi with
  | none =>
    rw [hz] at h
    exact ⟨(0, 0), _, hcall mi as (zbud S (0, 0)) _ hmi hX (by unfold zam; rw [hz]; rfl) h, Nat.zero_le _, Nat.zero_le _, fun v S' hF => hF⟩
  | some a =>
    rw [hz] at h
    exact ⟨a, _, hcall mi as (zbud S a) _ hmi hX (by unfold zam; rw [hz]; rfl) h.2.2, h.1, h.2.1, fun v S' hF => hF⟩
theorem zmapO (q : Nat → Nat) (v : Option Value) (r : List Value) : (v.map (zc q)).toList ++ r.map (zc q) = (v.toList ++ r).map (zc q) := by
  cases v <;> rfl
theorem zi_invS (hZ : zAllOk) (hx : p.tables.exec = Jvm.exec) (hb : c.code = cc) {own : Nat} {C : String} (hC : zcn[own]? = some C) (hown : s.vm.findClass C = some m.cls) (hts : ∀ w ∈ zWS, w.before args s = true) (hK : va_K D zcl (zTy dA) s) (hXt : zXt X (zq base xq) adV base H0 s) {d : Nat} (hRf : d + 1 ≤ R.frames) (hRl : 60 * (d + 1) ≤ R.locals) {call : zC} (hcall : ∀ mi as S F, zmiI mi → S.1 = X → S.2.1 = zam mi → call mi as S F → zMt l D dA base xq adV H0 X d mi as S F)
    {idx mi n cl row : Nat} {nb : Bool} (hl : zlk2 zmlL own idx = some (mi, n, cl, nb, row)) (hmi : mi < zinfL.length) (hst : ∃ a b i, zkwL[mi]? = some (true, a, b, i)) {as r : List Value} (htk : ztake n [] st = some (as, r)) (hcat : Nat.ble (zcat r) 8 = true) (hd : decode cc pc = .ok (.invokestatic idx, 3)) (h : zcal call (zPw p l e R s m args below meth c D dA base xq H0 X Q) mi as (pc + 3) ls r S) : zPw p l e R s m args below meth c D dA base xq H0 X Q pc ls st S := by
  intro H locs cells slots lsR a1 a2 a3 a4 a5 a6 a7 a8
  obtain ⟨b0, F, hM, hc1, hc2, hk⟩ := z_after hcall (Or.inl hmi) h a1
  obtain ⟨own', ini', rt', mL, b1, b2, cd', y, by_, ret, row', e1, e2, -, hcode, -, -, -, -, hmL, ham, hy⟩ := zmi_spec hZ hmi
  have hcv := zcv_at e1 e2
  have hmn : zmn mi = y := by unfold zmn; rw [e2]
  obtain ⟨k1, k2, k3, -, -⟩ := zml_spec hl hC
  rw [hmn] at k1 k2 k3
  obtain ⟨stt, a', s', i', w1, w2, w3, -⟩ := zkw_spec hmi e2
  obtain ⟨za, zb, zi, w4⟩ := hst
  cases w1.symm.trans w4
  obtain ⟨t1, t2⟩ := ztake_spec n [] st as r htk
  simp at t1 t2
  unfold zMt at hM
  rw [hcv] at hM
  have hcw : zcw mi = .code y by_ mL ret := by unfold zcw; rw [hcv]
  have hgd : GoodIn zWS (zws mi) := zws_good (by rw [hcw]; exact hcode)
  have hws : zws mi = Cond.code y by_ mL ret :: zWS := by unfold zws; rw [hcw]
  have hRm : (zrm d mi).frames + 1 ≤ R.frames ∧ 8 + (mL + 11) + (zrm d mi).locals ≤ R.locals := ⟨hRf, by show 8 + (mL + 11) + 60 * d ≤ R.locals; omega⟩
  have hpre : PreS s H (va_Pc (as.map (zc (zq base xq))) (zPre D dA base xq adV H0 X (zbud S b0))) (as.map (zc (zq base xq))) := ⟨zPre_blind, fun U hU hW => ⟨rfl, a1, by rw [hU]; exact a2, va_K.moved hW.alike hK, zXt_warm hW hXt⟩⟩
  have hstack : st.map (zc (zq base xq)) = (as.map (zc (zq base xq))).reverse ++ r.map (zc (zq base xq)) := by rw [← t1]; simp
  have hroom := lv_room (m := m) (pc := pc) (ls := lsR) (rest := st.map (zc (zq base xq))) (st := r.map (zc (zq base xq))) (by rw [zcat_sum]; exact Nat.le_of_ble_eq_true hcat)
  have hrun : va_Run p l e R s m args below meth c H locs cells slots (zam mi).1 (zam mi).2 (F0 m pc lsR (st.map (zc (zq base xq)))) (r.map (zc (zq base xq))) (zPost D dA base xq H0 X F (as.map (zc (zq base xq))).toArray) (zA base) := by
    cases nb with
    | true =>
      exact va_runSN (Ts := zWS) ⟨hx, hb, a7.symm, hown, hts⟩ hM ⟨va_cnB n hts hgd hws rfl rfl (hXt.2.2.1 _ (k1 rfl)) (hts _ w2) ⟨hy.1, hy.2, k3⟩ hRm, hts _ (w3 rfl), trivial⟩ hpre rfl (by rw [List.length_map]; exact t2) a8.2.1 hstack hroom hd ⟨by omega, by omega⟩
    | false =>
      exact va_runS (Ts := zWS) ⟨hx, hb, a7.symm, hown, hts⟩ hM ⟨callB_of n hts hgd hws rfl rfl (hts _ w2) (hts _ (k2 rfl)) ⟨hy.1, hy.2, k3⟩ hRm, hts _ (w3 rfl)⟩ hpre rfl (by rw [List.length_map]; exact t2) a8.2.1 hstack hroom hd ⟨by omega, by omega⟩
  refine z_call hrun a3 a4 fun v S' H1 locs1 hF hX' hW' hz' hl' => ?_
  rw [zmapO]
  exact hk v S' hF H1 locs1 _ _ lsR hX' hW' hz' hl' (by simp only [zbud]; omega) (by simp only [zbud]; omega) a7 a8
theorem zi_invV (hZ : zAllOk) (hx : p.tables.exec = Jvm.exec) (hb : c.code = cc) {own : Nat} {C : String} (hC : zcn[own]? = some C) (hown : s.vm.findClass C = some m.cls) (hts : ∀ w ∈ zWS, w.before args s = true) (hK : va_K D zcl (zTy dA) s) (hXt : zXt X (zq base xq) adV base H0 s) {d : Nat} (hRf : d + 1 ≤ R.frames) (hRl : 60 * (d + 1) ≤ R.locals) {call : zC} (hcall : ∀ mi as S F, zmiI mi → S.1 = X → S.2.1 = zam mi → call mi as S F → zMt l D dA base xq adV H0 X d mi as S F)
    {idx mi n cl row : Nat} (hl : zlk2 zmlL own idx = some (mi, n, cl, false, row)) (hmi : mi < zinfL.length) (hst : ∃ a b i, zkwL[mi]? = some (false, a, b, i)) (hni : ¬ (zmn mi).name = "<init>") (hcl : ¬ cl = 99) {as r : List Value} {b : Nat} (htk : ztake n [] st = some (as, .ref b :: r)) (hcat : Nat.ble (zcat r) 8 = true) (hob : zget S.2.2.1 b = some (.inl cl)) (hd : decode cc pc = .ok (.invokevirtual idx, 3)) (h : zcal call (zPw p l e R s m args below meth c D dA base xq H0 X Q) mi (.ref b :: as) (pc + 3) ls r S) : zPw p l e R s m args below meth c D dA base xq H0 X Q pc ls st S := by
  intro H locs cells slots lsR a1 a2 a3 a4 a5 a6 a7 a8
  obtain ⟨b0, F, hM, hc1, hc2, hk⟩ := z_after hcall (Or.inl hmi) h a1
  obtain ⟨own', ini', rt', mL, b1, b2, cd', y, by_, ret, row', e1, e2, -, hcode, -, -, -, -, hmL, ham, hy⟩ := zmi_spec hZ hmi
  have hcv := zcv_at e1 e2
  have hmn : zmn mi = y := by unfold zmn; rw [e2]
  obtain ⟨k1, k2, k3, k4, -⟩ := zml_spec hl hC
  rw [hmn] at k1 k2 k3 k4 hni
  obtain ⟨stt, a', s', i', w1, w2, -, w3⟩ := zkw_spec hmi e2
  obtain ⟨za, zb, zi, w4⟩ := hst
  cases w1.symm.trans w4
  obtain ⟨w5, w6⟩ := w3 rfl
  obtain ⟨t1, t2⟩ := ztake_spec n [] st as _ htk
  simp at t1 t2
  unfold zMt at hM
  rw [hcv] at hM
  have hcw : zcw mi = .code y by_ mL ret := by unfold zcw; rw [hcv]
  have hgd : GoodIn zWS (zws mi) := zws_good (by rw [hcw]; exact hcode)
  have hws : zws mi = Cond.code y by_ mL ret :: zWS := by unfold zws; rw [hcw]
  have hRm : (zrm d mi).frames + 1 ≤ R.frames ∧ 8 + (mL + 11) + (zrm d mi).locals ≤ R.locals := ⟨hRf, by show 8 + (mL + 11) + 60 * d ≤ R.locals; omega⟩
  obtain ⟨rr, hrr, cell, g1, g2, g3, -⟩ := a2.2.2.2 b _ hob
  have hcn : zcn[cl]? = some y.cls := by
    rcases k4 with k4 | k4
    · exact absurd k4 hcl
    · exact k4
  have hci : cl < 11 := by rw [← zcl_len]; exact (List.getElem?_eq_some_iff.mp hrr).1
  have hcls : rr.1 = y.cls := by
    rcases (show cl = 0 ∨ cl = 1 ∨ cl = 2 ∨ cl = 3 ∨ cl = 4 ∨ cl = 5 ∨ cl = 6 ∨ cl = 7 ∨ cl = 8 ∨ cl = 9 ∨ cl = 10 by omega) with e | e | e | e | e | e | e | e | e | e | e <;> subst e <;> cases hrr <;> exact Option.some.inj hcn
  have hrec : ∃ cellB : Cell, H[zq base xq b]? = some cellB ∧ cellB.vm.isStatics = false ∧ s.vm.findClass y.cls = some cellB.cls := ⟨cell, g1, by rw [g3]; rfl, by rw [g2, ← hcls]; exact (hK.1 cl rr hrr).2.1⟩
  have hpre : PreV s H y.cls (zq base xq b) (va_Pc ((Value.ref b :: as).map (zc (zq base xq))) (zPre D dA base xq adV H0 X (zbud S b0))) (as.map (zc (zq base xq))) := ⟨zPre_blind, hrec, fun U hU hW => ⟨rfl, a1, by rw [hU]; exact a2, va_K.moved hW.alike hK, zXt_warm hW hXt⟩⟩
  have hstack : st.map (zc (zq base xq)) = (as.map (zc (zq base xq))).reverse ++ Value.ref (zq base xq b) :: r.map (zc (zq base xq)) := by rw [← t1]; simp [zc]
  have hroom := lv_room (m := m) (pc := pc) (ls := lsR) (rest := st.map (zc (zq base xq))) (st := r.map (zc (zq base xq))) (by rw [zcat_sum]; exact Nat.le_of_ble_eq_true hcat)
  have hrun : va_Run p l e R s m args below meth c H locs cells slots (zam mi).1 (zam mi).2 (F0 m pc lsR (st.map (zc (zq base xq)))) (r.map (zc (zq base xq))) (zPost D dA base xq H0 X F (Value.ref (zq base xq b) :: as.map (zc (zq base xq))).toArray) (zA base) :=
    va_runV (Ts := zWS) ⟨hx, hb, a7.symm, hown, hts⟩ hM ⟨callB_of n hts hgd hws rfl rfl (hts _ w2) (hts _ (k2 rfl)) ⟨hy.1, hy.2, k3⟩ hRm, hts _ w5, hts _ (w6 hni)⟩ hpre rfl (by rw [List.length_map]; exact t2) a8.2.1 hstack hroom hd ⟨by omega, by omega⟩
  refine z_call hrun a3 a4 fun v S' H1 locs1 hF hX' hW' hz' hl' => ?_
  rw [zmapO]
  exact hk v S' hF H1 locs1 _ _ lsR hX' hW' hz' hl' (by simp only [zbud]; omega) (by simp only [zbud]; omega) a7 a8
theorem zi_invI (hZ : zAllOk) (hx : p.tables.exec = Jvm.exec) (hb : c.code = cc) {own : Nat} {C : String} (hC : zcn[own]? = some C) (hown : s.vm.findClass C = some m.cls) (hts : ∀ w ∈ zWS, w.before args s = true) (hK : va_K D zcl (zTy dA) s) (hXt : zXt X (zq base xq) adV base H0 s) {d : Nat} (hRf : d + 1 ≤ R.frames) (hRl : 60 * (d + 1) ≤ R.locals) {call : zC} (hcall : ∀ mi as S F, zmiI mi → S.1 = X → S.2.1 = zam mi → call mi as S F → zMt l D dA base xq adV H0 X d mi as S F)
    {idx mi n cl row : Nat} {nb : Bool} (hl : zlk2 zmlL own idx = some (mi, n, cl, nb, row)) (hmi : mi < zinfL.length) (hst : ∃ a b i, zkwL[mi]? = some (false, a, b, i)) (hni : (zmn mi).name = "<init>") (hret : (zcv mi).2.2.2 = none) {as r : List Value} {b : Nat} (htk : ztake n [] st = some (as, .ref b :: r)) (hcat : Nat.ble (zcat r) 8 = true) (hd : decode cc pc = .ok (.invokespecial idx, 3)) (h : zcal call (zPw p l e R s m args below meth c D dA base xq H0 X Q) mi (.ref b :: as) (pc + 3) ls r S) : zPw p l e R s m args below meth c D dA base xq H0 X Q pc ls st S := by
  intro H locs cells slots lsR a1 a2 a3 a4 a5 a6 a7 a8
  obtain ⟨b0, F, hM, hc1, hc2, hk⟩ := z_after hcall (Or.inl hmi) h a1
  obtain ⟨own', ini', rt', mL, b1, b2, cd', y, by_, ret, row', e1, e2, -, hcode, -, -, -, -, hmL, ham, hy⟩ := zmi_spec hZ hmi
  have hcv := zcv_at e1 e2
  have hmn : zmn mi = y := by unfold zmn; rw [e2]
  rw [hcv] at hret
  dsimp only at hret
  subst hret
  obtain ⟨k1, k2, k3, k4, -⟩ := zml_spec hl hC
  rw [hmn] at k1 k2 k3 k4 hni
  obtain ⟨stt, a', s', i', w1, w2, -, w3⟩ := zkw_spec hmi e2
  obtain ⟨za, zb, zi, w4⟩ := hst
  cases w1.symm.trans w4
  obtain ⟨w5, w6⟩ := w3 rfl
  obtain ⟨t1, t2⟩ := ztake_spec n [] st as _ htk
  simp at t1 t2
  unfold zMt at hM
  rw [hcv] at hM
  have hcw : zcw mi = .code y by_ mL none := by unfold zcw; rw [hcv]
  have hgd : GoodIn zWS (zws mi) := zws_good (by rw [hcw]; exact hcode)
  have hws : zws mi = Cond.code y by_ mL none :: zWS := by unfold zws; rw [hcw]
  have hRm : (zrm d mi).frames + 1 ≤ R.frames ∧ 8 + (mL + 11) + (zrm d mi).locals ≤ R.locals := ⟨hRf, by show 8 + (mL + 11) + 60 * d ≤ R.locals; omega⟩
  have hpre : PreS s H (va_Pc ((Value.ref b :: as).map (zc (zq base xq))) (zPre D dA base xq adV H0 X (zbud S b0))) (.ref (zq base xq b) :: as.map (zc (zq base xq))) := ⟨zPre_blind, fun U hU hW => ⟨rfl, a1, by rw [hU]; exact a2, va_K.moved hW.alike hK, zXt_warm hW hXt⟩⟩
  have hstack : st.map (zc (zq base xq)) = (as.map (zc (zq base xq))).reverse ++ Value.ref (zq base xq b) :: r.map (zc (zq base xq)) := by rw [← t1]; simp [zc]
  have hroom := lv_room (m := m) (pc := pc) (ls := lsR) (rest := st.map (zc (zq base xq))) (st := r.map (zc (zq base xq))) (by rw [zcat_sum]; exact Nat.le_of_ble_eq_true hcat)
  have hrun : va_Run p l e R s m args below meth c H locs cells slots (zam mi).1 (zam mi).2 (F0 m pc lsR (st.map (zc (zq base xq)))) (r.map (zc (zq base xq))) (zPost D dA base xq H0 X F (Value.ref (zq base xq b) :: as.map (zc (zq base xq))).toArray) (zA base) := by
    cases nb with
    | true =>
      exact va_runIN (Ts := zWS) ⟨hx, hb, a7.symm, hown, hts⟩ hM ⟨va_cnB n hts hgd hws rfl rfl (hXt.2.2.1 _ (k1 rfl)) (hts _ w2) ⟨hy.1, hy.2, k3⟩ hRm, hni, hts _ w5⟩ hpre rfl (by rw [List.length_map]; exact t2) a8.2.1 hstack hroom hd ⟨by omega, by omega⟩
    | false =>
      exact va_runI (Ts := zWS) ⟨hx, hb, a7.symm, hown, hts⟩ hM ⟨callB_of n hts hgd hws rfl rfl (hts _ w2) (hts _ (k2 rfl)) ⟨hy.1, hy.2, k3⟩ hRm, hni, hts _ w5⟩ hpre rfl (by rw [List.length_map]; exact t2) a8.2.1 hstack hroom hd ⟨by omega, by omega⟩
  refine z_call hrun a3 a4 fun v S' H1 locs1 hF hX' hW' hz' hl' => ?_
  rw [zmapO]
  exact hk v S' hF H1 locs1 _ _ lsR hX' hW' hz' hl' (by simp only [zbud]; omega) (by simp only [zbud]; omega) a7 a8
end ZC
