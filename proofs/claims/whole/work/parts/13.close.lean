/-! ===== texts, copies, Math; and all rules together ===== -/
theorem zneg {z : Int32} (h : ¬ z < 0) : z.toInt = (z.toNatClampNeg : Int) := by
  have h0 : (0 : Int) ≤ z.toInt := by simpa using Int32.le_iff_toInt_le.mp (Int32.not_lt.mp h)
  show z.toInt = ((z.toInt.toNat : Nat) : Int)
  omega
section ZD
variable {p : Program} {l : Launch} {e : Env} {R : Room} {s : State} {m : MethodId} {args : Array Value} {below : List Frame} {meth : Method} {c : Code} {D : va_G} {dA : Nat → ClassId} {base : Nat} {xq adV : Nat → Nat} {H0 : Heap} {X : zX} {Q : State → Prop} {cc : ByteArray} {pc : Nat} {ls st : List Value} {S : zS}
theorem zi_copy (hx : p.tables.exec = Jvm.exec) (hb : c.code = cc) {own : Nat} {C : String} (hC : zcn[own]? = some C) (hown : s.vm.findClass C = some m.cls) (hts : ∀ w ∈ zWS, w.before args s = true) (hK : va_K D zcl (zTy dA) s) {d : Nat} (hRf : d + 1 ≤ R.frames) (hRl : 60 * (d + 1) ≤ R.locals) {idx n' cl row : Nat} {nb : Bool} (hl : zlk2 zmlL own idx = some (302, n', cl, nb, row)) (hnb : nb = false)
    {a b n0 n1 : Nat} {sp dp n : Int32} (ha : zlen S 0 a = some n0) (hbb : zlen S 0 b = some n1) (hcat : Nat.ble (zcat st) 8 = true) (h1 : ¬ sp < 0) (h2 : ¬ dp < 0) (h3 : ¬ n < 0) (h4 : sp.toNatClampNeg + n.toNatClampNeg ≤ n0) (h5 : dp.toNatClampNeg + n.toNatClampNeg ≤ n1) (hd : decode cc pc = .ok (.invokestatic idx, 3))
    (kk : zPw p l e R s m args below meth c D dA base xq H0 X Q (pc + 3) ls st (S.1, S.2.1, S.2.2.1, S.2.2.2.1, S.2.2.2.2.1, zcpy S.2.2.2.2.2 a b sp.toNatClampNeg dp.toNatClampNeg n.toNatClampNeg)) : zPw p l e R s m args below meth c D dA base xq H0 X Q pc ls (.int n :: .int dp :: .ref b :: .int sp :: .ref a :: st) S := by
  intro H locs cells slots lsR a1 a2 a3 a4 a5 a6 a7 a8 T hT XS
  subst hnb
  have hga := zlen_spec ha
  have hgb := zlen_spec hbb
  have hca : H[zq base xq a]? = some (vp_cell (dA 0) (n0, .inl (S.2.2.2.2.2 a))) := a2.2.2.2 a _ hga
  have hcb : H[zq base xq b]? = some (vp_cell (dA 0) (n1, .inl (S.2.2.2.2.2 b))) := a2.2.2.2 b _ hgb
  obtain ⟨-, k0, hk0, cm0, hkk0⟩ := (hK.2 0 (dA 0, .int) rfl).1 n0 (fun j => .int (S.2.2.2.2.2 a j))
  obtain ⟨-, k1, hk1, cm1, hkk1⟩ := (hK.2 0 (dA 0, .int) rfl).1 n1 (fun j => .int (S.2.2.2.2.2 b j))
  have hnw : nativeFrameWords "java/lang/System" "arraycopy" 5 = 7 := by decide
  have hlink : Cond.methodLink C idx arraycopyName ∈ zWS := (zml_spec hl hC).2.1 rfl
  have hz : (((st.map (zc (zq base xq))).map fun v => v.category)).sum ≤ 8 := by rw [zcat_sum]; exact Nat.le_of_ble_eq_true hcat
  obtain ⟨vm', X', step⟩ := XS.arraycopy hx hown (hts _ hlink) (hts _ zcp_0) (hts _ zcp_1) (hts _ zcp_2) (src := zq base xq a) (dst := zq base xq b) (cs := vp_cell (dA 0) (n0, .inl (S.2.2.2.2.2 a))) (cd := vp_cell (dA 0) (n1, .inl (S.2.2.2.2.2 b))) (srcPos := sp) (destPos := dp) (n := n) (by rw [hT]; exact hca) (by rw [hT]; exact hcb)
    (fun _ h => by cases h) (fun _ h => by cases h) (fun h => by cases h) (fun h => by cases h) hk0 hk1 hkk0 hkk1 (by simp [refKind]) h1 h2 h3
    (by rw [zneg h1, zneg h3]; show ¬ _ > ((arrV (dA 0) n0 (fun j => .int (S.2.2.2.2.2 a j))).slots.size : Int); rw [arrV_size]; omega)
    (by rw [zneg h2, zneg h3]; show ¬ _ > ((arrV (dA 0) n1 (fun j => .int (S.2.2.2.2.2 b j))).slots.size : Int); rw [arrV_size]; omega)
    (fun vm₁ _ i hi => by
      have ev : (vp_cell (dA 0) (n0, .inl (S.2.2.2.2.2 a))).slots.getD (sp.toNatClampNeg + i) .null = .int (S.2.2.2.2.2 a (sp.toNatClampNeg + i)) := by
        show (arrV (dA 0) n0 (fun j => .int (S.2.2.2.2.2 a j))).slots.getD _ _ = _
        rw [Array.getD_eq_getD_getElem?, arrV_read _ _ (by omega)]
        rfl
      rw [ev]
      exact ⟨rfl, trivial⟩)
    (g := F0 m pc lsR (.int n :: .int dp :: .ref (zq base xq b) :: .int sp :: .ref (zq base xq a) :: st.map (zc (zq base xq)))) rfl (by rw [← a7]; exact a8.2.1) (rest := st.map (zc (zq base xq))) rfl (by rw [hb]; exact hd) (by omega) (by show 2 * 0 + _ + _ ≤ _; rw [hnw]; omega)
  have ec : copied (vp_cell (dA 0) (n0, .inl (S.2.2.2.2.2 a))) (vp_cell (dA 0) (n1, .inl (S.2.2.2.2.2 b))) sp dp n = vp_cell (dA 0) (n1, .inl (va_cpy (S.2.2.2.2.2 a) (S.2.2.2.2.2 b) sp.toNatClampNeg dp.toNatClampNeg n.toNatClampNeg)) := va_copied (fun z => .int z) (dA 0) (dA 0) (S.2.2.2.2.2 a) (S.2.2.2.2.2 b) h4
  rw [ec] at X' step
  have hbl : b < 1000 := Nat.lt_of_lt_of_le (zget_lt hgb) a2.2.2.1
  have hlt : zq base xq b < H.size := (Array.getElem?_eq_some_iff.mp hcb).1
  obtain ⟨t, b1, b2⟩ := kk (H.setIfInBounds (zq base xq b) (vp_cell (dA 0) (n1, .inl (va_cpy (S.2.2.2.2.2 a) (S.2.2.2.2.2 b) sp.toNatClampNeg dp.toNatClampNeg n.toNatClampNeg)))) _ cells slots lsR a1
    (zWd_set a2 rfl hgb (fun c' hc => ⟨rfl, rfl, by simp [zcpy, hc]⟩) (by simp) (fun q hq => by simp [Array.getElem?_setIfInBounds, Ne.symm hq]) (by
      show (H.setIfInBounds _ _)[_]? = some (arrV _ _ _)
      rw [Array.getElem?_setIfInBounds_self_of_lt hlt]
      rw [vp_cell_i]
      congr 2
      funext j
      simp [zel, zcpy]
      rfl)) (by simp; exact a3) (fun z hz' => by
      rcases List.mem_append.mp hz' with h | h
      · exact a4 z h
      · obtain ⟨w, -, hw⟩ := List.mem_map.mp h
        rw [← hw]
        show base ≤ zq base xq b
        rw [zq_lo hbl]
        omega) a5 a6 a7 a8 _ (by rw [← hT]; rfl) X'
  exact ⟨t, step t b1, b2⟩
theorem zi_mth (hx : p.tables.exec = Jvm.exec) (hb : c.code = cc) {own : Nat} {C : String} (hC : zcn[own]? = some C) (hown : s.vm.findClass C = some m.cls) (hts : ∀ w ∈ zWS, w.before args s = true) {d : Nat} (hRf : d + 1 ≤ R.frames) (hRl : 60 * (d + 1) ≤ R.locals) {idx mi n' cl row : Nat} {nb : Bool} (hl : zlk2 zmlL own idx = some (mi, n', cl, nb, row)) (hnb : nb = false) {v : Value} {r : List Value} (hm : zmth mi st = some (v, r)) (hcat : Nat.ble (zcat r) 8 = true) (hd : decode cc pc = .ok (.invokestatic idx, 3))
    (kk : zPw p l e R s m args below meth c D dA base xq H0 X Q (pc + 3) ls (v :: r) S) : zPw p l e R s m args below meth c D dA base xq H0 X Q pc ls st S := by
  intro H locs cells slots lsR a1 a2 a3 a4 a5 a6 a7 a8
  subst hnb
  have g := kk H locs cells slots lsR a1 a2 a3 a4 a5 a6 a7 a8
  have hlink := (zml_spec hl hC).2.1 rfl
  have hz : (((r.map (zc (zq base xq))).map fun v => v.category)).sum ≤ 8 := by rw [zcat_sum]; exact Nat.le_of_ble_eq_true hcat
  have hsz : c.maxLocals = lsR.size := by rw [← a7]; exact a8.2.1.symm
  have hi : Cond.initialized "java/lang/Math" ∈ zWS := zmath_i
  unfold zmth at hm
  split at hm
  · cases hm
    exact va_mmax hx hb hsz hown (hts _ hlink) (hts _ zmath_0) (hts _ hi) (hts _ zmath_1) (by omega) (by omega) (by omega) (by omega) hd g
  · cases hm
    exact va_mmin hx hb hsz hown (hts _ hlink) (hts _ zmath_2) (hts _ hi) (hts _ zmath_3) (by omega) (by omega) (by omega) (by omega) hd g
  · cases hm
    exact va_mmin_long hx hb hsz hown (hts _ hlink) (hts _ zmath_4) (hts _ hi) (hts _ zmath_5) (by omega) (by omega) (by omega) (by omega) hd g
  · cases hm
    exact va_mmax_long hx hb hsz hown (hts _ hlink) (hts _ zmath_6) (hts _ hi) (hts _ zmath_7) (by omega) (by omega) (by omega) (by omega) hd g
  · cases hm
theorem zi_obj (hx : p.tables.exec = Jvm.exec) (hb : c.code = cc) {own : Nat} {C : String} (hC : zcn[own]? = some C) (hown : s.vm.findClass C = some m.cls) (hts : ∀ w ∈ zWS, w.before args s = true) {d : Nat} (hRf : d + 1 ≤ R.frames) (hRl : 60 * (d + 1) ≤ R.locals) {idx row a : Nat} (hl : zlk2 zoiL own idx = some row) (hcat : Nat.ble (zcat st) 8 = true) (hd : decode cc pc = .ok (.invokespecial idx, 3)) (kk : zPw p l e R s m args below meth c D dA base xq H0 X Q (pc + 3) ls st S) : zPw p l e R s m args below meth c D dA base xq H0 X Q pc ls (.ref a :: st) S := by
  intro H locs cells slots lsR a1 a2 a3 a4 a5 a6 a7 a8
  have h1 := zall_spec zoi_ok hl
  unfold zoi_chk at h1
  rw [hC] at h1
  have hz : (((st.map (zc (zq base xq))).map fun v => v.category)).sum ≤ 8 := by rw [zcat_sum]; exact Nat.le_of_ble_eq_true hcat
  have hroom := lv_room (m := m) (pc := pc) (ls := lsR) (rest := (Value.ref a :: st).map (zc (zq base xq))) (st := st.map (zc (zq base xq))) hz
  exact W.objInit hx hb hown (hts _ (zWS_of h1)) (hts _ zobj_0) (hts _ zobj_1) rfl (by rw [← a7]; exact a8.2.1) rfl hd (by omega) (by omega) (kk H locs cells slots lsR a1 a2 a3 a4 a5 a6 a7 a8)
/-- a text's own method -/
theorem zi_invP (hx : p.tables.exec = Jvm.exec) (hb : c.code = cc) {own : Nat} {C : String} (hC : zcn[own]? = some C) (hown : s.vm.findClass C = some m.cls) (hts : ∀ w ∈ zWS, w.before args s = true) (hK : va_K D zcl (zTy dA) s) (hXt : zXt X (zq base xq) adV base H0 s) (hbase : H0.size = base) (hs1 : base ≤ s.heap.size) (hs2 : ∀ a : Nat, a < base → s.heap[a]? = H0[a]?) {d : Nat} (hRf : d + 1 ≤ R.frames) (hRl : 60 * (d + 1) ≤ R.locals) {call : zC} (hcall : ∀ mi as S F, zmiI mi → S.1 = X → S.2.1 = zam mi → call mi as S F → zMt l D dA base xq adV H0 X d mi as S F)
    {idx mi n cl row : Nat} {nb : Bool} (hl : zlk2 zmlL own idx = some (mi, n, cl, nb, row)) (hnb : nb = false) (hmi : mi = 300 ∨ mi = 301) {as r : List Value} {b : Nat} (htk : ztake n [] st = some (as, .ref b :: r)) (hcat : Nat.ble (zcat r) 8 = true) (hob : 2000 ≤ b ∧ b < 2015) (hd : decode cc pc = .ok (.invokevirtual idx, 3)) (h : zcal call (zPw p l e R s m args below meth c D dA base xq H0 X Q) mi (.ref b :: as) (pc + 3) ls r S) : zPw p l e R s m args below meth c D dA base xq H0 X Q pc ls st S := by
  intro H locs cells slots lsR a1 a2 a3 a4 a5 a6 a7 a8
  subst hnb
  obtain ⟨b0, F, hM, hc1, hc2, hk⟩ := z_after hcall (Or.inr hmi) h a1
  obtain ⟨-, k2, k3, -, -⟩ := zml_spec hl hC
  obtain ⟨t1, t2⟩ := ztake_spec n [] st as _ htk
  simp at t1 t2
  have hprim : ∃ y by_ mL ret, zcv mi = (y, by_, mL, ret) ∧ zmn mi = y ∧ y.cls = "java/lang/String" ∧ Cond.code y by_ mL ret ∈ zWS ∧ Cond.instanceMethod y ∈ zWS ∧ Cond.selects "java/lang/String" y y ∈ zWS ∧ mL ≤ 40 ∧ zam mi = (0, 0) := by
    rcases hmi with rfl | rfl
    · exact ⟨_, _, _, _, zcv300, zmn300, rfl, zstr_0, zstr_1, zstr_2, by decide, rfl⟩
    · exact ⟨_, _, _, _, zcv301, zmn301, rfl, zstr_3, zstr_4, zstr_5, by decide, rfl⟩
  obtain ⟨y, by_, mL, ret, hcv, hmn, hyc, w1, w2, w3, w4, w5⟩ := hprim
  rw [hmn] at k2 k3
  unfold zMt at hM
  rw [hcv] at hM
  have hcw : zcw mi = .code y by_ mL ret := by unfold zcw; rw [hcv]
  have hgd : GoodIn zWS (zws mi) := zws_good (by rw [hcw]; exact w1)
  have hws : zws mi = Cond.code y by_ mL ret :: zWS := by unfold zws; rw [hcw]
  have hRm : (zrm d mi).frames + 1 ≤ R.frames ∧ 8 + (mL + 11) + (zrm d mi).locals ≤ R.locals := ⟨hRf, by show 8 + (mL + 11) + 60 * d ≤ R.locals; omega⟩
  have hE := hXt.2.2.2.2.2.1.kept (H1 := s.heap) (fun z hz _ => hs2 z (by omega))
  have hrec := vk_recv (i := b - 2000) hE (by omega) (zvaS hs1 hs2 a2 a3 a4)
  rw [show 2000 + (b - 2000) = b by omega] at hrec
  have hpre : PreV s H "java/lang/String" (zq base xq b) (va_Pc ((Value.ref b :: as).map (zc (zq base xq))) (zPre D dA base xq adV H0 X (zbud S b0))) (as.map (zc (zq base xq))) := ⟨zPre_blind, hrec, fun U hU hW => ⟨rfl, a1, by rw [hU]; exact a2, va_K.moved hW.alike hK, zXt_warm hW hXt⟩⟩
  have hstack : st.map (zc (zq base xq)) = (as.map (zc (zq base xq))).reverse ++ Value.ref (zq base xq b) :: r.map (zc (zq base xq)) := by rw [← t1]; simp [zc]
  have hroom := lv_room (m := m) (pc := pc) (ls := lsR) (rest := st.map (zc (zq base xq))) (st := r.map (zc (zq base xq))) (by rw [zcat_sum]; exact Nat.le_of_ble_eq_true hcat)
  have hrun : va_Run p l e R s m args below meth c H locs cells slots (zam mi).1 (zam mi).2 (F0 m pc lsR (st.map (zc (zq base xq)))) (r.map (zc (zq base xq))) (zPost D dA base xq H0 X F (Value.ref (zq base xq b) :: as.map (zc (zq base xq))).toArray) (zA base) :=
    va_runV (Ts := zWS) ⟨hx, hb, a7.symm, hown, hts⟩ hM ⟨callB_of n hts hgd hws rfl rfl (by rw [hyc]; exact hts _ zstr_6) (hts _ (k2 rfl)) ⟨by rw [hyc]; decide, by rw [hyc]; decide, k3⟩ hRm, hts _ w2, hts _ w3⟩ hpre rfl (by rw [List.length_map]; exact t2) a8.2.1 hstack hroom hd ⟨by omega, by omega⟩
  refine z_call hrun a3 a4 fun v S' H1 locs1 hF hX' hW' hz' hl' => ?_
  rw [zmapO]
  exact hk v S' hF H1 locs1 _ _ lsR hX' hW' hz' hl' (by simp only [zbud]; omega) (by simp only [zbud]; omega) a7 a8
end ZD
