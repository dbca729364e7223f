/-! ===== new cells, and the small ones that are left ===== -/
def zk7 (ci : Nat) : Bool := match zcls ci with
  | some (r, g) => (List.range r.2.2).all (fun k => decide (defaultValue (g k) = bif Nat.beq (zkd (g k)) 1 then .null else .int 0))
  | none => false
theorem zk7_ok : (List.range 11).all zk7 = true := by decide +kernel
theorem zk7_at {ci : Nat} {r : vw_C} {g : Nat → FieldType} (h : zcls ci = some (r, g)) (hr : zcl[ci]? = some r) {k : Nat} (hk : k < r.2.2) : defaultValue (g k) = bif Nat.beq (zkd (g k)) 1 then .null else .int 0 := by
  have hlt : ci < 11 := by rw [← zcl_len]; exact (List.getElem?_eq_some_iff.mp hr).1
  have hb := List.all_eq_true.mp zk7_ok ci (List.mem_range.mpr hlt)
  unfold zk7 at hb
  rw [h] at hb
  have h1 := List.all_eq_true.mp hb k (List.mem_range.mpr hk)
  simpa using h1
theorem zcc_spec {own idx ci row : Nat} (h : zlk2 zccL own idx = some (ci, row)) {C : String} (hC : zcn[own]? = some C) : ∃ r, zcl[ci]? = some r ∧ Cond.classLink C idx r.1 ∈ zWS := by
  have h1 := zall_spec zcc_ok h
  unfold zcc_chk at h1
  rw [hC] at h1
  cases hr : zcl[ci]? with
  | none => rw [hr] at h1; simp at h1
  | some r => rw [hr] at h1; exact ⟨r, rfl, zWS_of h1⟩
section ZN
variable {p : Program} {l : Launch} {e : Env} {R : Room} {s : State} {m : MethodId} {args : Array Value} {below : List Frame} {meth : Method} {c : Code} {D : va_G} {dA : Nat → ClassId} {base : Nat} {xq adV : Nat → Nat} {H0 : Heap} {X : zX} {Q : State → Prop} {cc : ByteArray} {pc : Nat} {ls st : List Value} {S : zS}
theorem zi_new (hx : p.tables.exec = Jvm.exec) (hb : c.code = cc) {own : Nat} {C : String} (hC : zcn[own]? = some C) (hown : s.vm.findClass C = some m.cls) (hts : ∀ w ∈ zWS, w.before args s = true) (hK : va_K D zcl (zTy dA) s) {idx ci row N : Nat} (hl : zlk2 zccL own idx = some (ci, row)) (hN : (zcl[ci]?).map (fun q => q.2.2) = some N) (h1 : 1 ≤ S.2.1.1) (h2 : N ≤ S.2.1.2) (h3 : S.2.2.1.length < 1000) (hd : decode cc pc = .ok (.new idx, 3)) (kk : zPw p l e R s m args below meth c D dA base xq H0 X Q (pc + 3) ls (.ref S.2.2.1.length :: st) (znew S (.inl ci) N)) : zPw p l e R s m args below meth c D dA base xq H0 X Q pc ls st S := by
  intro H locs cells slots lsR a1 a2 a3 a4 a5 a6 a7 a8
  obtain ⟨r, hr, hlink⟩ := zcc_spec hl hC
  rw [hr] at hN
  have hN' : r.2.2 = N := by simpa using hN
  subst hN'
  obtain ⟨g, hG, hgc, hin, hty, hnm, hi1, hi2⟩ := zus_of hr
  have hKn := hK.1 ci r hr
  have hq : H.size = zq base xq S.2.2.1.length := by rw [zq_lo h3]; exact a2.1
  refine W.newcK hx hb hown (hts _ hlink) (hts _ hi1) (hts _ hi2) rfl hd (by omega) (by omega) hKn.2.1 hq fun H1 kC hkC e1 z1 o1 => ?_
  refine kk H1 locs (cells + 1) (slots + r.2.2) lsR a1 (zWd_new a2 h3 (by rw [z1, hq]) (fun a ha => o1 a (by rw [← hq]; exact ha)) ⟨r, hr, (u_born g hts hin hKn hkC e1 hty).to (fun j hj => ?_)⟩) (by omega) a4 (by simp only [znew]; omega) (by simp only [znew]; omega) a7 a8
  rw [zk7_at hgc hr hj]
  unfold zisR
  rw [hG]
  dsimp only
  cases Nat.beq (zkd (g j)) 1
  · simp [zfv, znew, zc]
  · simp [zfv, znew, zc, zrv]
theorem zi_newa (hx : p.tables.exec = Jvm.exec) (hb : c.code = cc) (hts : ∀ w ∈ zWS, w.before args s = true) (hK : va_K D zcl (zTy dA) s) {at_ : ArrayType} {t : Nat} {n : Int32} (ht : zaty at_ = some t) (hn : ¬ n < 0) (hn1 : n.toNatClampNeg ≤ 100000) (h1 : 1 ≤ S.2.1.1) (h2 : n.toNatClampNeg ≤ S.2.1.2) (h3 : S.2.2.1.length < 1000) (hd : decode cc pc = .ok (.newarray at_, 2)) (kk : zPw p l e R s m args below meth c D dA base xq H0 X Q (pc + 2) ls (.ref S.2.2.1.length :: st) (znew S (.inr (t, n.toNatClampNeg)) n.toNatClampNeg)) : zPw p l e R s m args below meth c D dA base xq H0 X Q pc ls (.int n :: st) S := by
  intro H locs cells slots lsR a1 a2 a3 a4 a5 a6 a7 a8
  have hq : H.size = zq base xq S.2.2.1.length := by rw [zq_lo h3]; exact a2.1
  have key : (Cond.arrayClass (newarray.typeOf at_)).before args s = true ∧ n.toNatClampNeg * componentBytes (newarray.typeOf at_) ≤ 536870912 ∧ s.vm.findClass ("[" ++ (newarray.typeOf at_).toString) = some (dA t) ∧ (fun _ : Nat => defaultValue (newarray.typeOf at_)) = zel (zq base xq) (znew S (.inr (t, n.toNatClampNeg)) n.toNatClampNeg) t S.2.2.1.length := by
    have hk2 := hK.2
    cases at_ <;> simp only [zaty] at ht <;> cases ht
    · exact ⟨hts _ zac_2, by simp only [newarray.typeOf, componentBytes]; omega, (hk2 2 (dA 2, .boolean) rfl).2, by funext j; simp [zel, znew, newarray.typeOf, defaultValue]; rfl⟩
    · exact ⟨hts _ zac_1, by simp only [newarray.typeOf, componentBytes]; omega, (hk2 1 (dA 1, .byte) rfl).2, by funext j; simp [zel, znew, newarray.typeOf, defaultValue]; rfl⟩
    · exact ⟨hts _ zac_0, by simp only [newarray.typeOf, componentBytes]; omega, (hk2 0 (dA 0, .int) rfl).2, by funext j; simp [zel, znew, newarray.typeOf, defaultValue]; rfl⟩
    · exact ⟨hts _ zac_3, by simp only [newarray.typeOf, componentBytes]; omega, (hk2 3 (dA 3, .long) rfl).2, by funext j; simp [zel, znew, newarray.typeOf, defaultValue]⟩
  obtain ⟨k1, k2, k3, k4⟩ := key
  refine W.newa hx hb k1 rfl hd rfl hn k2 (by omega) (by omega) fun cA kA comp f1 f2 f3 => ?_
  have hcA : cA = dA t := Option.some.inj (f1.symm.trans k3)
  subst hcA
  have e1 : (H.push ({ cls := dA t, slots := Array.replicate n.toNatClampNeg (defaultValue (newarray.typeOf at_)), vm := .none } : Cell))[H.size]? = some (arrV (dA t) n.toNatClampNeg (fun _ => defaultValue (newarray.typeOf at_))) := by rw [Array.getElem?_push_size, ← arrV_new]
  have o1 : ∀ a : Nat, a < H.size → (H.push ({ cls := dA t, slots := Array.replicate n.toNatClampNeg (defaultValue (newarray.typeOf at_)), vm := .none } : Cell))[a]? = H[a]? := fun a ha => by rw [Array.getElem?_push, if_neg (Nat.ne_of_lt ha)]
  have z1 : (H.push ({ cls := dA t, slots := Array.replicate n.toNatClampNeg (defaultValue (newarray.typeOf at_)), vm := .none } : Cell)).size = H.size + 1 := Array.size_push _
  generalize H.push ({ cls := dA t, slots := Array.replicate n.toNatClampNeg (defaultValue (newarray.typeOf at_)), vm := .none } : Cell) = H1 at e1 o1 z1 ⊢
  have g := kk H1 locs (cells + 1) (slots + n.toNatClampNeg) lsR a1 (zWd_new a2 h3 z1 o1 (by show H1[_]? = _; rw [← hq, e1, k4])) (by omega) a4 (by simp only [znew]; omega) (by simp only [znew]; omega) a7 a8
  have hs : (Value.ref S.2.2.1.length :: st).map (zc (zq base xq)) = Value.ref H.size :: st.map (zc (zq base xq)) := by rw [hq]; rfl
  rw [hs] at g
  exact g
theorem zi_anew (hx : p.tables.exec = Jvm.exec) (hb : c.code = cc) {own : Nat} {C : String} (hC : zcn[own]? = some C) (hown : s.vm.findClass C = some m.cls) (hts : ∀ w ∈ zWS, w.before args s = true) (hK : va_K D zcl (zTy dA) s) (hao : va_AO "BoatsMoveOn$Text" s) {idx row : Nat} {n : Int32} (hl : zlk2 zccL own idx = some (8, row)) (hn : ¬ n < 0) (hn1 : n.toNatClampNeg ≤ 100000) (h1 : 1 ≤ S.2.1.1) (h2 : n.toNatClampNeg ≤ S.2.1.2) (h3 : S.2.2.1.length < 1000) (hd : decode cc pc = .ok (.anewarray idx, 3)) (kk : zPw p l e R s m args below meth c D dA base xq H0 X Q (pc + 3) ls (.ref S.2.2.1.length :: st) (znew S (.inr (4, n.toNatClampNeg)) n.toNatClampNeg)) : zPw p l e R s m args below meth c D dA base xq H0 X Q pc ls (.int n :: st) S := by
  intro H locs cells slots lsR a1 a2 a3 a4 a5 a6 a7 a8
  have hq : H.size = zq base xq S.2.2.1.length := by rw [zq_lo h3]; exact a2.1
  obtain ⟨r, hr, hlink⟩ := zcc_spec hl hC
  have hr1 : r.1 = "BoatsMoveOn$Text" := by cases hr; rfl
  rw [hr1] at hlink
  obtain ⟨kA0, comp0, k1, k2, k3, k4⟩ := (hK.2 4 (dA 4, .object "BoatsMoveOn$Text") rfl).2
  refine W.anew hx hb hown (hts _ hlink) (va_AO.use hao) rfl hd rfl hn (by omega) (by omega) (by omega) fun cA kA comp f1 f2 f3 f4 => ?_
  have hcA : cA = dA 4 := Option.some.inj (f1.symm.trans k4)
  subst hcA
  have e1 : (H.push ({ cls := dA 4, slots := Array.replicate n.toNatClampNeg .null, vm := .none } : Cell))[H.size]? = some (arrV (dA 4) n.toNatClampNeg (fun _ => .null)) := by rw [Array.getElem?_push_size, ← arrV_new]
  have o1 : ∀ a : Nat, a < H.size → (H.push ({ cls := dA 4, slots := Array.replicate n.toNatClampNeg .null, vm := .none } : Cell))[a]? = H[a]? := fun a ha => by rw [Array.getElem?_push, if_neg (Nat.ne_of_lt ha)]
  have z1 : (H.push ({ cls := dA 4, slots := Array.replicate n.toNatClampNeg .null, vm := .none } : Cell)).size = H.size + 1 := Array.size_push _
  generalize H.push ({ cls := dA 4, slots := Array.replicate n.toNatClampNeg .null, vm := .none } : Cell) = H1 at e1 o1 z1 ⊢
  have k5 : (fun _ : Nat => Value.null) = zel (zq base xq) (znew S (.inr (4, n.toNatClampNeg)) n.toNatClampNeg) 4 S.2.2.1.length := by
    funext j
    simp [zel, znew, zrv, zc]
    rfl
  have g := kk H1 locs (cells + 1) (slots + n.toNatClampNeg) lsR a1 (zWd_new a2 h3 z1 o1 (by show H1[_]? = _; rw [← hq, e1, k5])) (by omega) a4 (by simp only [znew]; omega) (by simp only [znew]; omega) a7 a8
  have hs : (Value.ref S.2.2.1.length :: st).map (zc (zq base xq)) = Value.ref H.size :: st.map (zc (zq base xq)) := by rw [hq]; rfl
  rw [hs] at g
  exact g
theorem zi_idiv (hx : p.tables.exec = Jvm.exec) (hb : c.code = cc) {x y : Int32} (hd : decode cc pc = .ok (.idiv, 1)) (hn : ¬ y = 0) (k : zPw p l e R s m args below meth c D dA base xq H0 X Q (pc + 1) ls (.int (x / y) :: st) S) : zPw p l e R s m args below meth c D dA base xq H0 X Q pc ls (.int y :: .int x :: st) S :=
  fun H locs cells slots lsR a1 a2 a3 a4 a5 a6 a7 a8 => lv_idiv hx hb hd hn (k H locs cells slots lsR a1 a2 a3 a4 a5 a6 a7 a8)
theorem zi_irem (hx : p.tables.exec = Jvm.exec) (hb : c.code = cc) {x y : Int32} (hd : decode cc pc = .ok (.irem, 1)) (hn : ¬ y = 0) (k : zPw p l e R s m args below meth c D dA base xq H0 X Q (pc + 1) ls (.int (x - x / y * y) :: st) S) : zPw p l e R s m args below meth c D dA base xq H0 X Q pc ls (.int y :: .int x :: st) S :=
  fun H locs cells slots lsR a1 a2 a3 a4 a5 a6 a7 a8 => lv_irem hx hb hd hn (k H locs cells slots lsR a1 a2 a3 a4 a5 a6 a7 a8)
theorem zi_ldiv (hx : p.tables.exec = Jvm.exec) (hb : c.code = cc) {x y : Int64} (hd : decode cc pc = .ok (.ldiv, 1)) (hn : ¬ y = 0) (k : zPw p l e R s m args below meth c D dA base xq H0 X Q (pc + 1) ls (.long (x / y) :: st) S) : zPw p l e R s m args below meth c D dA base xq H0 X Q pc ls (.long y :: .long x :: st) S :=
  fun H locs cells slots lsR a1 a2 a3 a4 a5 a6 a7 a8 => lv_ldiv hx hb hd hn (k H locs cells slots lsR a1 a2 a3 a4 a5 a6 a7 a8)
theorem zi_ineg (hx : p.tables.exec = Jvm.exec) (hb : c.code = cc) {x : Int32} (hd : decode cc pc = .ok (.ineg, 1)) (k : zPw p l e R s m args below meth c D dA base xq H0 X Q (pc + 1) ls (.int (-x) :: st) S) : zPw p l e R s m args below meth c D dA base xq H0 X Q pc ls (.int x :: st) S :=
  fun H locs cells slots lsR a1 a2 a3 a4 a5 a6 a7 a8 => lv_ineg hx hb hd (k H locs cells slots lsR a1 a2 a3 a4 a5 a6 a7 a8)
theorem zi_lneg (hx : p.tables.exec = Jvm.exec) (hb : c.code = cc) {x : Int64} (hd : decode cc pc = .ok (.lneg, 1)) (k : zPw p l e R s m args below meth c D dA base xq H0 X Q (pc + 1) ls (.long (-x) :: st) S) : zPw p l e R s m args below meth c D dA base xq H0 X Q pc ls (.long x :: st) S :=
  fun H locs cells slots lsR a1 a2 a3 a4 a5 a6 a7 a8 => lv_lneg hx hb hd (k H locs cells slots lsR a1 a2 a3 a4 a5 a6 a7 a8)
theorem zi_i2l (hx : p.tables.exec = Jvm.exec) (hb : c.code = cc) {x : Int32} (hd : decode cc pc = .ok (.i2l, 1)) (k : zPw p l e R s m args below meth c D dA base xq H0 X Q (pc + 1) ls (.long x.toInt64 :: st) S) : zPw p l e R s m args below meth c D dA base xq H0 X Q pc ls (.int x :: st) S :=
  fun H locs cells slots lsR a1 a2 a3 a4 a5 a6 a7 a8 => lv_i2l hx hb hd rfl (k H locs cells slots lsR a1 a2 a3 a4 a5 a6 a7 a8)
theorem zi_l2i (hx : p.tables.exec = Jvm.exec) (hb : c.code = cc) {x : Int64} (hd : decode cc pc = .ok (.l2i, 1)) (k : zPw p l e R s m args below meth c D dA base xq H0 X Q (pc + 1) ls (.int x.toInt32 :: st) S) : zPw p l e R s m args below meth c D dA base xq H0 X Q pc ls (.long x :: st) S :=
  fun H locs cells slots lsR a1 a2 a3 a4 a5 a6 a7 a8 => lv_l2i hx hb hd rfl (k H locs cells slots lsR a1 a2 a3 a4 a5 a6 a7 a8)
theorem zi_i2b (hx : p.tables.exec = Jvm.exec) (hb : c.code = cc) {x : Int32} (hd : decode cc pc = .ok (.i2b, 1)) (k : zPw p l e R s m args below meth c D dA base xq H0 X Q (pc + 1) ls (.int x.toInt8.toInt32 :: st) S) : zPw p l e R s m args below meth c D dA base xq H0 X Q pc ls (.int x :: st) S :=
  fun H locs cells slots lsR a1 a2 a3 a4 a5 a6 a7 a8 => lv_i2b hx hb hd rfl (k H locs cells slots lsR a1 a2 a3 a4 a5 a6 a7 a8)
theorem zi_lcmp (hx : p.tables.exec = Jvm.exec) (hb : c.code = cc) {x y : Int64} (hd : decode cc pc = .ok (.lcmp, 1)) (k : zPw p l e R s m args below meth c D dA base xq H0 X Q (pc + 1) ls (.int (lg_cmp x y) :: st) S) : zPw p l e R s m args below meth c D dA base xq H0 X Q pc ls (.long y :: .long x :: st) S :=
  fun H locs cells slots lsR a1 a2 a3 a4 a5 a6 a7 a8 => W.lcmp hx hb hd (k H locs cells slots lsR a1 a2 a3 a4 a5 a6 a7 a8)
theorem zi_dup (hx : p.tables.exec = Jvm.exec) (hb : c.code = cc) {v : Value} (hd : decode cc pc = .ok (.dup, 1)) (hv : v.category = 1) (k : zPw p l e R s m args below meth c D dA base xq H0 X Q (pc + 1) ls (v :: v :: st) S) : zPw p l e R s m args below meth c D dA base xq H0 X Q pc ls (v :: st) S :=
  fun H locs cells slots lsR a1 a2 a3 a4 a5 a6 a7 a8 => lv_dup hx hb hd (by rw [zcat_zc]; exact hv) (k H locs cells slots lsR a1 a2 a3 a4 a5 a6 a7 a8)
theorem zi_dupx1 (hx : p.tables.exec = Jvm.exec) (hb : c.code = cc) {v w : Value} (hd : decode cc pc = .ok (.dup_x1, 1)) (hv : v.category = 1) (hw : w.category = 1) (k : zPw p l e R s m args below meth c D dA base xq H0 X Q (pc + 1) ls (v :: w :: v :: st) S) : zPw p l e R s m args below meth c D dA base xq H0 X Q pc ls (v :: w :: st) S :=
  fun H locs cells slots lsR a1 a2 a3 a4 a5 a6 a7 a8 => lv_dup_x1 hx hb hd (by rw [zcat_zc]; exact hv) (by rw [zcat_zc]; exact hw) (k H locs cells slots lsR a1 a2 a3 a4 a5 a6 a7 a8)
theorem zi_dup2 (hx : p.tables.exec = Jvm.exec) (hb : c.code = cc) {v w : Value} (hd : decode cc pc = .ok (.dup2, 1)) (hv : v.category = 1) (hw : w.category = 1) (k : zPw p l e R s m args below meth c D dA base xq H0 X Q (pc + 1) ls (v :: w :: v :: w :: st) S) : zPw p l e R s m args below meth c D dA base xq H0 X Q pc ls (v :: w :: st) S :=
  fun H locs cells slots lsR a1 a2 a3 a4 a5 a6 a7 a8 => lv_dup2_11 hx hb hd (by rw [zcat_zc]; exact hv) (by rw [zcat_zc]; exact hw) (k H locs cells slots lsR a1 a2 a3 a4 a5 a6 a7 a8)
theorem zi_pop (hx : p.tables.exec = Jvm.exec) (hb : c.code = cc) {v : Value} (hd : decode cc pc = .ok (.pop, 1)) (hv : v.category = 1) (k : zPw p l e R s m args below meth c D dA base xq H0 X Q (pc + 1) ls st S) : zPw p l e R s m args below meth c D dA base xq H0 X Q pc ls (v :: st) S :=
  fun H locs cells slots lsR a1 a2 a3 a4 a5 a6 a7 a8 => lv_pop hx hb hd (by rw [zcat_zc]; exact hv) (k H locs cells slots lsR a1 a2 a3 a4 a5 a6 a7 a8)
theorem zi_gets (hx : p.tables.exec = Jvm.exec) (hb : c.code = cc) {own : Nat} {C : String} (hC : zcn[own]? = some C) (hown : s.vm.findClass C = some m.cls) (hts : ∀ w ∈ zWS, w.before args s = true) (hXt : zXt X (zq base xq) adV base H0 s) (hbase : H0.size = base) (hs1 : base ≤ s.heap.size) (hs2 : ∀ a : Nat, a < base → s.heap[a]? = H0[a]?) {idx : Nat} {x : Nat × Nat} (hl : zlk2 zgsL own idx = some x) (hd : decode cc pc = .ok (.getstatic idx, 3)) (k : zPw p l e R s m args below meth c D dA base xq H0 X Q (pc + 3) ls (.ref x.1 :: st) S) : zPw p l e R s m args below meth c D dA base xq H0 X Q pc ls st S := by
  intro H locs cells slots lsR a1 a2 a3 a4 a5 a6 a7 a8
  have h1 := zall_spec zgs_ok hl
  unfold zgs_chk at h1
  rw [hC] at h1
  simp only [Bool.and_eq_true] at h1
  have hx1 : x.1 = 1001 := Nat.eq_of_beq_eq_true h1.2
  have hZ := hXt.2.1.kept (H1 := s.heap) (fun z hz _ => hs2 z (by omega))
  have g := k H locs cells slots lsR a1 a2 a3 a4 a5 a6 a7 a8
  rw [hx1] at g
  exact va_gets hx hb hZ (zvaS hs1 hs2 a2 a3 a4) hown (hts _ (zWS_of h1.1)) (fun _ h => h) hd g
end ZN
