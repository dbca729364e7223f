/-! ===== each rule of the pure machine holds of the machine ===== -/
def zPw (p : Program) (l : Launch) (e : Env) (R : Room) (s : State) (m : MethodId) (args : Array Value) (below : List Frame) (meth : Method) (c : Code) (D : va_G) (dA : Nat → ClassId) (base : Nat) (xq : Nat → Nat) (H0 : Heap) (X : zX) (Q : State → Prop) : zQ := fun pc ls st S =>
  ∀ (H : Heap) (locs : List Loc) (cells slots : Nat) (lsR : Array Slot), S.1 = X → zWd D dA base xq H0 S H → s.heap.size ≤ H.size → (∀ z ∈ locs, base ≤ z.base) → cells + S.2.1.1 ≤ R.cells → slots + S.2.1.2 ≤ R.slots → ls.length = c.maxLocals → zLr (zq base xq) lsR ls →
    W p l e R s m args below meth c H locs cells slots Q (F0 m pc lsR (st.map (zc (zq base xq))))
section ZI
variable {p : Program} {l : Launch} {e : Env} {R : Room} {s : State} {m : MethodId} {args : Array Value} {below : List Frame} {meth : Method} {c : Code} {D : va_G} {dA : Nat → ClassId} {base : Nat} {xq adV : Nat → Nat} {H0 : Heap} {X : zX} {Q : State → Prop} {cc : ByteArray} {pc : Nat} {ls st : List Value} {S : zS}
theorem zi_iconst (hx : p.tables.exec = Jvm.exec) (hb : c.code = cc) {n : Int} {v : Int32} (hd : decode cc pc = .ok (.iconst n, 1)) (hv : Int32.ofInt n = v) (k : zPw p l e R s m args below meth c D dA base xq H0 X Q (pc + 1) ls (.int v :: st) S) : zPw p l e R s m args below meth c D dA base xq H0 X Q pc ls st S :=
  fun H locs cells slots lsR a1 a2 a3 a4 a5 a6 a7 a8 => lv_iconst hx hb hd hv (k H locs cells slots lsR a1 a2 a3 a4 a5 a6 a7 a8)
theorem zi_bipush (hx : p.tables.exec = Jvm.exec) (hb : c.code = cc) {n : Int} {v : Int32} (hd : decode cc pc = .ok (.bipush n, 2)) (hv : (Int8.ofInt n).toInt32 = v) (k : zPw p l e R s m args below meth c D dA base xq H0 X Q (pc + 2) ls (.int v :: st) S) : zPw p l e R s m args below meth c D dA base xq H0 X Q pc ls st S :=
  fun H locs cells slots lsR a1 a2 a3 a4 a5 a6 a7 a8 => lv_bipush hx hb hd hv (k H locs cells slots lsR a1 a2 a3 a4 a5 a6 a7 a8)
theorem zi_sipush (hx : p.tables.exec = Jvm.exec) (hb : c.code = cc) {n : Int} {v : Int32} (hd : decode cc pc = .ok (.sipush n, 3)) (hv : (Int16.ofInt n).toInt32 = v) (k : zPw p l e R s m args below meth c D dA base xq H0 X Q (pc + 3) ls (.int v :: st) S) : zPw p l e R s m args below meth c D dA base xq H0 X Q pc ls st S :=
  fun H locs cells slots lsR a1 a2 a3 a4 a5 a6 a7 a8 => lv_sipush hx hb hd hv (k H locs cells slots lsR a1 a2 a3 a4 a5 a6 a7 a8)
theorem zi_lconst (hx : p.tables.exec = Jvm.exec) (hb : c.code = cc) {n : Fin 2} (hd : decode cc pc = .ok (.lconst n, 1)) (k : zPw p l e R s m args below meth c D dA base xq H0 X Q (pc + 1) ls (.long (Int64.ofNat n.val) :: st) S) : zPw p l e R s m args below meth c D dA base xq H0 X Q pc ls st S :=
  fun H locs cells slots lsR a1 a2 a3 a4 a5 a6 a7 a8 => lv_lconst hx hb hd rfl (k H locs cells slots lsR a1 a2 a3 a4 a5 a6 a7 a8)
theorem zi_ldc (hx : p.tables.exec = Jvm.exec) (hb : c.code = cc) {own : String} {idx : Nat} {v : Int32} (hown : s.vm.findClass own = some m.cls) (hw : (Jvm.Cond.constant own idx v).before args s = true) (hd : decode cc pc = .ok (.ldc idx, 2)) (k : zPw p l e R s m args below meth c D dA base xq H0 X Q (pc + 2) ls (.int v :: st) S) : zPw p l e R s m args below meth c D dA base xq H0 X Q pc ls st S :=
  fun H locs cells slots lsR a1 a2 a3 a4 a5 a6 a7 a8 => lv_ldc hx hb hown hw hd (k H locs cells slots lsR a1 a2 a3 a4 a5 a6 a7 a8)
theorem zi_ldcw (hx : p.tables.exec = Jvm.exec) (hb : c.code = cc) {own : String} {idx : Nat} {v : Int32} (hown : s.vm.findClass own = some m.cls) (hw : (Jvm.Cond.constant own idx v).before args s = true) (hd : decode cc pc = .ok (.ldc_w idx, 3)) (k : zPw p l e R s m args below meth c D dA base xq H0 X Q (pc + 3) ls (.int v :: st) S) : zPw p l e R s m args below meth c D dA base xq H0 X Q pc ls st S :=
  fun H locs cells slots lsR a1 a2 a3 a4 a5 a6 a7 a8 => lv_ldcw hx hb hown hw hd (k H locs cells slots lsR a1 a2 a3 a4 a5 a6 a7 a8)
theorem zi_ldc2 (hx : p.tables.exec = Jvm.exec) (hb : c.code = cc) {own : String} {idx : Nat} {v : Int64} (hown : s.vm.findClass own = some m.cls) (hw : (Jvm.Cond.constantLong own idx v).before args s = true) (hd : decode cc pc = .ok (.ldc2_w idx, 3)) (k : zPw p l e R s m args below meth c D dA base xq H0 X Q (pc + 3) ls (.long v :: st) S) : zPw p l e R s m args below meth c D dA base xq H0 X Q pc ls st S :=
  fun H locs cells slots lsR a1 a2 a3 a4 a5 a6 a7 a8 => lv_ldc2 hx hb hown hw hd (k H locs cells slots lsR a1 a2 a3 a4 a5 a6 a7 a8)
theorem zi_ldcs (hx : p.tables.exec = Jvm.exec) (hb : c.code = cc) {own tx : String} {idx a : Nat} (hown : s.vm.findClass own = some m.cls) (hw : vk_R own idx tx (zq base xq a) s) (hd : decode cc pc = .ok (.ldc idx, 2)) (k : zPw p l e R s m args below meth c D dA base xq H0 X Q (pc + 2) ls (.ref a :: st) S) : zPw p l e R s m args below meth c D dA base xq H0 X Q pc ls st S :=
  fun H locs cells slots lsR a1 a2 a3 a4 a5 a6 a7 a8 => va_ldcS hx hb hown hw hd (k H locs cells slots lsR a1 a2 a3 a4 a5 a6 a7 a8)
theorem zi_iloadn (hx : p.tables.exec = Jvm.exec) (hb : c.code = cc) {n : Fin 4} (hd : decode cc pc = .ok (.iload_n n, 1)) (k : zldi ls n.val (fun v => zPw p l e R s m args below meth c D dA base xq H0 X Q (pc + 1) ls (v :: st) S)) : zPw p l e R s m args below meth c D dA base xq H0 X Q pc ls st S := by
  unfold zldi at k
  split at k
  · rename_i x hg
    exact fun H locs cells slots lsR a1 a2 a3 a4 a5 a6 a7 a8 => lv_iload_n hx hb hd rfl (a8.2.2 _ _ hg (fun h => by cases h)) (k H locs cells slots lsR a1 a2 a3 a4 a5 a6 a7 a8)
  · exact k.elim
theorem zi_iload (hx : p.tables.exec = Jvm.exec) (hb : c.code = cc) {n : Nat} (hd : decode cc pc = .ok (.iload n, 2)) (k : zldi ls n (fun v => zPw p l e R s m args below meth c D dA base xq H0 X Q (pc + 2) ls (v :: st) S)) : zPw p l e R s m args below meth c D dA base xq H0 X Q pc ls st S := by
  unfold zldi at k
  split at k
  · rename_i x hg
    exact fun H locs cells slots lsR a1 a2 a3 a4 a5 a6 a7 a8 => lv_iload hx hb hd (a8.2.2 _ _ hg (fun h => by cases h)) (k H locs cells slots lsR a1 a2 a3 a4 a5 a6 a7 a8)
  · exact k.elim
theorem zi_lloadn (hx : p.tables.exec = Jvm.exec) (hb : c.code = cc) {n : Fin 4} (hd : decode cc pc = .ok (.lload_n n, 1)) (k : zldl ls n.val (fun v => zPw p l e R s m args below meth c D dA base xq H0 X Q (pc + 1) ls (v :: st) S)) : zPw p l e R s m args below meth c D dA base xq H0 X Q pc ls st S := by
  unfold zldl at k
  split at k
  · rename_i x hg
    exact fun H locs cells slots lsR a1 a2 a3 a4 a5 a6 a7 a8 => lv_lload_n hx hb hd rfl (a8.2.2 _ _ hg (fun h => by cases h)) (k H locs cells slots lsR a1 a2 a3 a4 a5 a6 a7 a8)
  · exact k.elim
theorem zi_lload (hx : p.tables.exec = Jvm.exec) (hb : c.code = cc) {n : Nat} (hd : decode cc pc = .ok (.lload n, 2)) (k : zldl ls n (fun v => zPw p l e R s m args below meth c D dA base xq H0 X Q (pc + 2) ls (v :: st) S)) : zPw p l e R s m args below meth c D dA base xq H0 X Q pc ls st S := by
  unfold zldl at k
  split at k
  · rename_i x hg
    exact fun H locs cells slots lsR a1 a2 a3 a4 a5 a6 a7 a8 => lv_lload hx hb hd (a8.2.2 _ _ hg (fun h => by cases h)) (k H locs cells slots lsR a1 a2 a3 a4 a5 a6 a7 a8)
  · exact k.elim
theorem zi_aloadn (hx : p.tables.exec = Jvm.exec) (hb : c.code = cc) {n : Fin 4} (hd : decode cc pc = .ok (.aload_n n, 1)) (k : zlda ls n.val (fun v => zPw p l e R s m args below meth c D dA base xq H0 X Q (pc + 1) ls (v :: st) S)) : zPw p l e R s m args below meth c D dA base xq H0 X Q pc ls st S := by
  unfold zlda at k
  split at k
  · rename_i x hg
    exact fun H locs cells slots lsR a1 a2 a3 a4 a5 a6 a7 a8 => lv_aload_n hx hb hd rfl (a8.2.2 _ _ hg (fun h => by cases h)) (k H locs cells slots lsR a1 a2 a3 a4 a5 a6 a7 a8)
  · exact k.elim
theorem zi_aload (hx : p.tables.exec = Jvm.exec) (hb : c.code = cc) {n : Nat} (hd : decode cc pc = .ok (.aload n, 2)) (k : zlda ls n (fun v => zPw p l e R s m args below meth c D dA base xq H0 X Q (pc + 2) ls (v :: st) S)) : zPw p l e R s m args below meth c D dA base xq H0 X Q pc ls st S := by
  unfold zlda at k
  split at k
  · rename_i x hg
    exact fun H locs cells slots lsR a1 a2 a3 a4 a5 a6 a7 a8 => lv_aload hx hb hd (a8.2.2 _ _ hg (fun h => by cases h)) (k H locs cells slots lsR a1 a2 a3 a4 a5 a6 a7 a8)
  · exact k.elim
theorem zi_istoren (hx : p.tables.exec = Jvm.exec) (hb : c.code = cc) {n : Fin 4} {x : Int32} (hd : decode cc pc = .ok (.istore_n n, 1)) (hn : n.val < ls.length) (k : zPw p l e R s m args below meth c D dA base xq H0 X Q (pc + 1) (zst1 ls n.val (.int x)) st S) : zPw p l e R s m args below meth c D dA base xq H0 X Q pc ls (.int x :: st) S :=
  fun H locs cells slots lsR a1 a2 a3 a4 a5 a6 a7 a8 => lv_istore_n hx hb hd rfl (zLr_has a8) hn rfl (fun ls' h' => k H locs cells slots ls' a1 a2 a3 a4 a5 a6 (by rw [zst1_len]; exact a7) (zLr_st1 rfl h'))
theorem zi_istore (hx : p.tables.exec = Jvm.exec) (hb : c.code = cc) {n : Nat} {x : Int32} (hd : decode cc pc = .ok (.istore n, 2)) (hn : n < ls.length) (k : zPw p l e R s m args below meth c D dA base xq H0 X Q (pc + 2) (zst1 ls n (.int x)) st S) : zPw p l e R s m args below meth c D dA base xq H0 X Q pc ls (.int x :: st) S :=
  fun H locs cells slots lsR a1 a2 a3 a4 a5 a6 a7 a8 => lv_istore hx hb hd (zLr_has a8) hn rfl (fun ls' h' => k H locs cells slots ls' a1 a2 a3 a4 a5 a6 (by rw [zst1_len]; exact a7) (zLr_st1 rfl h'))
theorem zi_lstoren (hx : p.tables.exec = Jvm.exec) (hb : c.code = cc) {n : Fin 4} {x : Int64} (hd : decode cc pc = .ok (.lstore_n n, 1)) (hn : n.val + 1 < ls.length) (k : zPw p l e R s m args below meth c D dA base xq H0 X Q (pc + 1) (zst2 ls n.val (.long x)) st S) : zPw p l e R s m args below meth c D dA base xq H0 X Q pc ls (.long x :: st) S :=
  fun H locs cells slots lsR a1 a2 a3 a4 a5 a6 a7 a8 => lv_lstore_n hx hb hd rfl (zLr_has a8) hn rfl (fun ls' h' => k H locs cells slots ls' a1 a2 a3 a4 a5 a6 (by rw [zst2_len]; exact a7) (zLr_st2 rfl h'))
theorem zi_lstore (hx : p.tables.exec = Jvm.exec) (hb : c.code = cc) {n : Nat} {x : Int64} (hd : decode cc pc = .ok (.lstore n, 2)) (hn : n + 1 < ls.length) (k : zPw p l e R s m args below meth c D dA base xq H0 X Q (pc + 2) (zst2 ls n (.long x)) st S) : zPw p l e R s m args below meth c D dA base xq H0 X Q pc ls (.long x :: st) S :=
  fun H locs cells slots lsR a1 a2 a3 a4 a5 a6 a7 a8 => lv_lstore hx hb hd (zLr_has a8) hn rfl (fun ls' h' => k H locs cells slots ls' a1 a2 a3 a4 a5 a6 (by rw [zst2_len]; exact a7) (zLr_st2 rfl h'))
theorem zi_astoren (hx : p.tables.exec = Jvm.exec) (hb : c.code = cc) {n : Fin 4} {x : Nat} (hd : decode cc pc = .ok (.astore_n n, 1)) (hn : n.val < ls.length) (k : zPw p l e R s m args below meth c D dA base xq H0 X Q (pc + 1) (zst1 ls n.val (.ref x)) st S) : zPw p l e R s m args below meth c D dA base xq H0 X Q pc ls (.ref x :: st) S :=
  fun H locs cells slots lsR a1 a2 a3 a4 a5 a6 a7 a8 => lv_astore_n hx hb hd rfl (zLr_has a8) hn rfl (fun ls' h' => k H locs cells slots ls' a1 a2 a3 a4 a5 a6 (by rw [zst1_len]; exact a7) (zLr_st1 rfl h'))
theorem zi_astore (hx : p.tables.exec = Jvm.exec) (hb : c.code = cc) {n : Nat} {x : Nat} (hd : decode cc pc = .ok (.astore n, 2)) (hn : n < ls.length) (k : zPw p l e R s m args below meth c D dA base xq H0 X Q (pc + 2) (zst1 ls n (.ref x)) st S) : zPw p l e R s m args below meth c D dA base xq H0 X Q pc ls (.ref x :: st) S :=
  fun H locs cells slots lsR a1 a2 a3 a4 a5 a6 a7 a8 => lv_astore hx hb hd (zLr_has a8) hn rfl (fun ls' h' => k H locs cells slots ls' a1 a2 a3 a4 a5 a6 (by rw [zst1_len]; exact a7) (zLr_st1 rfl h'))
theorem zi_iinc (hx : p.tables.exec = Jvm.exec) (hb : c.code = cc) {n : Nat} {v : Int} {cv : Int32} (hd : decode cc pc = .ok (.iinc n v, 3)) (hv : Int32.ofInt v = cv) (hn : n < ls.length) (k : zldi ls n (fun w => match w with
    | .int x => zPw p l e R s m args below meth c D dA base xq H0 X Q (pc + 3) (zst1 ls n (.int (x + cv))) st S
    | _ => False)) : zPw p l e R s m args below meth c D dA base xq H0 X Q pc ls st S := by
  unfold zldi at k
  split at k
  · rename_i x hg
    intro H locs cells slots lsR a1 a2 a3 a4 a5 a6 a7 a8
    have hm : (n, Value.int x) ∈ zll (zq base xq) ls := zll_mem.mpr ⟨_, hg, (fun h => by cases h), rfl⟩
    obtain ⟨j, hj⟩ := List.getElem?_of_mem hm
    exact lv_iinc hx hb hd (zLr_has a8) hj (by rw [hv]) hn rfl (fun ls' h' => k H locs cells slots ls' a1 a2 a3 a4 a5 a6 (by rw [zst1_len]; exact a7) (zLr_st1 rfl h'))
  · exact k.elim
theorem zi_ibin (hx : p.tables.exec = Jvm.exec) (hb : c.code = cc) {i : Instr} {f : Int32 → Int32 → Int32} {x y : Int32} (hf : zibin i = some f) (hd : decode cc pc = .ok (i, 1)) (k : zPw p l e R s m args below meth c D dA base xq H0 X Q (pc + 1) ls (.int (f x y) :: st) S) : zPw p l e R s m args below meth c D dA base xq H0 X Q pc ls (.int y :: .int x :: st) S := by
  intro H locs cells slots lsR a1 a2 a3 a4 a5 a6 a7 a8
  have k' := k H locs cells slots lsR a1 a2 a3 a4 a5 a6 a7 a8
  cases i <;> first | (cases hf; done) | skip
  all_goals (cases hf)
  · exact lv_iadd hx hb hd k'
  · exact lv_iand hx hb hd k'
  · exact lv_imul hx hb hd k'
  · exact lv_ior hx hb hd k'
  · exact lv_ishl hx hb hd k'
  · exact lv_ishr hx hb hd k'
  · exact lv_isub hx hb hd k'
  · exact lv_iushr hx hb hd rfl k'
  · exact lv_ixor hx hb hd k'
theorem zi_lbin (hx : p.tables.exec = Jvm.exec) (hb : c.code = cc) {i : Instr} {f : Int64 → Int64 → Int64} {x y : Int64} (hf : zlbin i = some f) (hd : decode cc pc = .ok (i, 1)) (k : zPw p l e R s m args below meth c D dA base xq H0 X Q (pc + 1) ls (.long (f x y) :: st) S) : zPw p l e R s m args below meth c D dA base xq H0 X Q pc ls (.long y :: .long x :: st) S := by
  intro H locs cells slots lsR a1 a2 a3 a4 a5 a6 a7 a8
  have k' := k H locs cells slots lsR a1 a2 a3 a4 a5 a6 a7 a8
  cases i <;> first | (cases hf; done) | skip
  all_goals (cases hf)
  · exact lv_ladd hx hb hd k'
  · exact lv_lmul hx hb hd k'
  · exact lv_lsub hx hb hd k'
theorem zi_if (hx : p.tables.exec = Jvm.exec) (hb : c.code = cc) {cn : ClassFile.Cond} {off : Int} {x : Int32} {tg : Nat} (hd : decode cc pc = .ok (.ifCond cn off, 3)) (ht : (pc : Int) + off = (tg : Int)) (k1 : zcnd cn x 0 → zPw p l e R s m args below meth c D dA base xq H0 X Q tg ls st S) (k2 : ¬ zcnd cn x 0 → zPw p l e R s m args below meth c D dA base xq H0 X Q (pc + 3) ls st S) : zPw p l e R s m args below meth c D dA base xq H0 X Q pc ls (.int x :: st) S := by
  intro H locs cells slots lsR a1 a2 a3 a4 a5 a6 a7 a8
  have g1 := fun h => k1 h H locs cells slots lsR a1 a2 a3 a4 a5 a6 a7 a8
  have g2 := fun h => k2 h H locs cells slots lsR a1 a2 a3 a4 a5 a6 a7 a8
  cases cn
  · exact lv_if_eq hx hb hd ht g1 g2
  · exact lv_if_ne hx hb hd ht g1 (fun h => g2 (fun n => n h))
  · exact lv_if_lt hx hb hd ht g1 g2
  · exact lv_if_ge hx hb hd ht g1 g2
  · exact lv_if_gt hx hb hd ht g1 g2
  · exact lv_if_le hx hb hd ht g1 g2
theorem zi_icmp (hx : p.tables.exec = Jvm.exec) (hb : c.code = cc) {cn : ClassFile.Cond} {off : Int} {x y : Int32} {tg : Nat} (hd : decode cc pc = .ok (.if_icmp cn off, 3)) (ht : (pc : Int) + off = (tg : Int)) (k1 : zcnd cn x y → zPw p l e R s m args below meth c D dA base xq H0 X Q tg ls st S) (k2 : ¬ zcnd cn x y → zPw p l e R s m args below meth c D dA base xq H0 X Q (pc + 3) ls st S) : zPw p l e R s m args below meth c D dA base xq H0 X Q pc ls (.int y :: .int x :: st) S := by
  intro H locs cells slots lsR a1 a2 a3 a4 a5 a6 a7 a8
  have g1 := fun h => k1 h H locs cells slots lsR a1 a2 a3 a4 a5 a6 a7 a8
  have g2 := fun h => k2 h H locs cells slots lsR a1 a2 a3 a4 a5 a6 a7 a8
  cases cn
  · exact lv_icmp_eq hx hb hd ht g1 g2
  · exact lv_icmp_ne hx hb hd ht g1 (fun h => g2 (fun n => n h))
  · exact lv_icmp_lt hx hb hd ht g1 g2
  · exact lv_icmp_ge hx hb hd ht g1 g2
  · exact lv_icmp_gt hx hb hd ht g1 g2
  · exact lv_icmp_le hx hb hd ht g1 g2
theorem zsw_tab {P : Nat → Prop} {x : Int32} {d pc : Nat} : ∀ {lo : Int} {os : List Int} {ts : List (Int32 × Nat)}, ztsB pc lo os ts = true → zsw P x d ts → (∃ (j : Nat) (o : Int) (t : Nat), os[j]? = some o ∧ x.toInt = lo + j ∧ (pc : Int) + o = (t : Int) ∧ P t) ∨ ((x.toInt < lo ∨ lo + os.length ≤ x.toInt) ∧ P d)
  | lo, [], [], _, h => Or.inr ⟨by simp; omega, h⟩
  | lo, o :: os, (k, t) :: r, hb, h => by
    simp only [ztsB, Bool.and_eq_true, decide_eq_true_eq] at hb
    by_cases hk : x = k
    · exact Or.inl ⟨0, o, t, rfl, by rw [hk, hb.1.1]; simp, hb.1.2, h.1 hk⟩
    · rcases zsw_tab hb.2 (h.2 hk) with ⟨j, o', t', h1, h2, h3, h4⟩ | ⟨h1, h2⟩
      · exact Or.inl ⟨j + 1, o', t', by simpa using h1, by push_cast; omega, h3, h4⟩
      · have hne : ¬ x.toInt = lo := fun q => hk (Int32.toInt_inj.mp (by rw [hb.1.1]; exact q))
        refine Or.inr ⟨?_, h2⟩
        simp only [List.length_cons]
        push_cast
        omega
  | _, [], _ :: _, hb, _ => by simp [ztsB] at hb
  | _, _ :: _, [], hb, _ => by simp [ztsB] at hb
theorem zi_tsw (hx : p.tables.exec = Jvm.exec) (hb : c.code = cc) {df lo hi : Int} {os : Array Int} {len : Nat} {x : Int32} {tg : Nat} {ts : List (Int32 × Nat)} (hd : decode cc pc = .ok (.tableswitch df lo hi os, len)) (h0 : (pc : Int) + df = (tg : Int)) (h1 : ztsB pc lo os.toList ts = true) (h2 : hi = lo + os.toList.length - 1) (k : zsw (fun t => zPw p l e R s m args below meth c D dA base xq H0 X Q t ls st S) x tg ts) : zPw p l e R s m args below meth c D dA base xq H0 X Q pc ls (.int x :: st) S := by
  rcases zsw_tab h1 k with ⟨j, o, t, e1, e2, e3, e4⟩ | ⟨e1, e2⟩
  · intro H locs cells slots lsR a1 a2 a3 a4 a5 a6 a7 a8
    have hj : j < os.toList.length := (List.getElem?_eq_some_iff.mp e1).1
    refine lv_tableIn hx hb hd (by omega) (by omega) (off := o) ?_ e3 (e4 H locs cells slots lsR a1 a2 a3 a4 a5 a6 a7 a8)
    rw [show (x.toInt - lo).toNat = j by omega, ← Array.getElem?_toList]
    exact e1
  · exact fun H locs cells slots lsR a1 a2 a3 a4 a5 a6 a7 a8 => lv_tableOut hx hb hd (by omega) h0 (e2 H locs cells slots lsR a1 a2 a3 a4 a5 a6 a7 a8)
theorem zsw_look {P : Nat → Prop} {x : Int32} {d pc : Nat} {df : Int} (h0 : (pc : Int) + df = (d : Int)) : ∀ {os : List (Int × Int)} {ts : List (Int32 × Nat)}, zlsB pc os ts = true → zsw P x d ts → ∃ t : Nat, (pc : Int) + Op.lookupswitch.offset os df x.toInt = (t : Int) ∧ P t
  | [], [], _, h => ⟨d, by simpa [Op.lookupswitch.offset] using h0, h⟩
  | o :: os, (k, t) :: r, hb, h => by
    simp only [zlsB, Bool.and_eq_true, decide_eq_true_eq] at hb
    obtain ⟨a, b⟩ := o
    by_cases hk : x = k
    · refine ⟨t, ?_, h.1 hk⟩
      rw [Op.lookupswitch.offset_cons, if_pos (by rw [hk]; exact hb.1.1.symm)]
      exact hb.1.2
    · obtain ⟨t', e1, e2⟩ := zsw_look h0 hb.2 (h.2 hk)
      refine ⟨t', ?_, e2⟩
      rw [lv_osw hk hb.1.1]
      exact e1
  | [], _ :: _, hb, _ => by simp [zlsB] at hb
  | _ :: _, [], hb, _ => by simp [zlsB] at hb
theorem zi_lsw (hx : p.tables.exec = Jvm.exec) (hb : c.code = cc) {df : Int} {ps : Array (Int × Int)} {len : Nat} {x : Int32} {tg : Nat} {ts : List (Int32 × Nat)} (hd : decode cc pc = .ok (.lookupswitch df ps, len)) (h0 : (pc : Int) + df = (tg : Int)) (h1 : zlsB pc ps.toList ts = true) (h2 : (ps.toList.zip (ps.toList.drop 1)).all (fun (a, next) => a.1 < next.1) = true) (k : zsw (fun t => zPw p l e R s m args below meth c D dA base xq H0 X Q t ls st S) x tg ts) : zPw p l e R s m args below meth c D dA base xq H0 X Q pc ls (.int x :: st) S := by
  obtain ⟨t, e1, e2⟩ := zsw_look h0 h1 k
  exact fun H locs cells slots lsR a1 a2 a3 a4 a5 a6 a7 a8 => lv_lookup hx hb hd h2 rfl e1 (e2 H locs cells slots lsR a1 a2 a3 a4 a5 a6 a7 a8)
theorem zi_goto (hx : p.tables.exec = Jvm.exec) (hb : c.code = cc) {off : Int} {tg : Nat} (hd : decode cc pc = .ok (.goto off, 3)) (ht : (pc : Int) + off = (tg : Int)) (k : zPw p l e R s m args below meth c D dA base xq H0 X Q tg ls st S) : zPw p l e R s m args below meth c D dA base xq H0 X Q pc ls st S :=
  fun H locs cells slots lsR a1 a2 a3 a4 a5 a6 a7 a8 => lv_goto hx hb hd ht (k H locs cells slots lsR a1 a2 a3 a4 a5 a6 a7 a8)
end ZI
