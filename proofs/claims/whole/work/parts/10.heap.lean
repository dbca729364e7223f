/-! ===== fields and arrays ===== -/
theorem zlen_spec {S : zS} {t a n : Nat} (h : zlen S t a = some n) : zget S.2.2.1 a = some (.inr (t, n)) := by
  unfold zlen at h
  split at h
  · rename_i t' n' hg
    cases hb : Nat.beq t t'
    · rw [hb] at h; simp at h
    · rw [hb] at h
      simp at h
      rw [hg, Nat.eq_of_beq_eq_true hb, h]
  · cases h
theorem zalen_spec {S : zS} {a n : Nat} (h : zalen S a = some n) : ∃ t, zget S.2.2.1 a = some (.inr (t, n)) ∧ t < 5 := by
  unfold zalen at h
  split at h
  · rename_i t' n' hg
    cases hb : Nat.blt t' 5
    · rw [hb] at h; simp at h
    · rw [hb] at h
      simp at h
      rw [← h]
      exact ⟨t', hg, by simp [Nat.blt] at hb; omega⟩
  · cases h
theorem zfl_spec {own idx ci k kd row : Nat} {fin : Bool} (h : zlk2 zflL own idx = some (ci, k, kd, fin, row)) {C : String} (hC : zcn[own]? = some C) : ∃ r g, zcl[ci]? = some r ∧ zGs[ci]? = some g ∧ k < r.2.2 ∧ Cond.fieldLink C idx r.1 (r.2.1 k).2.1 (r.2.1 k).2.2.1 ∈ zWS ∧ (r.2.1 k).1 = r.1 ∧ zkd (g k) = kd ∧ (r.2.1 k).2.2.2 = fin := by
  have h1 := zall_spec zfl_ok h
  unfold zfl_chk at h1
  rw [hC] at h1
  cases hz : zcls ci with
  | none => rw [hz] at h1; simp at h1
  | some x =>
    obtain ⟨r, g⟩ := x
    rw [hz] at h1
    simp only [Bool.and_eq_true, decide_eq_true_eq, beq_iff_eq] at h1
    obtain ⟨⟨⟨⟨h1, h2⟩, h3⟩, h4⟩, h5⟩ := h1
    unfold zcls at hz
    cases ha : zcl[ci]? with
    | none => rw [ha] at hz; simp at hz
    | some r' =>
      cases hb : zGs[ci]? with
      | none => rw [ha, hb] at hz; simp at hz
      | some g' =>
        rw [ha, hb] at hz
        simp at hz
        obtain ⟨rfl, rfl⟩ := hz
        exact ⟨r', g', rfl, rfl, by simp [Nat.blt] at h1; omega, zWS_of h2, h3, Nat.eq_of_beq_eq_true h4, h5⟩
theorem zTy_at (dA : Nat → ClassId) {t : Nat} (ht : t < 5) : ∃ ty, (zTy dA)[t]? = some (dA t, ty) := by
  rcases (show t = 0 ∨ t = 1 ∨ t = 2 ∨ t = 3 ∨ t = 4 by omega) with rfl | rfl | rfl | rfl | rfl <;> exact ⟨_, rfl⟩
section ZH
variable {p : Program} {l : Launch} {e : Env} {R : Room} {s : State} {m : MethodId} {args : Array Value} {below : List Frame} {meth : Method} {c : Code} {D : va_G} {dA : Nat → ClassId} {base : Nat} {xq adV : Nat → Nat} {H0 : Heap} {X : zX} {Q : State → Prop} {cc : ByteArray} {pc : Nat} {ls st : List Value} {S : zS}
theorem zi_getf (hx : p.tables.exec = Jvm.exec) (hb : c.code = cc) {own : Nat} {C : String} (hC : zcn[own]? = some C) (hown : s.vm.findClass C = some m.cls) (hts : ∀ w ∈ zWS, w.before args s = true) (hK : va_K D zcl (zTy dA) s) {idx ci k kd row : Nat} {fin : Bool} (hl : zlk2 zflL own idx = some (ci, k, kd, fin, row)) {a : Nat} (ha : zget S.2.2.1 a = some (.inl ci)) (hd : decode cc pc = .ok (.getfield idx, 3)) (kk : zPw p l e R s m args below meth c D dA base xq H0 X Q (pc + 3) ls (zfv (Nat.beq kd 1) S a k :: st) S) : zPw p l e R s m args below meth c D dA base xq H0 X Q pc ls (.ref a :: st) S := by
  intro H locs cells slots lsR a1 a2 a3 a4 a5 a6 a7 a8
  obtain ⟨r, g, hr, hg, hk, hlink, hsame, hkd, -⟩ := zfl_spec hl hC
  obtain ⟨r', hr', cell, q1, q2, q3, q4⟩ := a2.2.2.2 a _ ha
  cases hr.symm.trans hr'
  obtain ⟨g', hg', -, hin, -⟩ := zus_of hr
  obtain ⟨hS, hfc, kC, hkC, hkind⟩ := hK.1 ci r hr
  obtain ⟨cf, kf, fi, f, hi, hsl⟩ := hS k hk
  have hi' : s.fieldFound? r.1 (r.2.1 k).2.1 (r.2.1 k).2.2.1 = some (cf, kf, fi, f) := by rw [← hsame]; exact hi
  refine W.getf hx hb hown (hts _ hlink) hi' (u_facts hfc hkC (u_lays hts hin hk) hi).1 q1 (by rw [q3]; exact fun h => by cases h) (v := zc (zq base xq) (zfv (Nat.beq kd 1) S a k)) ?_ rfl rfl hd (kk H locs cells slots lsR a1 a2 a3 a4 a5 a6 a7 a8)
  rw [hsl, q4 k hk]
  unfold zisR
  rw [hg, ← hkd]
theorem zput_lay (S : zS) (c k : Nat) (v : Value) : (zput S c k v).2.2.1 = S.2.2.1 ∧ (zput S c k v).1 = S.1 ∧ (zput S c k v).2.1 = S.2.1 := by
  cases v <;> exact ⟨rfl, rfl, rfl⟩
theorem zput_ne (S : zS) (c k : Nat) (v : Value) : ∀ c', c' ≠ c → (zput S c k v).2.2.2.1 c' = S.2.2.2.1 c' ∧ (zput S c k v).2.2.2.2.1 c' = S.2.2.2.2.1 c' ∧ (zput S c k v).2.2.2.2.2 c' = S.2.2.2.2.2 c' := by
  intro c' h
  cases v <;> simp [zput, zu, h]
theorem zpok_fit {ty : FieldType} {v : Value} (q : Nat → Nat) (h : zpok (zkd ty) v) : narrow ty (zc q v) = zc q v ∧ fits ty (zc q v) = true := by
  cases ty <;> cases v <;> simp only [zkd, zpok] at h <;> first | exact h.elim | (rcases h with rfl | rfl <;> exact ⟨rfl, rfl⟩) | exact ⟨rfl, rfl⟩
theorem zput_fv {S : zS} {c k j : Nat} {v : Value} {ty tj : FieldType} (h : zpok (zkd ty) v) (hj : j = k → tj = ty) : zfv (Nat.beq (zkd tj) 1) (zput S c k v) c j = if j = k then v else zfv (Nat.beq (zkd tj) 1) S c j := by
  by_cases e : j = k
  · rw [if_pos e, hj e]
    subst e
    cases ty <;> cases v <;> simp only [zkd, zpok] at h <;> first | exact h.elim | (simp [zfv, zkd, zput, zu, zrv]; done) | (simp [zfv, zkd, zput, zu, zrv]; rfl)
  · rw [if_neg e]
    cases v <;> simp [zfv, zput, zu, e]
theorem zi_putf (hx : p.tables.exec = Jvm.exec) (hb : c.code = cc) {own : Nat} {C : String} {ini : Bool} (hC : zcn[own]? = some C) (hown : s.vm.findClass C = some m.cls) (hts : ∀ w ∈ zWS, w.before args s = true) (hK : va_K D zcl (zTy dA) s) (hini : ini = true → meth.name = "<init>") (hbase : H0.size = base) {idx ci k kd row : Nat} {fin : Bool} (hl : zlk2 zflL own idx = some (ci, k, kd, fin, row)) {a : Nat} {v : Value} (ha : zget S.2.2.1 a = some (.inl ci)) (hv : zpok kd v) (hfin : fin = true → ini = true ∧ own = ci) (hd : decode cc pc = .ok (.putfield idx, 3)) (kk : zPw p l e R s m args below meth c D dA base xq H0 X Q (pc + 3) ls st (zput S a k v)) : zPw p l e R s m args below meth c D dA base xq H0 X Q pc ls (v :: .ref a :: st) S := by
  intro H locs cells slots lsR a1 a2 a3 a4 a5 a6 a7 a8
  obtain ⟨r, g, hr, hg, hk, hlink, hsame, hkd, hfn⟩ := zfl_spec hl hC
  obtain ⟨r', hr', cell, q1, q2, q3, q4⟩ := a2.2.2.2 a _ ha
  cases hr.symm.trans hr'
  obtain ⟨g', hg', -, hin, hty, hnm, -⟩ := zus_of hr
  cases hg.symm.trans hg'
  obtain ⟨hS, hfc, kC, hkC, hkind⟩ := hK.1 ci r hr
  obtain ⟨cf, kf, fi, f, hi, hsl⟩ := hS k hk
  have hi' : s.fieldFound? r.1 (r.2.1 k).2.1 (r.2.1 k).2.2.1 = some (cf, kf, fi, f) := by rw [← hsame]; exact hi
  have hap := va_apart (own := C) (cl := zcl) (tys := zTy dA) (D := D) (T := r.2.1) (N := r.2.2) (C := r.1) hts hin g hty hnm hK hr
  have hst := (u_facts hfc hkC (u_lays hts hin hk) hi).1
  subst hkd
  obtain ⟨hn, hf⟩ := zpok_fit (zq base xq) hv
  have ha1 : a < 1000 := Nat.lt_of_lt_of_le (zget_lt ha) a2.2.2.1
  have hlt : f.slot < cell.slots.size := by rw [hsl]; exact k2_hasslot (q4 k hk)
  have hfinish : ∀ H' : Heap, H'[zq base xq a]? = some (cell.setSlot f.slot (zc (zq base xq) v)) → H'.size = H.size → (∀ q, q ≠ zq base xq a → H'[q]? = H[q]?) → W p l e R s m args below meth c H' (locs ++ [⟨zq base xq a, f.slot⟩]) cells slots Q (F0 m (pc + 3) lsR (st.map (zc (zq base xq)))) := by
    intro H' e1 e2 e3
    rw [hsl] at e1
    obtain ⟨p1, p2, p3⟩ := zput_lay S a k v
    refine kk H' _ cells slots lsR (by rw [p2]; exact a1) (zWd_set a2 p1 ha (zput_ne S a k v) e2 e3 ⟨r, hr, _, e1, q2, q3, fun j hj => ?_⟩) (by rw [e2]; exact a3) (fun z hz => ?_) (by rw [p3]; exact a5) (by rw [p3]; exact a6) a7 a8
    · rw [t_set q4 hap hk (zc (zq base xq) v) j hj]
      unfold zisR
      rw [hg]
      dsimp only
      rw [zput_fv (ty := g k) (tj := g j) hv (fun h => by rw [h])]
      unfold updV
      by_cases ej : j = k
      · rw [if_pos ej, if_pos ej]
      · rw [if_neg ej, if_neg ej]
    · rcases List.mem_append.mp hz with h | h
      · exact a4 z h
      · rw [List.mem_singleton.mp h]
        show base ≤ zq base xq a
        rw [zq_lo ha1]
        omega
  by_cases hfi : fin = true
  · obtain ⟨hi1, rfl⟩ := hfin hfi
    have hlay := hts _ (hin _ (u_in_lay hk))
    unfold u_lay at hlay
    rw [if_pos (by rw [hfn]; exact hfi)] at hlay
    have hCr : C = r.1 := by
      obtain ⟨h1, h2⟩ := (List.getElem?_eq_some_iff.mp hC)
      have hci : own < 11 := by rw [← zcl_len]; exact (List.getElem?_eq_some_iff.mp hr).1
      rcases (show own = 0 ∨ own = 1 ∨ own = 2 ∨ own = 3 ∨ own = 4 ∨ own = 5 ∨ own = 6 ∨ own = 7 ∨ own = 8 ∨ own = 9 ∨ own = 10 by omega) with e | e | e | e | e | e | e | e | e | e | e <;> subst e <;> cases hr <;> cases hC <;> rfl
    have hcf : m.cls = cf := by
      obtain ⟨_, _, c', _, _, _, -, -, hf', -, -, -, hown2, -⟩ := Cond.laysFinal_spec hlay
      have e1 : c' = cf := by have := hi.symm.trans hf'; simp at this; exact this.1.symm
      rw [hsame, ← hCr] at hown2
      rw [← e1]; exact Option.some.inj (hown.symm.trans hown2)
    have h6 := u_fits hfc hkC hkind (Or.inr hlay) hi (hty k hk) hn hf
    exact W.putFinK hx hb hown (hts _ hlink) hi' hst hcf (hini hi1) (by rw [q2]; exact h6) q1 q3 hlt rfl rfl hd hfinish
  · have hlay := hts _ (hin _ (u_in_lay hk))
    unfold u_lay at hlay
    rw [if_neg (by rw [hfn]; exact hfi)] at hlay
    have h6 := u_store hfc hkC hkind hlay hi (hty k hk) hn hf
    exact W.putK hx hb (f := f) ⟨hown, hts _ hlink, ⟨_, _, _, hi'⟩, hst⟩ (by rw [q2]; exact h6) q1 q3 hlt rfl rfl hd hfinish
theorem zvaS {H : Heap} {locs : List Loc} (hs1 : base ≤ s.heap.size) (hs2 : ∀ a : Nat, a < base → s.heap[a]? = H0[a]?) (hW : zWd D dA base xq H0 S H) (hsz : s.heap.size ≤ H.size) (hl : ∀ z ∈ locs, base ≤ z.base) : va_S (zA base) s.heap H locs :=
  ⟨hsz, fun a ha hn => (hW.2.1 a (Nat.lt_of_not_le hn)).trans (hs2 a (Nat.lt_of_not_le hn)).symm, hl⟩
theorem zi_iald (hx : p.tables.exec = Jvm.exec) (hb : c.code = cc) (hK : va_K D zcl (zTy dA) s) {a n : Nat} {i : Int32} (hl : zlen S 0 a = some n) (hi : vp_in i n) (hd : decode cc pc = .ok (.iaload, 1)) (kk : zPw p l e R s m args below meth c D dA base xq H0 X Q (pc + 1) ls (.int (S.2.2.2.2.2 a i.toNatClampNeg) :: st) S) : zPw p l e R s m args below meth c D dA base xq H0 X Q pc ls (.int i :: .ref a :: st) S := by
  intro H locs cells slots lsR a1 a2 a3 a4 a5 a6 a7 a8
  have hg := a2.2.2.2 a _ (zlen_spec hl)
  have hlt : i.toNatClampNeg < n := Nat.not_le.mp fun q => hi (Or.inr q)
  exact W.iald (v := .int (S.2.2.2.2.2 a i.toNatClampNeg)) hx hb hg ((hK.2 0 (dA 0, .int) rfl).1 n _) (fun q => by cases q) (by show ¬ (i < 0 ∨ (arrV _ _ _).slots.size ≤ _); rw [arrV_size]; exact hi) (by rw [arrV_read _ _ hlt]; rfl) rfl rfl hd (kk H locs cells slots lsR a1 a2 a3 a4 a5 a6 a7 a8)
theorem zi_iaX (hx : p.tables.exec = Jvm.exec) (hb : c.code = cc) (hXt : zXt X (zq base xq) adV base H0 s) (hbase : H0.size = base) (hs1 : base ≤ s.heap.size) (hs2 : ∀ a : Nat, a < base → s.heap[a]? = H0[a]?) {a : Nat} {x : Nat × (Nat → Int32)} {i : Int32} (hl : S.1 a = some x) (hi : vp_in i x.1) (hd : decode cc pc = .ok (.iaload, 1)) (kk : zPw p l e R s m args below meth c D dA base xq H0 X Q (pc + 1) ls (.int (x.2 i.toNatClampNeg) :: st) S) : zPw p l e R s m args below meth c D dA base xq H0 X Q pc ls (.int i :: .ref a :: st) S := by
  intro H locs cells slots lsR a1 a2 a3 a4 a5 a6 a7 a8
  have hT := (hXt.1 a x (by rw [← a1]; exact hl)).kept (H1 := s.heap) (fun z hz _ => hs2 z (by omega))
  exact va_ti hx hb hT (zvaS hs1 hs2 a2 a3 a4) hi rfl hd (kk H locs cells slots lsR a1 a2 a3 a4 a5 a6 a7 a8)
theorem zi_bald (hx : p.tables.exec = Jvm.exec) (hb : c.code = cc) (hK : va_K D zcl (zTy dA) s) {a n : Nat} {i : Int32} (hl : zlen S 1 a = some n ∨ zlen S 2 a = some n) (hi : vp_in i n) (hd : decode cc pc = .ok (.baload, 1)) (kk : zPw p l e R s m args below meth c D dA base xq H0 X Q (pc + 1) ls (.int (S.2.2.2.2.2 a i.toNatClampNeg) :: st) S) : zPw p l e R s m args below meth c D dA base xq H0 X Q pc ls (.int i :: .ref a :: st) S := by
  intro H locs cells slots lsR a1 a2 a3 a4 a5 a6 a7 a8
  have hlt : i.toNatClampNeg < n := Nat.not_le.mp fun q => hi (Or.inr q)
  rcases hl with hl | hl
  · have hg := a2.2.2.2 a _ (zlen_spec hl)
    exact W.bald (v := .int (S.2.2.2.2.2 a i.toNatClampNeg)) hx hb hg ((hK.2 1 (dA 1, .byte) rfl).1 n _) (fun q => by cases q) (by show ¬ (i < 0 ∨ (arrV _ _ _).slots.size ≤ _); rw [arrV_size]; exact hi) (by rw [arrV_read _ _ hlt]; rfl) rfl rfl hd (kk H locs cells slots lsR a1 a2 a3 a4 a5 a6 a7 a8)
  · have hg := a2.2.2.2 a _ (zlen_spec hl)
    exact W.zald (v := .int (S.2.2.2.2.2 a i.toNatClampNeg)) hx hb hg ((hK.2 2 (dA 2, .boolean) rfl).1 n _) (fun q => by cases q) (by show ¬ (i < 0 ∨ (arrV _ _ _).slots.size ≤ _); rw [arrV_size]; exact hi) (by rw [arrV_read _ _ hlt]; rfl) rfl rfl hd (kk H locs cells slots lsR a1 a2 a3 a4 a5 a6 a7 a8)
theorem zi_lald (hx : p.tables.exec = Jvm.exec) (hb : c.code = cc) (hK : va_K D zcl (zTy dA) s) {a n : Nat} {i : Int32} (hl : zlen S 3 a = some n) (hi : vp_in i n) (hd : decode cc pc = .ok (.laload, 1)) (kk : zPw p l e R s m args below meth c D dA base xq H0 X Q (pc + 1) ls (.long (S.2.2.2.2.1 a i.toNatClampNeg) :: st) S) : zPw p l e R s m args below meth c D dA base xq H0 X Q pc ls (.int i :: .ref a :: st) S := by
  intro H locs cells slots lsR a1 a2 a3 a4 a5 a6 a7 a8
  have hg := a2.2.2.2 a _ (zlen_spec hl)
  have hlt : i.toNatClampNeg < n := Nat.not_le.mp fun q => hi (Or.inr q)
  exact W.lald (v := .long (S.2.2.2.2.1 a i.toNatClampNeg)) hx hb hg ((hK.2 3 (dA 3, .long) rfl).1 n _) (fun q => by cases q) (by show ¬ (i < 0 ∨ (arrV _ _ _).slots.size ≤ _); rw [arrV_size]; exact hi) (by rw [arrV_read _ _ hlt]; rfl) rfl rfl hd (kk H locs cells slots lsR a1 a2 a3 a4 a5 a6 a7 a8)
theorem zi_aald (hx : p.tables.exec = Jvm.exec) (hb : c.code = cc) (hK : va_K D zcl (zTy dA) s) {a n : Nat} {i : Int32} (hl : zlen S 4 a = some n) (hi : vp_in i n) (hd : decode cc pc = .ok (.aaload, 1)) (kk : zPw p l e R s m args below meth c D dA base xq H0 X Q (pc + 1) ls (zrv (S.2.2.2.1 a i.toNatClampNeg) :: st) S) : zPw p l e R s m args below meth c D dA base xq H0 X Q pc ls (.int i :: .ref a :: st) S := by
  intro H locs cells slots lsR a1 a2 a3 a4 a5 a6 a7 a8
  have hg := a2.2.2.2 a _ (zlen_spec hl)
  have hlt : i.toNatClampNeg < n := Nat.not_le.mp fun q => hi (Or.inr q)
  exact W.aald (v := zc (zq base xq) (zrv (S.2.2.2.1 a i.toNatClampNeg))) hx hb hg ((hK.2 4 (dA 4, .object "BoatsMoveOn$Text") rfl).1 n _) rfl (fun q => by cases q) (by show ¬ (i < 0 ∨ (arrV _ _ _).slots.size ≤ _); rw [arrV_size]; exact hi) (by rw [arrV_read _ _ hlt]; rfl) rfl rfl hd (kk H locs cells slots lsR a1 a2 a3 a4 a5 a6 a7 a8)
theorem zu_ne {α : Type} {M : Nat → Nat → α} {c k c' : Nat} {v : α} (h : c' ≠ c) : zu M c k v c' = M c' := by simp [zu, h]
theorem zu_at {α : Type} (M : Nat → Nat → α) (c k j : Nat) (v : α) : zu M c k v c j = if j = k then v else M c j := by simp [zu]
theorem zlocs {locs : List Loc} {a k : Nat} (ha : a < 1000) (h : ∀ z ∈ locs, base ≤ z.base) : ∀ z ∈ locs ++ [(⟨zq base xq a, k⟩ : Loc)], base ≤ z.base := by
  intro z hz
  rcases List.mem_append.mp hz with h' | h'
  · exact h z h'
  · rw [List.mem_singleton.mp h']
    show base ≤ zq base xq a
    rw [zq_lo ha]
    omega
theorem zi_iast (hx : p.tables.exec = Jvm.exec) (hb : c.code = cc) (hK : va_K D zcl (zTy dA) s) {a n : Nat} {i x : Int32} (hl : zlen S 0 a = some n) (hi : vp_in i n) (hd : decode cc pc = .ok (.iastore, 1)) (kk : zPw p l e R s m args below meth c D dA base xq H0 X Q (pc + 1) ls st (S.1, S.2.1, S.2.2.1, S.2.2.2.1, S.2.2.2.2.1, zu S.2.2.2.2.2 a i.toNatClampNeg x)) : zPw p l e R s m args below meth c D dA base xq H0 X Q pc ls (.int x :: .int i :: .ref a :: st) S := by
  intro H locs cells slots lsR a1 a2 a3 a4 a5 a6 a7 a8
  have hga := zlen_spec hl
  have hg := a2.2.2.2 a _ hga
  refine W.iast hx hb hg ((hK.2 0 (dA 0, .int) rfl).1 n _) (fun q => by cases q) (by show ¬ (i < 0 ∨ (arrV _ _ _).slots.size ≤ _); rw [arrV_size]; exact hi) rfl rfl hd fun H1 e1 e2 e3 => ?_
  refine kk H1 _ cells slots lsR a1 (zWd_set a2 rfl hga (fun c' hc => ⟨rfl, rfl, zu_ne hc⟩) e2 e3 ?_) (by rw [e2]; exact a3) (zlocs (Nat.lt_of_lt_of_le (zget_lt hga) a2.2.2.1) a4) a5 a6 a7 a8
  show H1[_]? = some (arrV _ _ _)
  rw [e1, arrV_store]
  congr 2
  funext j
  by_cases hj : j = i.toNatClampNeg
  · first | (simp [updV, zel, zu, hj]; done) | (simp [updV, zel, zu, hj]; rfl)
  · first | (simp [updV, zel, zu, hj]; done) | (simp [updV, zel, zu, hj]; rfl)
theorem zi_bast (hx : p.tables.exec = Jvm.exec) (hb : c.code = cc) (hK : va_K D zcl (zTy dA) s) {a n : Nat} {i x : Int32} (hl : zlen S 1 a = some n) (hi : vp_in i n) (hd : decode cc pc = .ok (.bastore, 1)) (kk : zPw p l e R s m args below meth c D dA base xq H0 X Q (pc + 1) ls st (S.1, S.2.1, S.2.2.1, S.2.2.2.1, S.2.2.2.2.1, zu S.2.2.2.2.2 a i.toNatClampNeg (vp_nar .byte x))) : zPw p l e R s m args below meth c D dA base xq H0 X Q pc ls (.int x :: .int i :: .ref a :: st) S := by
  intro H locs cells slots lsR a1 a2 a3 a4 a5 a6 a7 a8
  have hga := zlen_spec hl
  have hg := a2.2.2.2 a _ hga
  refine W.bast hx hb hg ((hK.2 1 (dA 1, .byte) rfl).1 n _) (fun q => by cases q) (by show ¬ (i < 0 ∨ (arrV _ _ _).slots.size ≤ _); rw [arrV_size]; exact hi) rfl rfl hd fun H1 e1 e2 e3 => ?_
  refine kk H1 _ cells slots lsR a1 (zWd_set a2 rfl hga (fun c' hc => ⟨rfl, rfl, zu_ne hc⟩) e2 e3 ?_) (by rw [e2]; exact a3) (zlocs (Nat.lt_of_lt_of_le (zget_lt hga) a2.2.2.1) a4) a5 a6 a7 a8
  show H1[_]? = some (arrV _ _ _)
  rw [e1, arrV_store]
  congr 2
  funext j
  by_cases hj : j = i.toNatClampNeg
  · first | (simp [updV, zel, zu, hj, vp_nar, narrow]; done) | (simp [updV, zel, zu, hj, vp_nar, narrow]; rfl)
  · first | (simp [updV, zel, zu, hj]; done) | (simp [updV, zel, zu, hj]; rfl)
theorem zi_zast (hx : p.tables.exec = Jvm.exec) (hb : c.code = cc) (hK : va_K D zcl (zTy dA) s) {a n : Nat} {i x : Int32} (hl : zlen S 2 a = some n) (hi : vp_in i n) (hd : decode cc pc = .ok (.bastore, 1)) (kk : zPw p l e R s m args below meth c D dA base xq H0 X Q (pc + 1) ls st (S.1, S.2.1, S.2.2.1, S.2.2.2.1, S.2.2.2.2.1, zu S.2.2.2.2.2 a i.toNatClampNeg (vp_nar .boolean x))) : zPw p l e R s m args below meth c D dA base xq H0 X Q pc ls (.int x :: .int i :: .ref a :: st) S := by
  intro H locs cells slots lsR a1 a2 a3 a4 a5 a6 a7 a8
  have hga := zlen_spec hl
  have hg := a2.2.2.2 a _ hga
  refine W.zast hx hb hg ((hK.2 2 (dA 2, .boolean) rfl).1 n _) (fun q => by cases q) (by show ¬ (i < 0 ∨ (arrV _ _ _).slots.size ≤ _); rw [arrV_size]; exact hi) rfl rfl hd fun H1 e1 e2 e3 => ?_
  refine kk H1 _ cells slots lsR a1 (zWd_set a2 rfl hga (fun c' hc => ⟨rfl, rfl, zu_ne hc⟩) e2 e3 ?_) (by rw [e2]; exact a3) (zlocs (Nat.lt_of_lt_of_le (zget_lt hga) a2.2.2.1) a4) a5 a6 a7 a8
  show H1[_]? = some (arrV _ _ _)
  rw [e1, arrV_store]
  congr 2
  funext j
  by_cases hj : j = i.toNatClampNeg
  · first | (simp [updV, zel, zu, hj, vp_nar, narrow]; done) | (simp [updV, zel, zu, hj, vp_nar, narrow]; rfl)
  · first | (simp [updV, zel, zu, hj]; done) | (simp [updV, zel, zu, hj]; rfl)
theorem zi_last (hx : p.tables.exec = Jvm.exec) (hb : c.code = cc) (hK : va_K D zcl (zTy dA) s) {a n : Nat} {i : Int32} {x : Int64} (hl : zlen S 3 a = some n) (hi : vp_in i n) (hd : decode cc pc = .ok (.lastore, 1)) (kk : zPw p l e R s m args below meth c D dA base xq H0 X Q (pc + 1) ls st (S.1, S.2.1, S.2.2.1, S.2.2.2.1, zu S.2.2.2.2.1 a i.toNatClampNeg x, S.2.2.2.2.2)) : zPw p l e R s m args below meth c D dA base xq H0 X Q pc ls (.long x :: .int i :: .ref a :: st) S := by
  intro H locs cells slots lsR a1 a2 a3 a4 a5 a6 a7 a8
  have hga := zlen_spec hl
  have hg := a2.2.2.2 a _ hga
  refine W.last hx hb hg ((hK.2 3 (dA 3, .long) rfl).1 n _) (fun q => by cases q) (by show ¬ (i < 0 ∨ (arrV _ _ _).slots.size ≤ _); rw [arrV_size]; exact hi) rfl rfl hd fun H1 e1 e2 e3 => ?_
  refine kk H1 _ cells slots lsR a1 (zWd_set a2 rfl hga (fun c' hc => ⟨rfl, zu_ne hc, rfl⟩) e2 e3 ?_) (by rw [e2]; exact a3) (zlocs (Nat.lt_of_lt_of_le (zget_lt hga) a2.2.2.1) a4) a5 a6 a7 a8
  show H1[_]? = some (arrV _ _ _)
  rw [e1, arrV_store]
  congr 2
  funext j
  by_cases hj : j = i.toNatClampNeg
  · first | (simp [updV, zel, zu, hj]; done) | (simp [updV, zel, zu, hj]; rfl)
  · first | (simp [updV, zel, zu, hj]; done) | (simp [updV, zel, zu, hj]; rfl)
theorem zi_aast (hx : p.tables.exec = Jvm.exec) (hb : c.code = cc) (hK : va_K D zcl (zTy dA) s) {a n v : Nat} {i : Int32} (hl : zlen S 4 a = some n) (hi : vp_in i n) (hv : zget S.2.2.1 v = some (.inl 8)) (hd : decode cc pc = .ok (.aastore, 1)) (kk : zPw p l e R s m args below meth c D dA base xq H0 X Q (pc + 1) ls st (S.1, S.2.1, S.2.2.1, zu S.2.2.2.1 a i.toNatClampNeg (some v), S.2.2.2.2.1, S.2.2.2.2.2)) : zPw p l e R s m args below meth c D dA base xq H0 X Q pc ls (.ref v :: .int i :: .ref a :: st) S := by
  intro H locs cells slots lsR a1 a2 a3 a4 a5 a6 a7 a8
  have hga := zlen_spec hl
  have hg := a2.2.2.2 a _ hga
  have hlt : i.toNatClampNeg < n := Nat.not_le.mp fun q => hi (Or.inr q)
  have h0 : ¬ i < 0 := fun q => hi (Or.inl q)
  obtain ⟨r', hr', cellV, g1, g2, g3, -⟩ := a2.2.2.2 v _ hv
  have hcls := (hK.1 8 r' hr').2
  obtain ⟨kA, comp, k1, k2, k3, -⟩ := (hK.2 4 (dA 4, .object "BoatsMoveOn$Text") rfl).2
  have hr1 : r'.1 = "BoatsMoveOn$Text" := by cases hr'; rfl
  have hcomp : comp = D.1 8 := Option.some.inj (k3.symm.trans (by rw [← hr1]; exact hcls.1))
  subst hcomp
  obtain ⟨kC, hkC, -⟩ := hcls.2
  refine W.aast hx hb hg (fun q h => by cases h) (fun h => by cases h) k1 k2 rfl hkC ⟨h0, by show _ < (arrV _ _ _).slots.size; rw [arrV_size]; exact hlt⟩ g1 (fun q h => by rw [g3] at h; cases h) (by rw [g2]; exact hkC) (by rw [g2]; exact va_assign hcls) rfl rfl hd fun H1 e1 e2 e3 => ?_
  refine kk H1 _ cells slots lsR a1 (zWd_set a2 rfl hga (fun c' hc => ⟨zu_ne hc, rfl, rfl⟩) e2 e3 ?_) (by rw [e2]; exact a3) (zlocs (Nat.lt_of_lt_of_le (zget_lt hga) a2.2.2.1) a4) a5 a6 a7 a8
  show H1[_]? = some (arrV _ _ _)
  rw [e1, arrV_store]
  congr 2
  funext j
  by_cases hj : j = i.toNatClampNeg
  · first | (simp [updV, zel, zu, hj, zrv, zc]; done) | (simp [updV, zel, zu, hj, zrv, zc]; rfl)
  · first | (simp [updV, zel, zu, hj]; done) | (simp [updV, zel, zu, hj]; rfl)
theorem zi_alen (hx : p.tables.exec = Jvm.exec) (hb : c.code = cc) (hK : va_K D zcl (zTy dA) s) {a n : Nat} (hl : zalen S a = some n) (hd : decode cc pc = .ok (.arraylength, 1)) (kk : zPw p l e R s m args below meth c D dA base xq H0 X Q (pc + 1) ls (.int (Int32.ofNat n) :: st) S) : zPw p l e R s m args below meth c D dA base xq H0 X Q pc ls (.ref a :: st) S := by
  intro H locs cells slots lsR a1 a2 a3 a4 a5 a6 a7 a8
  obtain ⟨t, hga, ht5⟩ := zalen_spec hl
  have hg := a2.2.2.2 a _ hga
  obtain ⟨ty, hty⟩ := zTy_at dA ht5
  exact W.alen (n := Int32.ofNat n) hx hb hg ((hK.2 t (dA t, ty) hty).1 n _) (by rw [arrV_size]) rfl rfl hd (kk H locs cells slots lsR a1 a2 a3 a4 a5 a6 a7 a8)
theorem zi_alX (hx : p.tables.exec = Jvm.exec) (hb : c.code = cc) (hXt : zXt X (zq base xq) adV base H0 s) (hbase : H0.size = base) (hs1 : base ≤ s.heap.size) (hs2 : ∀ a : Nat, a < base → s.heap[a]? = H0[a]?) {a : Nat} {x : Nat × (Nat → Int32)} (hl : S.1 a = some x) (hd : decode cc pc = .ok (.arraylength, 1)) (kk : zPw p l e R s m args below meth c D dA base xq H0 X Q (pc + 1) ls (.int (Int32.ofNat x.1) :: st) S) : zPw p l e R s m args below meth c D dA base xq H0 X Q pc ls (.ref a :: st) S := by
  intro H locs cells slots lsR a1 a2 a3 a4 a5 a6 a7 a8
  have hT := (hXt.1 a x (by rw [← a1]; exact hl)).kept (H1 := s.heap) (fun z hz _ => hs2 z (by omega))
  exact va_tlen hx hb hT (zvaS hs1 hs2 a2 a3 a4) rfl hd (kk H locs cells slots lsR a1 a2 a3 a4 a5 a6 a7 a8)
end ZH
