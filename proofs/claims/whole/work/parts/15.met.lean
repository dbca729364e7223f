/-! ===== a call of the pure machine is a contract of the machine ===== -/
theorem zarg_sl (q : Nat → Nat) : ∀ as : List Value, (lg_sl (as.map (zc q))).length = (zarg as).length
  | [] => rfl
  | v :: t => by
    have ih := zarg_sl q t
    by_cases h : v.category = 2
    · have e1 : zarg (v :: t) = v :: .null :: zarg t := by simp [zarg, h]
      rw [e1]
      simp [lg_sl, zcat_zc, h] at ih ⊢
      omega
    · have e1 : zarg (v :: t) = v :: zarg t := by
        have : Nat.beq v.category 2 = false := by
          cases hb : Nat.beq v.category 2
          · rfl
          · exact absurd (Nat.eq_of_beq_eq_true hb) h
        simp [zarg, this]
      rw [e1]
      simp [lg_sl, zcat_zc, h] at ih ⊢
      omega
theorem zarg_at (q : Nat → Nat) : ∀ (as : List Value) (k i : Nat) (v : Value), zget (zarg as) i = some v → v ≠ .null → (k + i, zc q v) ∈ lv_args k (as.map (zc q))
  | [], k, i, v, h, _ => by simp [zarg, zget] at h
  | w :: t, k, i, v, h, hv => by
    by_cases hc : w.category = 2
    · have e1 : zarg (w :: t) = w :: .null :: zarg t := by simp [zarg, hc]
      rw [e1] at h
      simp only [List.map_cons, lv_args, zcat_zc, hc, if_true]
      match i, h with
      | 0, h =>
        simp [zget] at h
        rw [h]
        exact List.mem_cons_self
      | 1, h =>
        simp [zget] at h
        exact absurd h.symm hv
      | i + 2, h =>
        have := zarg_at q t (k + 2) i v h hv
        rw [show k + 2 + i = k + (i + 2) by omega] at this
        exact List.mem_cons_of_mem _ this
    · have e1 : zarg (w :: t) = w :: zarg t := by
        have : Nat.beq w.category 2 = false := by
          cases hb : Nat.beq w.category 2
          · rfl
          · exact absurd (Nat.eq_of_beq_eq_true hb) hc
        simp [zarg, this]
      rw [e1] at h
      simp only [List.map_cons, lv_args, zcat_zc, hc, if_false]
      match i, h with
      | 0, h =>
        simp [zget] at h
        rw [h]
        exact List.mem_cons_self
      | i + 1, h =>
        have := zarg_at q t (k + 1) i v h hv
        rw [show k + 1 + i = k + (i + 1) by omega] at this
        exact List.mem_cons_of_mem _ this
theorem zfill_len : ∀ (n : Nat) (l : List Value), (zfill n l).length = n
  | 0, _ => rfl
  | n + 1, [] => by simp [zfill, zfill_len n]
  | n + 1, v :: t => by simp [zfill, zfill_len n]
theorem zfill_at : ∀ (n : Nat) (l : List Value) (i : Nat) (v : Value), zget (zfill n l) i = some v → v ≠ .null → zget l i = some v
  | 0, l, i, v, h, _ => by simp [zfill, zget] at h
  | n + 1, [], 0, v, h, hv => by simp [zfill, zget] at h; exact absurd h.symm hv
  | n + 1, [], i + 1, v, h, hv => by
    have := zfill_at n [] i v h hv
    simp [zget] at this
  | n + 1, w :: t, 0, v, h, _ => h
  | n + 1, w :: t, i + 1, v, h, hv => zfill_at n t i v h hv
theorem zLr_entry {q : Nat → Nat} {as : List Value} {n : Nat} {lsR : Array Slot} (h : lv_has lsR n (lv_args 0 (as.map (zc q)))) : zLr q lsR (zfill n (zarg as)) :=
  ⟨h.2.1, by rw [zfill_len]; exact h.1, fun i v hi hv => by
    have h1 := zarg_at q as 0 i v (zfill_at n _ i v hi hv) hv
    rw [Nat.zero_add] at h1
    exact h.2.2 _ h1⟩
section ZM
variable {l : Launch} {D : va_G} {dA : Nat → ClassId} {base : Nat} {xq adV : Nat → Nat} {H0 : Heap} {X : zX}
theorem znarb {x : Int32} (h : x = 0 ∨ x = 1) : narrow .boolean (.int x) = .int x := by
  rcases h with rfl | rfl <;> rfl
/-- an end of a body -/
theorem zend {p : Program} {e : Env} {R : Room} {s : State} {m : MethodId} {args : Array Value} {below : List Frame} {meth : Method} {c : Code} {cc : ByteArray} {rt mc ms : Nat} {ret : Option FieldType} {F : Option Value → zS → Prop} (hx : p.tables.exec = Jvm.exec) (hb : c.code = cc) (hr : meth.sig.returnType = ret) (hrt : zrtB rt ret = true) (hlocks : meth.locks = false) (hRc : R.cells = mc) (hRs : R.slots = ms) (i : Instr) (v : Option Value) (pc : Nat) (ls : List Value) (S : zS) (ho : zRo rt i v) (hd : decode cc pc = .ok (i, 1)) (hF : F v S) : zPw p l e R s m args below meth c D dA base xq H0 X (MQ below (zPost D dA base xq H0 X F) args s mc ms (zA base)) pc ls v.toList S := by
  intro H locs cells slots lsR a1 a2 a3 a4 a5 a6 a7 a8
  refine W.widen (k := mc) (n := ms) (by omega) (by omega) ?_
  have key : ∀ t : State, t.heap = H → zPost D dA base xq H0 X F args s (.returned (v.map (zc (zq base xq)))) t := fun t ht => ⟨v, S, rfl, hF, a1, by rw [ht]; exact a2, by rw [ht]; exact a3⟩
  rcases ho with ⟨rfl, x, rfl, h⟩ | ⟨rfl, h, x, rfl⟩ | ⟨rfl, h, a, rfl⟩ | ⟨rfl, h, rfl⟩
  · rcases h with h | ⟨h, h2⟩
    · subst h
      have : ret = some .int := by
        unfold zrtB at hrt
        split at hrt <;> first | rfl | (simp at hrt; done) | (cases hrt)
      subst this
      exact W.iret hx hb hr (fun t ht _ => key t ht) a4 hd hlocks
    · subst h
      have : ret = some .boolean := by
        unfold zrtB at hrt
        split at hrt <;> first | rfl | (simp at hrt; done) | (cases hrt)
      subst this
      exact W.zret hx hb hr (znarb h2) (fun t ht _ => key t ht) a4 hd hlocks
  · subst h
    have : ret = some .long := by
      unfold zrtB at hrt
      split at hrt <;> first | rfl | (simp at hrt; done) | (cases hrt)
    subst this
    exact W.lret hx hb hr (fun t ht _ => key t ht) a4 hd hlocks
  · subst h
    have : ∃ n, ret = some (.object n) := by
      unfold zrtB at hrt
      split at hrt <;> first | exact ⟨_, rfl⟩ | (simp at hrt; done) | (cases hrt)
    obtain ⟨n, rfl⟩ := this
    exact W.aret hx hb hr (Or.inl ⟨n, rfl⟩) (Or.inr ⟨_, rfl⟩) (fun t ht _ => key t ht) a4 hd hlocks
  · subst h
    have : ret = none := by
      unfold zrtB at hrt
      split at hrt <;> first | rfl | (simp at hrt; done) | (cases hrt)
    subst this
    exact W.vret hx hb hr (fun t ht _ => key t ht) a4 hd hlocks
theorem zivA_at {mi own rt mL a b : Nat} {ini : Bool} {cd : List (List (Nat × zE))} (h : zinfL[mi]? = some (own, ini, rt, mL, a, b, cd)) : zivA own cd = true := List.all_eq_true.mp ziv_ok _ (List.mem_of_getElem? h)
theorem zsnd (hZ : zAllOk) (hbase : H0.size = base) (hP : ∀ d mi as S F, (mi = 300 ∨ mi = 301) → 2 ≤ d → zprim mi as S F → zMt l D dA base xq adV H0 X (d + 1) mi as S F) : ∀ d mi as S F, zmiI mi → S.1 = X → S.2.1 = zam mi → zCall d mi as S F → zMt l D dA base xq adV H0 X d mi as S F
  | 0, _, _, _, _, _, _, _, h => h.elim
  | d + 1, mi, as, S, F, hmi, hX, hbud, h => by
    unfold zCall at h
    rcases hmi with hmi | hmi
    · obtain ⟨own, ini, rt, mL, a, b, cd, y, by_, ret, row, e1, e2, hcd, hcode, hcn, hpl, hini, hrt, hmL, ham, hy⟩ := zmi_spec hZ hmi
      rw [e1] at h
      obtain ⟨hlen, hex⟩ := h
      have hcv := zcv_at e1 e2
      have hcw : zcw mi = .code y by_ mL ret := by unfold zcw; rw [hcv]
      have hws : zws mi = Cond.code y by_ mL ret :: zWS := by unfold zws; rw [hcw]
      unfold zMt
      rw [hcv]
      refine Met.ofW (cc := by_) (maxL := mL) (ret := ret) hpl hws ?_
      intro p e s m args below meth c s₁ B hml hv
      obtain ⟨rfl, hX', hWd, hK, hXt⟩ := hv
      have hts0 := atoms_spec (ws := zws mi) B.pre
      have hts : ∀ w ∈ zWS, w.before (as.map (zc (zq base xq))).toArray s = true := fun w hw => hts0 w (List.mem_cons_of_mem _ hw)
      have hown : s.vm.findClass y.cls = some m.cls := findClass_of_methodNamed B.named
      have hin : meth.name = y.name := (name_of_methodNamed B.named B.method).1
      have hl := lv_entry (as.map (zc (zq base xq))) (n := mL) (by rw [zarg_sl]; exact hlen)
      rw [lg_entry_eq]
      generalize (lg_sl (as.map (zc (zq base xq))) ++ List.replicate (mL - (lg_sl (as.map (zc (zq base xq)))).length) Slot.unset).toArray = ls at hl ⊢
      have BX : zBx p (headSpec (zws mi) (zrm (d + 1) mi)).room s m (as.map (zc (zq base xq))).toArray meth c by_ own ini D dA base xq adV H0 X d := ⟨B.exec, B.bytes, ⟨_, hcn, hown⟩, hts, hK, hXt, fun hi => by rw [hin]; exact hini hi, hbase, ⟨by rw [hWd.1]; omega, hWd.2.1⟩, Nat.le_refl _, Nat.le_refl _⟩
      have hfin := hex (zPw p l e (headSpec (zws mi) (zrm (d + 1) mi)).room s m (as.map (zc (zq base xq))).toArray below meth c D dA base xq H0 X (MQ below (zPost D dA base xq H0 X F) (as.map (zc (zq base xq))).toArray s (zam mi).1 (zam mi).2 (zA base)))
        (zclose hZ BX hcd (zivA_at e1) (zsnd hZ hbase hP d) (fun i v pc ls S ho hd hF => zend B.exec B.bytes B.returns hrt B.notSynchronized rfl rfl i v pc ls S ho hd hF))
      have hbz : S.2.1.1 ≤ (zam mi).1 ∧ S.2.1.2 ≤ (zam mi).2 := by rw [hbud]; exact ⟨Nat.le_refl _, Nat.le_refl _⟩
      exact hfin s.heap [] 0 0 ls hX' hWd (Nat.le_refl _) (fun z hz => by cases hz) (by show 0 + S.2.1.1 ≤ (zam mi).1; omega) (by show 0 + S.2.1.2 ≤ (zam mi).2; omega) (by rw [zfill_len]; exact hml.symm) (zLr_entry hl)
    · have hnone : zinfL[mi]? = none := List.getElem?_eq_none (by rw [zinf_lenN]; omega)
      rw [hnone] at h
      exact hP d mi as S F hmi h.1 h.2
end ZM
