/-! ===== the pure memory in the machine's heap ===== -/
def zq (base : Nat) (xq : Nat → Nat) (c : Nat) : Nat := if c < 1000 then base + c else xq c
def zc (q : Nat → Nat) : Value → Value
  | .ref a => .ref (q a)
  | v => v
def zisR (ci k : Nat) : Bool := match zGs[ci]? with
  | some g => Nat.beq (zkd (g k)) 1
  | none => false
def zel (q : Nat → Nat) (S : zS) (t c j : Nat) : Value := bif Nat.beq t 3 then .long (S.2.2.2.2.1 c j) else bif Nat.beq t 4 then zc q (zrv (S.2.2.2.1 c j)) else .int (S.2.2.2.2.2 c j)
def zat (D : va_G) (dA : Nat → ClassId) (q : Nat → Nat) (S : zS) (H : Heap) (c : Nat) : (Nat ⊕ (Nat × Nat)) → Prop
  | .inl ci => ∃ r, zcl[ci]? = some r ∧ t_OB (q c) (D.1 ci) r.2.2 (D.2 ci) H (fun k => zc q (zfv (zisR ci k) S c k))
  | .inr (t, n) => H[q c]? = some (arrV (dA t) n (zel q S t c))
def zWd (D : va_G) (dA : Nat → ClassId) (base : Nat) (xq : Nat → Nat) (H0 : Heap) (S : zS) (H : Heap) : Prop :=
  H.size = base + S.2.2.1.length ∧ (∀ a : Nat, a < base → H[a]? = H0[a]?) ∧ S.2.2.1.length ≤ 1000 ∧ ∀ (c : Nat) (x : Nat ⊕ (Nat × Nat)), zget S.2.2.1 c = some x → zat D dA (zq base xq) S H c x
theorem zq_lo {base : Nat} {xq : Nat → Nat} {c : Nat} (h : c < 1000) : zq base xq c = base + c := if_pos h
theorem zget_lt {α : Type} {l : List α} {i : Nat} {x : α} (h : zget l i = some x) : i < l.length := by
  rw [zget_eq] at h
  exact (List.getElem?_eq_some_iff.mp h).1
theorem zat_same {D : va_G} {dA : Nat → ClassId} {q : Nat → Nat} {S S' : zS} {H H' : Heap} {c : Nat} {x : Nat ⊕ (Nat × Nat)} (hk : S'.2.2.2.1 c = S.2.2.2.1 c) (hb : S'.2.2.2.2.1 c = S.2.2.2.2.1 c) (hm : S'.2.2.2.2.2 c = S.2.2.2.2.2 c) (hH : H'[q c]? = H[q c]?) (h : zat D dA q S H c x) : zat D dA q S' H' c x := by
  rcases x with ci | ⟨t, n⟩
  · obtain ⟨r, h1, cell, g1, g2, g3, g4⟩ := h
    refine ⟨r, h1, cell, by rw [hH]; exact g1, g2, g3, fun k hk' => ?_⟩
    rw [g4 k hk']
    simp only [zfv, hk, hm]
  · show H'[q c]? = _
    rw [hH, show H[q c]? = _ from h]
    have : zel q S t c = zel q S' t c := by
      funext j
      simp only [zel, hk, hb, hm]
    rw [this]
theorem zWd_set {D : va_G} {dA : Nat → ClassId} {base : Nat} {xq : Nat → Nat} {H0 H H' : Heap} {S S' : zS} {c0 : Nat} {x0 : Nat ⊕ (Nat × Nat)} (h : zWd D dA base xq H0 S H) (hy : S'.2.2.1 = S.2.2.1) (hx : zget S.2.2.1 c0 = some x0)
    (he : ∀ c, c ≠ c0 → S'.2.2.2.1 c = S.2.2.2.1 c ∧ S'.2.2.2.2.1 c = S.2.2.2.2.1 c ∧ S'.2.2.2.2.2 c = S.2.2.2.2.2 c) (hz : H'.size = H.size) (ho : ∀ a : Nat, a ≠ zq base xq c0 → H'[a]? = H[a]?) (hn : zat D dA (zq base xq) S' H' c0 x0) : zWd D dA base xq H0 S' H' := by
  obtain ⟨h1, h2, h3, h4⟩ := h
  have hc0 : c0 < 1000 := Nat.lt_of_lt_of_le (zget_lt hx) h3
  refine ⟨by rw [hz, hy]; exact h1, fun a ha => ?_, by rw [hy]; exact h3, fun c x hc => ?_⟩
  · rw [ho a (by rw [zq_lo hc0]; omega)]
    exact h2 a ha
  · rw [hy] at hc
    by_cases e : c = c0
    · subst e
      cases hx.symm.trans hc
      exact hn
    · have hc1 : c < 1000 := Nat.lt_of_lt_of_le (zget_lt hc) h3
      obtain ⟨e1, e2, e3⟩ := he c e
      exact zat_same e1 e2 e3 (ho _ (by rw [zq_lo hc0, zq_lo hc1]; omega)) (h4 c x hc)
theorem zget_app {α : Type} (l : List α) (x : α) (c : Nat) : zget (l ++ [x]) c = if c = l.length then some x else zget l c := by
  rw [zget_eq, zget_eq]
  by_cases h : c < l.length
  · rw [List.getElem?_append_left h, if_neg (by omega)]
  · by_cases h2 : c = l.length
    · subst h2
      simp
    · rw [if_neg h2, List.getElem?_append_right (by omega)]
      rw [List.getElem?_eq_none (by simp; omega), List.getElem?_eq_none (by omega)]
theorem zWd_new {D : va_G} {dA : Nat → ClassId} {base : Nat} {xq : Nat → Nat} {H0 H H' : Heap} {S : zS} {e : Nat ⊕ (Nat × Nat)} {n : Nat} (h : zWd D dA base xq H0 S H) (hl : S.2.2.1.length < 1000) (hz : H'.size = H.size + 1) (ho : ∀ a : Nat, a < H.size → H'[a]? = H[a]?)
    (hn : zat D dA (zq base xq) (znew S e n) H' S.2.2.1.length e) : zWd D dA base xq H0 (znew S e n) H' := by
  obtain ⟨h1, h2, h3, h4⟩ := h
  refine ⟨by rw [hz, h1]; simp [znew]; omega, fun a ha => ?_, by simp [znew]; omega, fun c x hc => ?_⟩
  · rw [ho a (by omega)]
    exact h2 a ha
  · have hc' : zget (S.2.2.1 ++ [e]) c = some x := hc
    rw [zget_app] at hc'
    by_cases hcl : c = S.2.2.1.length
    · rw [if_pos hcl] at hc'
      cases hc'
      rw [hcl]
      exact hn
    · rw [if_neg hcl] at hc'
      have hlt := zget_lt hc'
      refine zat_same ?_ ?_ ?_ (ho _ (by rw [zq_lo (by omega)]; omega)) (h4 c x hc')
      · funext k
        simp [znew, hcl]
      · funext k
        simp [znew, hcl]
      · funext k
        simp [znew, hcl]
/-! locals -/
def zLr (q : Nat → Nat) (lsR : Array Slot) (ls : List Value) : Prop := lv_wf lsR ∧ lsR.size = ls.length ∧ ∀ (i : Nat) (v : Value), zget ls i = some v → v ≠ .null → lsR[i]? = some (.val (zc q v))
def zll (q : Nat → Nat) (ls : List Value) : List (Nat × Value) := (List.range ls.length).filterMap fun i => match zget ls i with
  | some v => if v = .null then none else some (i, zc q v)
  | none => none
theorem zll_mem {q : Nat → Nat} {ls : List Value} {i : Nat} {x : Value} : (i, x) ∈ zll q ls ↔ ∃ v, zget ls i = some v ∧ v ≠ .null ∧ x = zc q v := by
  unfold zll
  rw [List.mem_filterMap]
  constructor
  · rintro ⟨j, -, h⟩
    cases hj : zget ls j with
    | none => rw [hj] at h; cases h
    | some v =>
      rw [hj] at h
      by_cases hv : v = .null
      · simp [hv] at h
      · simp [hv] at h
        exact ⟨v, by rw [← h.1]; exact hj, hv, h.2.symm⟩
  · rintro ⟨v, h1, h2, rfl⟩
    exact ⟨i, List.mem_range.mpr (zget_lt h1), by simp [h1, h2]⟩
theorem zLr_has {q : Nat → Nat} {lsR : Array Slot} {ls : List Value} (h : zLr q lsR ls) : lv_has lsR ls.length (zll q ls) := by
  refine ⟨h.2.1, h.1, fun x hx => ?_⟩
  obtain ⟨i, y⟩ := x
  obtain ⟨v, h1, h2, rfl⟩ := zll_mem.mp hx
  exact h.2.2 i v h1 h2
theorem zcat_zc (q : Nat → Nat) (v : Value) : (zc q v).category = v.category := by cases v <;> rfl
theorem zclr_len (ls : List Value) (i : Nat) : (zclr ls i).length = ls.length := by
  cases i with
  | zero => rfl
  | succ j =>
    have hu : zclr ls (j + 1) = bif zisL (zget ls j) then zset ls j .null else ls := rfl
    rw [hu]
    cases zisL (zget ls j)
    · rfl
    · simp [zset_eq]
theorem zclr_get {ls : List Value} {i j : Nat} {v : Value} (h : zget (zclr ls i) j = some v) (hv : v ≠ .null) : zget ls j = some v ∧ ¬ (j + 1 = i ∧ v.category = 2) := by
  cases i with
  | zero => exact ⟨h, fun c => by omega⟩
  | succ k =>
    have hu : zclr ls (k + 1) = bif zisL (zget ls k) then zset ls k .null else ls := rfl
    rw [hu] at h
    cases hz : zisL (zget ls k)
    · rw [hz] at h
      simp at h
      refine ⟨h, fun c => ?_⟩
      have e : j = k := by omega
      subst e
      rw [h] at hz
      simp [zisL, c.2] at hz
    · rw [hz] at h
      simp only [cond_true] at h
      rw [zset_eq, zget_eq] at h
      by_cases e : j = k
      · subst e
        rw [List.getElem?_set_self'] at h
        cases hk : ls[j]? with
        | none => rw [hk] at h; simp at h
        | some w => rw [hk] at h; simp at h; exact absurd h.symm hv
      · rw [List.getElem?_set_ne (fun h => e h.symm)] at h
        rw [zget_eq]
        exact ⟨h, fun c => by omega⟩
theorem zst1_len (ls : List Value) (i : Nat) (v : Value) : (zst1 ls i v).length = ls.length := by
  unfold zst1
  rw [zset_eq, List.length_set, zclr_len]
theorem zst2_len (ls : List Value) (i : Nat) (v : Value) : (zst2 ls i v).length = ls.length := by
  unfold zst2
  rw [zset_eq, zset_eq, List.length_set, List.length_set, zclr_len]
theorem zLr_st1 {q : Nat → Nat} {lsR : Array Slot} {ls : List Value} {i : Nat} {v : Value} {x : Value} (hx : x = zc q v) (h : lv_has lsR ls.length ((i, x) :: (zll q ls).filter (fun q => !(q.1 == i) && !(q.1 + 1 == i && q.2.category == 2)))) : zLr q lsR (zst1 ls i v) := by
  subst hx
  refine ⟨h.2.1, by rw [zst1_len]; exact h.1, fun j w hj hw => ?_⟩
  unfold zst1 at hj
  rw [zset_eq, zget_eq] at hj
  by_cases e : j = i
  · subst e
    rw [List.getElem?_set_self'] at hj
    cases hk : (zclr ls j)[j]? with
    | none => rw [hk] at hj; simp at hj
    | some z =>
      rw [hk] at hj
      simp at hj
      subst hj
      exact h.2.2 (j, zc q v) List.mem_cons_self
  · rw [List.getElem?_set_ne (fun h => e h.symm), ← zget_eq] at hj
    obtain ⟨h1, h2⟩ := zclr_get hj hw
    refine h.2.2 (j, zc q w) (List.mem_cons_of_mem _ (List.mem_filter.mpr ⟨zll_mem.mpr ⟨w, h1, hw, rfl⟩, ?_⟩))
    simp only [zcat_zc]
    simp [e]
    exact Classical.not_and_iff_not_or_not.mp h2
theorem zLr_st2 {q : Nat → Nat} {lsR : Array Slot} {ls : List Value} {i : Nat} {v : Value} {x : Value} (hx : x = zc q v) (h : lv_has lsR ls.length ((i, x) :: (zll q ls).filter (fun q => !(q.1 == i) && (!(q.1 == i + 1) && !(q.1 + 1 == i && q.2.category == 2))))) : zLr q lsR (zst2 ls i v) := by
  subst hx
  refine ⟨h.2.1, by rw [zst2_len]; exact h.1, fun j w hj hw => ?_⟩
  unfold zst2 at hj
  rw [zset_eq, zset_eq, zget_eq] at hj
  by_cases e1 : j = i + 1
  · subst e1
    rw [List.getElem?_set_self'] at hj
    cases hk : ((zclr ls i).set i v)[i + 1]? with
    | none => rw [hk] at hj; simp at hj
    | some z => rw [hk] at hj; simp at hj; exact absurd hj.symm hw
  · rw [List.getElem?_set_ne (fun h => e1 h.symm)] at hj
    by_cases e : j = i
    · subst e
      rw [List.getElem?_set_self'] at hj
      cases hk : (zclr ls j)[j]? with
      | none => rw [hk] at hj; simp at hj
      | some z =>
        rw [hk] at hj
        simp at hj
        subst hj
        exact h.2.2 (j, zc q v) List.mem_cons_self
    · rw [List.getElem?_set_ne (fun h => e h.symm), ← zget_eq] at hj
      obtain ⟨h1, h2⟩ := zclr_get hj hw
      refine h.2.2 (j, zc q w) (List.mem_cons_of_mem _ (List.mem_filter.mpr ⟨zll_mem.mpr ⟨w, h1, hw, rfl⟩, ?_⟩))
      simp only [zcat_zc]
      simp [e, e1]
      exact Classical.not_and_iff_not_or_not.mp h2
/-! what lies ahead of the law's own cells -/
def zA (base : Nat) : Nat → Prop := fun z => base ≤ z
def zTy (dA : Nat → ClassId) : List (ClassId × FieldType) := [(dA 0, .int), (dA 1, .byte), (dA 2, .boolean), (dA 3, .long), (dA 4, .object "BoatsMoveOn$Text")]
def zXt (X : zX) (q adV : Nat → Nat) (base : Nat) (H0 : Heap) (U : State) : Prop :=
  (∀ (a : Nat) (x : Nat × (Nat → Int32)), X a = some x → va_T .int (q a) x.1 (fun j => .int (x.2 j)) (zA base) U H0) ∧
  va_Z "BoatsMoveOn$Kind" "CLAUSES_OF_NAMES" "[I" (.ref (q 1001)) (zA base) U H0 ∧
  (∀ w ∈ zNW, va_Nw w U) ∧ va_AO "BoatsMoveOn$Text" U ∧
  (∀ (i : Nat) (t : Nat × String), zstr[i]? = some t → vk_R "BoatsMoveOn$Kind" t.1 t.2 (q (2000 + i)) U) ∧
  vk_S 15 (zstb.map List.length) zstb (fun i => q (2000 + i)) adV (zA base) U H0 ∧
  va_Z "java/lang/String" "COMPACT_STRINGS" "Z" (.int 1) (zA base) U H0 ∧
  va_Zq "jdk/internal/util/Preconditions" "SIOOBE_FORMATTER" "Ljava/util/function/BiFunction;" (zA base) U H0
theorem zNW_form {w : Cond} (h : w ∈ zNW) : ∃ a i x b, w = .methodLinkNest a i x b := by
  have h1 := (List.mem_filter.mp h).2
  cases w <;> first | exact ⟨_, _, _, _, rfl⟩ | (simp at h1)
theorem zXt_warm {X : zX} {q adV : Nat → Nat} {base : Nat} {H0 : Heap} {s U : State} (hW : s.WarmedH U.vm) (h : zXt X q adV base H0 s) : zXt X q adV base H0 U := by
  obtain ⟨h1, h2, h3, h4, h5, h6, h7, h8⟩ := h
  refine ⟨fun a x ha => (h1 a x ha).moved hW.alike, h2.moved hW.alike, fun w hw => ?_, h4.moved hW.alike, fun i t ht => (h5 i t ht).warm hW, h6.moved hW.alike, h7.moved hW.alike, ?_⟩
  · obtain ⟨a, i, x, b, rfl⟩ := zNW_form hw
    exact va_Nw.warmM hW (h3 _ hw)
  · rcases h8 with h8 | ⟨t, h8⟩
    · exact Or.inl (h8.moved hW.alike)
    · exact Or.inr ⟨t, h8.moved hW.alike⟩
def zPre (D : va_G) (dA : Nat → ClassId) (base : Nat) (xq adV : Nat → Nat) (H0 : Heap) (X : zX) (S : zS) (U : State) : Prop :=
  S.1 = X ∧ zWd D dA base xq H0 S U.heap ∧ va_K D zcl (zTy dA) U ∧ zXt X (zq base xq) adV base H0 U
def zPost (D : va_G) (dA : Nat → ClassId) (base : Nat) (xq : Nat → Nat) (H0 : Heap) (X : zX) (F : Option Value → zS → Prop) : Array Value → State → Outcome → State → Prop := fun _ st oc t =>
  ∃ (v : Option Value) (S' : zS), oc = .returned (v.map (zc (zq base xq))) ∧ F v S' ∧ S'.1 = X ∧ zWd D dA base xq H0 S' t.heap ∧ st.heap.size ≤ t.heap.size
theorem zXt_calling {X : zX} {q adV : Nat → Nat} {base : Nat} {H0 : Heap} {U : State} {g : JFrame} {mk : MethodId} {a : Array Value} (h : zXt X q adV base H0 U) : zXt X q adV base H0 (U.calling g mk a) := by
  obtain ⟨h1, h2, h3, h4, h5, h6, h7, h8⟩ := h
  have hA : U.vm.Alike (U.calling g mk a).vm := Vm.Alike.refl U.vm
  refine ⟨fun a' x ha => (h1 a' x ha).moved hA, h2.moved hA, fun w hw => ?_, h4.moved hA, fun i t ht => (h5 i t ht).same rfl, h6.moved hA, h7.moved hA, ?_⟩
  · obtain ⟨a, i, x, b, rfl⟩ := zNW_form hw
    exact va_Nw.same rfl rfl (h3 _ hw)
  · rcases h8 with h8 | ⟨t, h8⟩
    · exact Or.inl (h8.moved hA)
    · exact Or.inr ⟨t, h8.moved hA⟩
theorem zPre_blind {D : va_G} {dA : Nat → ClassId} {base : Nat} {xq adV : Nat → Nat} {H0 : Heap} {X : zX} {S : zS} {as : List Value} : FrameBlind (va_Pc as (zPre D dA base xq adV H0 X S)) := by
  rintro a U g mk ⟨h0, h1, h2, h3, h4⟩
  exact ⟨h0, h1, h2, va_K.moved (u := U) (U := U.calling g mk a) (Vm.Alike.refl U.vm) h3, zXt_calling h4⟩
