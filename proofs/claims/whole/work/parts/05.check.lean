/-! ===== the tables hold: by the kernel's own counting ===== -/
theorem zget_eq {α : Type} : ∀ (l : List α) (i : Nat), zget l i = l[i]?
  | [], i => by simp [zget]
  | a :: t, 0 => by simp [zget]
  | a :: t, i + 1 => by simp [zget, zget_eq t i]
theorem zset_eq {α : Type} : ∀ (l : List α) (i : Nat) (v : α), zset l i v = l.set i v
  | [], i, v => by simp [zset]
  | a :: t, 0, v => by simp [zset]
  | a :: t, i + 1, v => by simp [zset, zset_eq t i v]
theorem zlk_mem {α : Type} : ∀ {l : List (Nat × α)} {n : Nat} {v : α}, zlk l n = some v → (n, v) ∈ l
  | [], _, _, h => by simp [zlk] at h
  | (k, w) :: t, n, v, h => by
    unfold zlk at h
    cases hb : Nat.beq k n
    · rw [hb] at h
      exact List.mem_cons_of_mem _ (zlk_mem h)
    · rw [hb] at h
      have hk : k = n := Nat.eq_of_beq_eq_true hb
      simp at h
      rw [← hk, ← h]
      exact List.mem_cons_self
def zall {α : Type} (l : List (List (Nat × α))) (chk : Nat → Nat → α → Bool) : Bool := (List.range l.length).all fun o => ((l[o]?).getD []).all fun x => chk o x.1 x.2
theorem zall_spec {α : Type} {l : List (List (Nat × α))} {chk : Nat → Nat → α → Bool} (h : zall l chk = true) {o n : Nat} {v : α} (hl : zlk2 l o n = some v) : chk o n v = true := by
  unfold zlk2 at hl
  have hm := zlk_mem hl
  cases ho : l[o]? with
  | none => rw [ho] at hm; simp at hm
  | some row =>
    have hlt : o < l.length := (List.getElem?_eq_some_iff.mp ho).1
    have h1 := List.all_eq_true.mp h o (List.mem_range.mpr hlt)
    exact List.all_eq_true.mp h1 (n, v) hm
def zkd : FieldType → Nat
  | .int => 0
  | .boolean => 2
  | .object _ => 1
  | .array _ => 1
  | _ => 7
def zcls (ci : Nat) : Option (vw_C × (Nat → FieldType)) := match zcl[ci]?, zGs[ci]? with
  | some r, some g => some (r, g)
  | _, _ => none
def zeqW (i : Nat) (w : Cond) : Bool := decide (tables_1[i]? = some w) && goodWord w
def zWS : List Cond := lw_tbl.filter goodWord
theorem zWS_of {i : Nat} {w : Cond} (h : zeqW i w = true) : w ∈ zWS := by
  simp only [zeqW, Bool.and_eq_true, decide_eq_true_eq] at h
  exact List.mem_filter.mpr ⟨List.mem_append_right _ (List.mem_of_getElem? h.1), h.2⟩
def zfl_chk (o n : Nat) (x : Nat × Nat × Nat × Bool × Nat) : Bool := match zcls x.1, zcn[o]? with
  | some (r, g), some C => Nat.blt x.2.1 r.2.2 && zeqW x.2.2.2.2 (.fieldLink C n r.1 (r.2.1 x.2.1).2.1 (r.2.1 x.2.1).2.2.1) && decide ((r.2.1 x.2.1).1 = r.1) && Nat.beq (zkd (g x.2.1)) x.2.2.1 && ((r.2.1 x.2.1).2.2.2 == x.2.2.2.1)
  | _, _ => false
theorem zfl_ok : zall zflL zfl_chk = true := by decide +kernel
def zci_chk (o n : Nat) (x : Int32 × Nat) : Bool := match zcn[o]? with
  | some C => zeqW x.2 (.constant C n x.1)
  | none => false
theorem zci_ok : zall zciL zci_chk = true := by decide +kernel
def zclo_chk (o n : Nat) (x : Int64 × Nat) : Bool := match zcn[o]? with
  | some C => zeqW x.2 (.constantLong C n x.1)
  | none => false
theorem zclo_ok : zall zclL zclo_chk = true := by decide +kernel
def zcc_chk (o n : Nat) (x : Nat × Nat) : Bool := match zcn[o]?, zcl[x.1]? with
  | some C, some r => zeqW x.2 (.classLink C n r.1)
  | _, _ => false
theorem zcc_ok : zall zccL zcc_chk = true := by decide +kernel
def zgs_chk (o n : Nat) (x : Nat × Nat) : Bool := match zcn[o]? with
  | some C => zeqW x.2 (.fieldLink C n "BoatsMoveOn$Kind" "CLAUSES_OF_NAMES" "[I") && Nat.beq x.1 1001
  | none => false
theorem zgs_ok : zall zgsL zgs_chk = true := by decide +kernel
def ztx_chk (o n : Nat) (x : Nat × Nat) : Bool := Nat.beq o 11 && Nat.ble 2000 x.1 && match zstr[x.1 - 2000]? with
  | some t => Nat.beq t.1 n && decide (tables_1[x.2]? = some (.stringRef "BoatsMoveOn$Kind" n t.2))
  | none => false
theorem ztx_ok : zall ztxL ztx_chk = true := by decide +kernel
def zoi_chk (o n : Nat) (x : Nat) : Bool := match zcn[o]? with
  | some C => zeqW x (.methodLink C n Lib.objectInit)
  | none => false
theorem zoi_ok : zall zoiL zoi_chk = true := by decide +kernel
/-- names of the texts' two methods -/
def zpn : Nat → MethodName
  | 300 => ⟨"java/lang/String", "length", "()I"⟩
  | 301 => ⟨"java/lang/String", "charAt", "(I)C"⟩
  | 303 => Lib.Math.max.name
  | 304 => Lib.Math.min.name
  | 305 => Lib.MathLoose.min_long.x
  | 306 => Lib.MathLoose.max_long.x
  | _ => arraycopyName
def zmn (mi : Nat) : MethodName := match znamL[mi]? with
  | some x => x.1
  | none => zpn mi
def zNW : List Cond := tables_1.filter (fun w => match w with | .methodLinkNest .. => true | _ => false)
def zml_chk (o n : Nat) (x : Nat × Nat × Nat × Bool × Nat) : Bool := match zcn[o]? with
  | some C => (match x.2.2.2.1 with
      | true => decide (tables_1[x.2.2.2.2]? = some (.methodLinkNest C n (zmn x.1) "BoatsMoveOn"))
      | false => zeqW x.2.2.2.2 (.methodLink C n (zmn x.1)))
    && decide ((parseMethodDescriptor (zmn x.1).desc).map (fun d => d.parameters.length) = some x.2.1)
    && (Nat.beq x.2.2.1 99 || decide ((zcn[x.2.2.1]?) = some (zmn x.1).cls)) && (Nat.blt x.1 zinfL.length || Nat.beq x.2.2.1 99)
  | none => false
theorem zml_ok : zall zmlL zml_chk = true := by decide +kernel
