/-! ===== reading a text: the reference's machine in its memory ===== -/
def zSk (f : Nat → Int32) : List Int32 → Prop
  | [] => True
  | x :: l => f l.length = x ∧ zSk f l
def zCk2 (f : Nat → Int32) : List (Nat × Nat) → Prop
  | [] => True
  | x :: l => (x.1 = 5 → f (l.length + 1) = zrop (x.2, 0)) ∧ zCk2 f l
theorem zSk_up {f g : Nat → Int32} : ∀ (l : List Int32), (∀ i, i < l.length → g i = f i) → zSk f l → zSk g l := by
  intro l
  induction l with
  | nil => intro _ _; trivial
  | cons x l ih =>
    intro h k
    exact ⟨(h l.length (by simp)).trans k.1, ih (fun i hi => h i (by simp; omega)) k.2⟩
theorem zCk2_up {f g : Nat → Int32} : ∀ (l : List (Nat × Nat)), (∀ i, i ≤ l.length → g i = f i) → zCk2 f l → zCk2 g l := by
  intro l
  induction l with
  | nil => intro _ _; trivial
  | cons x l ih =>
    intro h k
    exact ⟨fun q => (h (l.length + 1) (by simp)).trans (k.1 q), ih (fun i hi => h i (by simp; omega)) k.2⟩
abbrev ztR (M : Nat → Nat → Int32) (T : Nat → Nat) (len w q b0 p : Nat) (fs ws e : List (Nat × Nat)) : Prop := (ztM M T len) ∧ (zRt M T len p) ∧ (p ≤ len) ∧ (M 71 14 = 0) ∧ (M 71 16 = nI (zton fs)) ∧ (zton fs ≤ 8) ∧ (M 71 17 = nI fs.length) ∧ (zSk (M 78) (fs.map (fun x => nI x.1))) ∧ (zCk2 (M 79) fs) ∧ (∀ x, x ∈ fs → x.1 ≤ 7) ∧ (M 71 20 = nI ws.length) ∧ (zSk (M 80) (ws.map (fun x => zrop (x.1, 0)))) ∧ (zSk (M 81) (ws.map (fun x => nI x.2))) ∧ (∀ x, x ∈ ws → (x.1 = 14 ∨ x.1 = 15 ∨ x.1 = 23 ∨ x.1 = 24 ∨ x.1 = 25 ∨ x.1 = 26) ∧ x.2 ≤ 20) ∧ (M 71 25 = nI w) ∧ (w < 4) ∧ (M 71 27 = nI (q + e.length)) ∧ (∀ i, b0 ≤ i → i < e.length → M 83 (q + i) = zrop (e.getD i (0, 0)) ∧ M 84 (q + i) = zrov (e.getD i (0, 0))) ∧ (b0 ≤ e.length) ∧ (q ≤ 3) ∧ (M 71 15 = -1)
theorem ztR.tm {M : Nat → Nat → Int32} {T : Nat → Nat} {len w q b0 p : Nat} {fs ws e : List (Nat × Nat)} (h : ztR M T len w q b0 p fs ws e) : ztM M T len := h.1
theorem ztR.rt {M : Nat → Nat → Int32} {T : Nat → Nat} {len w q b0 p : Nat} {fs ws e : List (Nat × Nat)} (h : ztR M T len w q b0 p fs ws e) : zRt M T len p := h.2.1
theorem ztR.pl {M : Nat → Nat → Int32} {T : Nat → Nat} {len w q b0 p : Nat} {fs ws e : List (Nat × Nat)} (h : ztR M T len w q b0 p fs ws e) : p ≤ len := h.2.2.1
theorem ztR.wr {M : Nat → Nat → Int32} {T : Nat → Nat} {len w q b0 p : Nat} {fs ws e : List (Nat × Nat)} (h : ztR M T len w q b0 p fs ws e) : M 71 14 = 0 := h.2.2.2.1
theorem ztR.op {M : Nat → Nat → Int32} {T : Nat → Nat} {len w q b0 p : Nat} {fs ws e : List (Nat × Nat)} (h : ztR M T len w q b0 p fs ws e) : M 71 16 = nI (zton fs) := h.2.2.2.2.1
theorem ztR.o8 {M : Nat → Nat → Int32} {T : Nat → Nat} {len w q b0 p : Nat} {fs ws e : List (Nat × Nat)} (h : ztR M T len w q b0 p fs ws e) : zton fs ≤ 8 := h.2.2.2.2.2.1
theorem ztR.nf {M : Nat → Nat → Int32} {T : Nat → Nat} {len w q b0 p : Nat} {fs ws e : List (Nat × Nat)} (h : ztR M T len w q b0 p fs ws e) : M 71 17 = nI fs.length := h.2.2.2.2.2.2.1
theorem ztR.fk {M : Nat → Nat → Int32} {T : Nat → Nat} {len w q b0 p : Nat} {fs ws e : List (Nat × Nat)} (h : ztR M T len w q b0 p fs ws e) : zSk (M 78) (fs.map (fun x => nI x.1)) := h.2.2.2.2.2.2.2.1
theorem ztR.fc {M : Nat → Nat → Int32} {T : Nat → Nat} {len w q b0 p : Nat} {fs ws e : List (Nat × Nat)} (h : ztR M T len w q b0 p fs ws e) : zCk2 (M 79) fs := h.2.2.2.2.2.2.2.2.1
theorem ztR.f7 {M : Nat → Nat → Int32} {T : Nat → Nat} {len w q b0 p : Nat} {fs ws e : List (Nat × Nat)} (h : ztR M T len w q b0 p fs ws e) : ∀ x, x ∈ fs → x.1 ≤ 7 := h.2.2.2.2.2.2.2.2.2.1
theorem ztR.nw {M : Nat → Nat → Int32} {T : Nat → Nat} {len w q b0 p : Nat} {fs ws e : List (Nat × Nat)} (h : ztR M T len w q b0 p fs ws e) : M 71 20 = nI ws.length := h.2.2.2.2.2.2.2.2.2.2.1
theorem ztR.wo {M : Nat → Nat → Int32} {T : Nat → Nat} {len w q b0 p : Nat} {fs ws e : List (Nat × Nat)} (h : ztR M T len w q b0 p fs ws e) : zSk (M 80) (ws.map (fun x => zrop (x.1, 0))) := h.2.2.2.2.2.2.2.2.2.2.2.1
theorem ztR.wf {M : Nat → Nat → Int32} {T : Nat → Nat} {len w q b0 p : Nat} {fs ws e : List (Nat × Nat)} (h : ztR M T len w q b0 p fs ws e) : zSk (M 81) (ws.map (fun x => nI x.2)) := h.2.2.2.2.2.2.2.2.2.2.2.2.1
theorem ztR.wk {M : Nat → Nat → Int32} {T : Nat → Nat} {len w q b0 p : Nat} {fs ws e : List (Nat × Nat)} (h : ztR M T len w q b0 p fs ws e) : ∀ x, x ∈ ws → (x.1 = 14 ∨ x.1 = 15 ∨ x.1 = 23 ∨ x.1 = 24 ∨ x.1 = 25 ∨ x.1 = 26) ∧ x.2 ≤ 20 := h.2.2.2.2.2.2.2.2.2.2.2.2.2.1
theorem ztR.ki {M : Nat → Nat → Int32} {T : Nat → Nat} {len w q b0 p : Nat} {fs ws e : List (Nat × Nat)} (h : ztR M T len w q b0 p fs ws e) : M 71 25 = nI w := h.2.2.2.2.2.2.2.2.2.2.2.2.2.2.1
theorem ztR.w4 {M : Nat → Nat → Int32} {T : Nat → Nat} {len w q b0 p : Nat} {fs ws e : List (Nat × Nat)} (h : ztR M T len w q b0 p fs ws e) : w < 4 := h.2.2.2.2.2.2.2.2.2.2.2.2.2.2.2.1
theorem ztR.no {M : Nat → Nat → Int32} {T : Nat → Nat} {len w q b0 p : Nat} {fs ws e : List (Nat × Nat)} (h : ztR M T len w q b0 p fs ws e) : M 71 27 = nI (q + e.length) := h.2.2.2.2.2.2.2.2.2.2.2.2.2.2.2.2.1
theorem ztR.cd {M : Nat → Nat → Int32} {T : Nat → Nat} {len w q b0 p : Nat} {fs ws e : List (Nat × Nat)} (h : ztR M T len w q b0 p fs ws e) : ∀ i, b0 ≤ i → i < e.length → M 83 (q + i) = zrop (e.getD i (0, 0)) ∧ M 84 (q + i) = zrov (e.getD i (0, 0)) := h.2.2.2.2.2.2.2.2.2.2.2.2.2.2.2.2.2.1
theorem ztR.bl {M : Nat → Nat → Int32} {T : Nat → Nat} {len w q b0 p : Nat} {fs ws e : List (Nat × Nat)} (h : ztR M T len w q b0 p fs ws e) : b0 ≤ e.length := h.2.2.2.2.2.2.2.2.2.2.2.2.2.2.2.2.2.2.1
theorem ztR.q3 {M : Nat → Nat → Int32} {T : Nat → Nat} {len w q b0 p : Nat} {fs ws e : List (Nat × Nat)} (h : ztR M T len w q b0 p fs ws e) : q ≤ 3 := h.2.2.2.2.2.2.2.2.2.2.2.2.2.2.2.2.2.2.2.1
theorem ztR.wa {M : Nat → Nat → Int32} {T : Nat → Nat} {len w q b0 p : Nat} {fs ws e : List (Nat × Nat)} (h : ztR M T len w q b0 p fs ws e) : M 71 15 = -1 := h.2.2.2.2.2.2.2.2.2.2.2.2.2.2.2.2.2.2.2.2
def ztG (q b0 : Nat) (M0 M : Nat → Nat → Int32) : Prop := (∀ c, c ≠ 71 → ¬ (78 ≤ c ∧ c ≤ 81) → c ≠ 83 → c ≠ 84 → M c = M0 c) ∧ (∀ i, ¬ (10 ≤ i ∧ i ≤ 17) → i ≠ 20 → i ≠ 23 → i ≠ 27 → M 71 i = M0 71 i) ∧ (∀ j, j < q + b0 → M 83 j = M0 83 j ∧ M 84 j = M0 84 j)
section MCN
variable {q b0 : Nat} {M0 M : Nat → Nat → Int32} {T : Nat → Nat} {len w p : Nat} {fs ws e : List (Nat × Nat)}
theorem ztG_71 {i : Nat} {v : Int32} (h : ztG q b0 M0 M) (hi : (10 ≤ i ∧ i ≤ 17) ∨ i = 20 ∨ i = 23 ∨ i = 27) : ztG q b0 M0 (zu M 71 i v) := ⟨fun c h1 h2 h3 h4 => by rw [zu_oc h1]; exact h.1 c h1 h2 h3 h4, fun j h1 h2 h3 h4 => by rw [zu_at, if_neg (by omega)]; exact h.2.1 j h1 h2 h3 h4, fun j hj => by rw [zu_oc (by decide), zu_oc (by decide)]; exact h.2.2 j hj⟩
theorem ztG_c {c k : Nat} {v : Int32} (h : ztG q b0 M0 M) (hc : 78 ≤ c ∧ c ≤ 81) : ztG q b0 M0 (zu M c k v) := ⟨fun c' h1 h2 h3 h4 => by rw [zu_oc (by omega)]; exact h.1 c' h1 h2 h3 h4, fun j h1 h2 h3 h4 => by rw [zu_oc (by omega)]; exact h.2.1 j h1 h2 h3 h4, fun j hj => by rw [zu_oc (by omega), zu_oc (by omega)]; exact h.2.2 j hj⟩
theorem ztG_83 {k : Nat} {v : Int32} (h : ztG q b0 M0 M) (hk : q + b0 ≤ k) : ztG q b0 M0 (zu M 83 k v) := ⟨fun c' h1 h2 h3 h4 => by rw [zu_oc h3]; exact h.1 c' h1 h2 h3 h4, fun j h1 h2 h3 h4 => by rw [zu_oc (by decide)]; exact h.2.1 j h1 h2 h3 h4, fun j hj => by rw [zu_at, if_neg (by omega), zu_oc (by decide)]; exact h.2.2 j hj⟩
theorem ztG_84 {k : Nat} {v : Int32} (h : ztG q b0 M0 M) (hk : q + b0 ≤ k) : ztG q b0 M0 (zu M 84 k v) := ⟨fun c' h1 h2 h3 h4 => by rw [zu_oc h4]; exact h.1 c' h1 h2 h3 h4, fun j h1 h2 h3 h4 => by rw [zu_oc (by decide)]; exact h.2.1 j h1 h2 h3 h4, fun j hj => by rw [zu_at, if_neg (by omega), zu_oc (by decide)]; exact h.2.2 j hj⟩
theorem ztG_f {M2 : Nat → Nat → Int32} (h : ztG q b0 M0 M) (k : ztMf M M2) : ztG q b0 M0 M2 := ⟨fun c h1 h2 h3 h4 => (k.1 c h1).trans (h.1 c h1 h2 h3 h4), fun j h1 h2 h3 h4 => (k.2 j (by omega)).trans (h.2.1 j h1 h2 h3 h4), fun j hj => by rw [k.1 83 (by decide), k.1 84 (by decide)]; exact h.2.2 j hj⟩
/-- the next token -/
theorem ztR_n {M2 : Nat → Nat → Int32} {p2 : Nat} (h : ztR M T len w q b0 p fs ws e) (k : ztMf M M2) (r : zRt M2 T len p2) (hp : p2 ≤ len) : ztR M2 T len w q b0 p2 fs ws e := by
  have o : ∀ c, c ≠ 71 → M2 c = M c := k.1
  exact ⟨ztM_f k h.tm, r, hp, by rw [k.2 14 (by omega)]; exact h.wr, by rw [k.2 16 (by omega)]; exact h.op, h.o8, by rw [k.2 17 (by omega)]; exact h.nf, by rw [o 78 (by decide)]; exact h.fk, by rw [o 79 (by decide)]; exact h.fc, h.f7, by rw [k.2 20 (by omega)]; exact h.nw, by rw [o 80 (by decide)]; exact h.wo, by rw [o 81 (by decide)]; exact h.wf, h.wk, by rw [k.2 25 (by omega)]; exact h.ki, h.w4, by rw [k.2 27 (by omega)]; exact h.no, by rw [o 83 (by decide), o 84 (by decide)]; exact h.cd, h.bl, h.q3, by rw [k.2 15 (by omega)]; exact h.wa⟩
theorem ztR_23 {v : Int32} (h : ztR M T len w q b0 p fs ws e) : ztR (zu M 71 23 v) T len w q b0 p fs ws e := ⟨h.tm, h.rt, h.pl, h.wr, h.op, h.o8, h.nf, h.fk, h.fc, h.f7, h.nw, h.wo, h.wf, h.wk, h.ki, h.w4, h.no, h.cd, h.bl, h.q3, h.wa⟩
/-- a step is written -/
theorem zgd_a {c : List (Nat × Nat)} {x : Nat × Nat} {i : Nat} (h : i < c.length) : (c ++ [x]).getD i (0, 0) = c.getD i (0, 0) := by simp [List.getD, List.getElem?_append_left h]
theorem zgd_b {c : List (Nat × Nat)} {x : Nat × Nat} : (c ++ [x]).getD c.length (0, 0) = x := by simp [List.getD]
theorem ztR_e {x : Nat × Nat} {o v : Int32} {n : Nat} (h : ztR M T len w q b0 p fs ws e) (hn : n = q + e.length) (ho : o = zrop x) (hv : v = zrov x) : ztR (zu (zu (zu M 83 n o) 84 n v) 71 27 (nI (n + 1))) T len w q b0 p fs ws (e ++ [x]) := by
  subst hn ho hv
  refine ⟨h.tm, h.rt, h.pl, h.wr, h.op, h.o8, h.nf, h.fk, h.fc, h.f7, h.nw, h.wo, h.wf, h.wk, h.ki, h.w4, by rw [zu_at, if_pos rfl, List.length_append]; rfl, fun i h1 h2 => ?_, by rw [List.length_append]; have := h.bl; omega, h.q3, h.wa⟩
  rw [List.length_append] at h2
  have h2 : i < e.length + 1 := h2
  rw [zu_oc (by decide), zu_oc (by decide), zu_at, zu_oc (by decide), zu_at]
  by_cases y : i = e.length
  · rw [if_pos (by omega), if_pos (by omega), y, zgd_b]
    exact ⟨rfl, rfl⟩
  · rw [if_neg (by omega), if_neg (by omega), zgd_a (by omega)]
    exact h.cd i h1 (by omega)
theorem ztG_e {o v y : Int32} {n : Nat} (h : ztG q b0 M0 M) (hn : q + b0 ≤ n) : ztG q b0 M0 (zu (zu (zu M 83 n o) 84 n v) 71 27 y) := ztG_71 (ztG_84 (ztG_83 h hn) hn) (by omega)
/-- frames -/
theorem ztR_pf {k c : Nat} {v : Int32} {n : Nat} (h : ztR M T len w q b0 p fs ws e) (hn : n = fs.length) (hk : k ≤ 7 ∧ k ≠ 3 ∧ k ≠ 6 ∧ k ≠ 7 ∧ k ≠ 5) (hv : v = nI k) : ztR (zu (zu M 78 n v) 71 17 (nI (n + 1))) T len w q b0 p ((k, c) :: fs) ws e := by
  subst hn hv
  have z : zton ((k, c) :: fs) = zton fs := by
    show (if k = 3 ∨ k = 6 ∨ k = 7 then 1 else 0) + zton fs = zton fs
    rw [if_neg (by omega)]
    omega
  refine ⟨h.tm, h.rt, h.pl, h.wr, by rw [z]; exact h.op, by rw [z]; exact h.o8, by rw [zu_at, if_pos rfl]; rfl, ?_, ⟨fun y => absurd y hk.2.2.2.2, h.fc⟩, fun x hx => ?_, h.nw, h.wo, h.wf, h.wk, h.ki, h.w4, h.no, h.cd, h.bl, h.q3, h.wa⟩
  · rw [zu_oc (by decide)]
    refine ⟨by rw [List.length_map, zu_at, if_pos rfl], zSk_up _ (fun i hi => ?_) h.fk⟩
    rw [List.length_map] at hi
    rw [zu_at, if_neg (by omega)]
  · rcases List.mem_cons.mp hx with y | y
    · rw [y]; exact hk.1
    · exact h.f7 x y
theorem ztR_po {k : Nat} {v y : Int32} {n : Nat} (h : ztR M T len w q b0 p fs ws e) (h8 : zton fs < 8) (hn : n = fs.length) (hk : k = 3 ∨ k = 6 ∨ k = 7) (hv : v = nI k) (hy : y = nI (zton fs + 1)) : ztR (zu (zu (zu M 71 16 y) 78 n v) 71 17 (nI (n + 1))) T len w q b0 p ((k, 0) :: fs) ws e := by
  subst hn hv hy
  have z : zton ((k, 0) :: fs) = zton fs + 1 := by
    show (if k = 3 ∨ k = 6 ∨ k = 7 then 1 else 0) + zton fs = zton fs + 1
    rw [if_pos hk]
    omega
  refine ⟨h.tm, h.rt, h.pl, h.wr, by rw [z]; rfl, by rw [z]; omega, by rw [zu_at, if_pos rfl]; rfl, ?_, ⟨fun y => by have y : k = 5 := y; omega, h.fc⟩, fun x hx => ?_, h.nw, h.wo, h.wf, h.wk, h.ki, h.w4, h.no, h.cd, h.bl, h.q3, h.wa⟩
  · rw [zu_oc (by decide)]
    refine ⟨by rw [List.length_map, zu_at, if_pos rfl], zSk_up _ (fun i hi => ?_) h.fk⟩
    rw [List.length_map] at hi
    rw [zu_at, if_neg (by omega)]
    rfl
  · rcases List.mem_cons.mp hx with y | y
    · rw [y]; show k ≤ 7; omega
    · exact h.f7 x y
theorem ztR_xf {x : Nat × Nat} {y z : Int32} (h : ztR M T len w q b0 p (x :: fs) ws e) (hx : x.1 = 3 ∨ x.1 = 6 ∨ x.1 = 7) (hy : y = nI ((x :: fs).length - 1)) (hz : z = nI (zton (x :: fs) - 1)) : ztR (zu (zu M 71 17 y) 71 16 z) T len w q b0 p fs ws e := by
  subst hy hz
  have t : zton (x :: fs) = zton fs + 1 := by
    show (if x.1 = 3 ∨ x.1 = 6 ∨ x.1 = 7 then 1 else 0) + zton fs = zton fs + 1
    rw [if_pos hx]
    omega
  have o8 := h.o8
  exact ⟨h.tm, h.rt, h.pl, h.wr, by rw [zu_at, if_pos rfl, t]; rfl, by omega, by rw [zu_at, if_neg (by decide), zu_at, if_pos rfl]; rfl, h.fk.2, h.fc.2, fun y hy => h.f7 y (List.mem_cons_of_mem _ hy), h.nw, h.wo, h.wf, h.wk, h.ki, h.w4, h.no, h.cd, h.bl, h.q3, h.wa⟩
theorem ztR_xr {k : Nat} {y : Int32} (h : ztR M T len w q b0 p ((5, k) :: fs) ws e) (hy : y = nI (((5, k) :: fs).length - 1)) : ztR (zu M 71 17 y) T len w q b0 p fs ws e := by
  subst hy
  have t : zton ((5, k) :: fs) = zton fs := by
    show (if 5 = 3 ∨ 5 = 6 ∨ 5 = 7 then 1 else 0) + zton fs = zton fs
    rw [if_neg (by decide)]
    omega
  have op := h.op
  have o8 := h.o8
  rw [t] at op o8
  exact ⟨h.tm, h.rt, h.pl, h.wr, op, o8, by rw [zu_at, if_pos rfl]; rfl, h.fk.2, h.fc.2, fun y hy => h.f7 y (List.mem_cons_of_mem _ hy), h.nw, h.wo, h.wf, h.wk, h.ki, h.w4, h.no, h.cd, h.bl, h.q3, h.wa⟩
theorem ztR_lr {k : Nat} {v y : Int32} {n : Nat} (h : ztR M T len w q b0 p ((4, 0) :: fs) ws e) (hn : n = fs.length + 1) (hv : v = zrop (k, 0)) (hy : y = nI 5) : ztR (zu (zu M 79 n v) 78 (n - 1) y) T len w q b0 p ((5, k) :: fs) ws e := by
  subst hn hv hy
  have t : zton ((5, k) :: fs) = zton ((4, 0) :: fs) := rfl
  have e1 : fs.length + 1 - 1 = fs.length := by omega
  rw [e1]
  refine ⟨h.tm, h.rt, h.pl, h.wr, by rw [t]; exact h.op, by rw [t]; exact h.o8, h.nf, ?_, ?_, fun x hx => ?_, h.nw, h.wo, h.wf, h.wk, h.ki, h.w4, h.no, h.cd, h.bl, h.q3, h.wa⟩
  · refine ⟨by rw [List.length_map, zu_at, if_pos rfl], zSk_up _ (fun i hi => ?_) h.fk.2⟩
    rw [List.length_map] at hi
    rw [zu_at, if_neg (by omega)]
    rfl
  · rw [zu_oc (by decide)]
    refine ⟨fun _ => by rw [zu_at, if_pos rfl], zCk2_up _ (fun i hi => ?_) h.fc.2⟩
    rw [zu_at, if_neg (by omega)]
  · rcases List.mem_cons.mp hx with y | y
    · rw [y]; show 5 ≤ 7; decide
    · exact h.f7 x (List.mem_cons_of_mem _ y)
/-- waits -/
theorem ztR_xw {x : Nat × Nat} {y : Int32} (h : ztR M T len w q b0 p fs (x :: ws) e) (hy : y = nI ((x :: ws).length - 1)) : ztR (zu M 71 20 y) T len w q b0 p fs ws e := by
  subst hy
  exact ⟨h.tm, h.rt, h.pl, h.wr, h.op, h.o8, h.nf, h.fk, h.fc, h.f7, by rw [zu_at, if_pos rfl]; rfl, h.wo.2, h.wf.2, fun y hy => h.wk y (List.mem_cons_of_mem _ hy), h.ki, h.w4, h.no, h.cd, h.bl, h.q3, h.wa⟩
theorem ztR_pw {k m n : Nat} {o v : Int32} (h : ztR M T len w q b0 p fs ws e) (hn : n = ws.length) (hk : (k = 14 ∨ k = 15 ∨ k = 23 ∨ k = 24 ∨ k = 25 ∨ k = 26) ∧ m ≤ 20) (ho : o = zrop (k, 0)) (hv : v = nI m) : ztR (zu (zu (zu M 80 n o) 81 n v) 71 20 (nI (n + 1))) T len w q b0 p fs ((k, m) :: ws) e := by
  subst hn ho hv
  refine ⟨h.tm, h.rt, h.pl, h.wr, h.op, h.o8, h.nf, h.fk, h.fc, h.f7, by rw [zu_at, if_pos rfl]; rfl, ?_, ?_, fun x hx => ?_, h.ki, h.w4, h.no, h.cd, h.bl, h.q3, h.wa⟩
  · rw [zu_oc (by decide), zu_oc (by decide)]
    refine ⟨by rw [List.length_map, zu_at, if_pos rfl], zSk_up _ (fun i hi => ?_) h.wo⟩
    rw [List.length_map] at hi
    rw [zu_at, if_neg (by omega)]
  · rw [zu_oc (by decide)]
    refine ⟨by rw [List.length_map, zu_at, if_pos rfl], zSk_up _ (fun i hi => ?_) h.wf⟩
    rw [List.length_map] at hi
    rw [zu_at, if_neg (by omega)]
    rfl
  · rcases List.mem_cons.mp hx with y | y
    · rw [y]; exact hk
    · exact h.wk x y
theorem ztR_top {x : Nat × Nat} (h : ztR M T len w q b0 p (x :: fs) ws e) : M 78 ((x :: fs).length - 1) = nI x.1 := by
  have := h.fk.1
  rw [List.length_map] at this
  exact this
end MCN
