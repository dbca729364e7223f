/-! ===== reading a text: the reference's machine (no memory yet) ===== -/
def ztrk (k : Nat) : Nat := match k with
  | 14 => 1 | 15 => 2 | 23 => 3 | 24 => 3 | 25 => 4 | 26 => 4 | _ => 0
def zton : List (Nat × Nat) → Nat
  | [] => 0
  | x :: l => (if x.1 = 3 ∨ x.1 = 6 ∨ x.1 = 7 then 1 else 0) + zton l
def zpp (r m : Nat) (x : Nat × Nat) : Prop := x.2 = m ∧ r ≤ ztrk x.1
def zpA (r m : Nat) (P : List (Nat × Nat)) : Prop := ∀ x, x ∈ P → zpp r m x
def znb (r m : Nat) (ws : List (Nat × Nat)) : Prop := ∀ x l, ws = x :: l → ¬ zpp r m x
def zops (P : List (Nat × Nat)) : List (Nat × Nat) := P.map (fun x => (x.1, 0))
def ztbd (fs ws e : List (Nat × Nat)) : Prop := fs.length ≤ 10 ∧ ws.length ≤ 24 ∧ e.length ≤ 300
abbrev zMa (tk st nx nu : Nat → Nat) (w len : Nat) (Q : Nat → Nat → List (Nat × Nat) → List (Nat × Nat) → List (Nat × Nat) → Prop) (Bad : Nat → Nat → Prop) (Ov : Nat → List (Nat × Nat) → Prop) : Prop := (∀ {p fs ws e}, p ≤ len → ztbd fs ws e → tk p = 16 → zton fs = 8 → Bad 3 (st p) → Q 0 p fs ws e) ∧ (∀ {p fs ws e}, p ≤ len → ztbd fs ws e → tk p = 16 → zton fs < 8 → Q 0 (nx p) ((3, 0) :: fs) ws e → Q 0 p fs ws e) ∧ (∀ {p fs ws e}, p ≤ len → ztbd fs ws e → tk p ≠ 16 → Q 1 p ((4, 0) :: fs) ws e → Q 0 p fs ws e) ∧ (∀ {p fs ws e}, p ≤ len → ztbd fs ws e → tk p = 2 → nu p ≤ 9999 → Q 5 (nx p) fs ws (e ++ [(2, nu p)]) → Q 1 p fs ws e) ∧ (∀ {p fs ws e}, p ≤ len → ztbd fs ws e → tk p = 2 → 9999 < nu p → Bad 2 (st p) → Q 1 p fs ws e) ∧ (∀ {p fs ws e}, p ≤ len → ztbd fs ws e → 7 ≤ tk p → tk p ≤ 13 → (zmsk w).testBit (tk p - 7) = true → Q 5 (nx p) fs ws (e ++ [(tk p, 0)]) → Q 1 p fs ws e) ∧ (∀ {p fs ws e}, p ≤ len → ztbd fs ws e → 7 ≤ tk p → tk p ≤ 13 → (zmsk w).testBit (tk p - 7) = false → Bad 5 (st p) → Q 1 p fs ws e) ∧ (∀ {p fs ws e}, p ≤ len → ztbd fs ws e → tk p = 27 → zton fs < 8 → Q 1 (nx p) ((6, 0) :: fs) ws e → Q 1 p fs ws e) ∧ (∀ {p fs ws e}, p ≤ len → ztbd fs ws e → tk p = 24 → zton fs < 8 → Q 1 (nx p) ((7, 0) :: fs) ws e → Q 1 p fs ws e) ∧ (∀ {p fs ws e}, p ≤ len → ztbd fs ws e → tk p = 24 ∨ tk p = 27 → zton fs = 8 → Bad 3 (st p) → Q 1 p fs ws e) ∧ (∀ {p fs ws e}, p ≤ len → ztbd fs ws e → tk p ≠ 2 → ¬ (7 ≤ tk p ∧ tk p ≤ 13) → tk p ≠ 24 → tk p ≠ 27 → Bad 1 (st p) → Q 1 p fs ws e) ∧ (∀ {p fs ws e}, p ≤ len → ztbd ((7, 0) :: fs) ws e → fs ≠ [] → Q 5 p fs ws (e ++ [(30, 0)]) → Q 5 p ((7, 0) :: fs) ws e) ∧ (∀ {p x fs ws e}, p ≤ len → ztbd (x :: fs) ws e → x.1 ≠ 7 → Q 2 p (x :: fs) ws e → Q 5 p (x :: fs) ws e) ∧ (∀ {p fs ws e P}, p ≤ len → ztbd fs (P ++ ws) e → fs ≠ [] → ztlv (tk p) = 3 ∨ ztlv (tk p) = 4 → zpA (ztrk (tk p)) fs.length P → znb (ztrk (tk p)) fs.length ws → Q 1 (nx p) fs ((tk p, fs.length) :: ws) (e ++ zops P) → Q 2 p fs (P ++ ws) e) ∧ (∀ {p fs ws e P}, p ≤ len → ztbd ((6, 0) :: fs) (P ++ ws) e → fs ≠ [] → tk p = 28 → zpA 3 (fs.length + 1) P → znb 3 (fs.length + 1) ws → Q 5 (nx p) fs ws (e ++ zops P) → Q 2 p ((6, 0) :: fs) (P ++ ws) e) ∧ (∀ {p fs ws e P}, p ≤ len → ztbd ((4, 0) :: fs) (P ++ ws) e → ztlv (tk p) = 2 → zpA 3 (fs.length + 1) P → znb 3 (fs.length + 1) ws → Q 1 (nx p) ((5, tk p) :: fs) ws (e ++ zops P) → Q 2 p ((4, 0) :: fs) (P ++ ws) e) ∧ (∀ {p fs ws e P k}, p ≤ len → ztbd ((5, k) :: fs) (P ++ ws) e → fs ≠ [] → ztlv (tk p) ≠ 3 → ztlv (tk p) ≠ 4 → ztlv k = 2 → zpA 3 (fs.length + 1) P → znb 3 (fs.length + 1) ws → Q 6 p fs ws (e ++ zops P ++ [(k, 0)]) → Q 2 p ((5, k) :: fs) (P ++ ws) e) ∧ (∀ {p e P}, p ≤ len → ztbd [(1, 0)] P e → tk p = 29 → zpA 1 1 P → Ov (nx p) (e ++ zops P) → Q 2 p [(1, 0)] P e) ∧ (∀ {p x fs ws e}, p ≤ len → ztbd (x :: fs) ws e → ztlv (tk p) ≠ 3 → ztlv (tk p) ≠ 4 → (x.1 = 6 ∧ tk p ≠ 28) ∨ (x.1 = 4 ∧ ztlv (tk p) ≠ 2) ∨ (x.1 = 1 ∧ tk p ≠ 29) → Bad 1 (st p) → Q 2 p (x :: fs) ws e) ∧ (∀ {p fs ws e}, p ≤ len → ztbd ((3, 0) :: fs) ws e → fs ≠ [] → Q 6 p fs ws (e ++ [(16, 0)]) → Q 6 p ((3, 0) :: fs) ws e) ∧ (∀ {p x fs ws e}, p ≤ len → ztbd (x :: fs) ws e → x.1 ≠ 3 → Q 3 p (x :: fs) ws e → Q 6 p (x :: fs) ws e) ∧ (∀ {p fs ws e P}, p ≤ len → ztbd fs (P ++ ws) e → ztlv (tk p) = 0 ∨ ztlv (tk p) = 1 → zpA (ztrk (tk p)) fs.length P → znb (ztrk (tk p)) fs.length ws → Q 0 (nx p) fs ((tk p, fs.length) :: ws) (e ++ zops P) → Q 3 p fs (P ++ ws) e) ∧ (∀ {p e P}, p ≤ len → ztbd [(2, 0)] P e → tk p = 29 → zpA 1 1 P → Ov (nx p) (e ++ zops P) → Q 3 p [(2, 0)] P e) ∧ (∀ {p x fs ws e}, p ≤ len → ztbd (x :: fs) ws e → ztlv (tk p) ≠ 0 → ztlv (tk p) ≠ 1 → (x.1 = 2 ∧ tk p ≠ 29) → Bad 1 (st p) → Q 3 p (x :: fs) ws e)
theorem zMa.a8 {tk st nx nu : Nat → Nat} {w len : Nat} {Q : Nat → Nat → List (Nat × Nat) → List (Nat × Nat) → List (Nat × Nat) → Prop} {Bad : Nat → Nat → Prop} {Ov : Nat → List (Nat × Nat) → Prop} (h : zMa tk st nx nu w len Q Bad Ov) : ∀ {p fs ws e}, p ≤ len → ztbd fs ws e → tk p = 16 → zton fs = 8 → Bad 3 (st p) → Q 0 p fs ws e := h.1
theorem zMa.an {tk st nx nu : Nat → Nat} {w len : Nat} {Q : Nat → Nat → List (Nat × Nat) → List (Nat × Nat) → List (Nat × Nat) → Prop} {Bad : Nat → Nat → Prop} {Ov : Nat → List (Nat × Nat) → Prop} (h : zMa tk st nx nu w len Q Bad Ov) : ∀ {p fs ws e}, p ≤ len → ztbd fs ws e → tk p = 16 → zton fs < 8 → Q 0 (nx p) ((3, 0) :: fs) ws e → Q 0 p fs ws e := h.2.1
theorem zMa.al {tk st nx nu : Nat → Nat} {w len : Nat} {Q : Nat → Nat → List (Nat × Nat) → List (Nat × Nat) → List (Nat × Nat) → Prop} {Bad : Nat → Nat → Prop} {Ov : Nat → List (Nat × Nat) → Prop} (h : zMa tk st nx nu w len Q Bad Ov) : ∀ {p fs ws e}, p ≤ len → ztbd fs ws e → tk p ≠ 16 → Q 1 p ((4, 0) :: fs) ws e → Q 0 p fs ws e := h.2.2.1
theorem zMa.bn {tk st nx nu : Nat → Nat} {w len : Nat} {Q : Nat → Nat → List (Nat × Nat) → List (Nat × Nat) → List (Nat × Nat) → Prop} {Bad : Nat → Nat → Prop} {Ov : Nat → List (Nat × Nat) → Prop} (h : zMa tk st nx nu w len Q Bad Ov) : ∀ {p fs ws e}, p ≤ len → ztbd fs ws e → tk p = 2 → nu p ≤ 9999 → Q 5 (nx p) fs ws (e ++ [(2, nu p)]) → Q 1 p fs ws e := h.2.2.2.1
theorem zMa.bx {tk st nx nu : Nat → Nat} {w len : Nat} {Q : Nat → Nat → List (Nat × Nat) → List (Nat × Nat) → List (Nat × Nat) → Prop} {Bad : Nat → Nat → Prop} {Ov : Nat → List (Nat × Nat) → Prop} (h : zMa tk st nx nu w len Q Bad Ov) : ∀ {p fs ws e}, p ≤ len → ztbd fs ws e → tk p = 2 → 9999 < nu p → Bad 2 (st p) → Q 1 p fs ws e := h.2.2.2.2.1
theorem zMa.bw {tk st nx nu : Nat → Nat} {w len : Nat} {Q : Nat → Nat → List (Nat × Nat) → List (Nat × Nat) → List (Nat × Nat) → Prop} {Bad : Nat → Nat → Prop} {Ov : Nat → List (Nat × Nat) → Prop} (h : zMa tk st nx nu w len Q Bad Ov) : ∀ {p fs ws e}, p ≤ len → ztbd fs ws e → 7 ≤ tk p → tk p ≤ 13 → (zmsk w).testBit (tk p - 7) = true → Q 5 (nx p) fs ws (e ++ [(tk p, 0)]) → Q 1 p fs ws e := h.2.2.2.2.2.1
theorem zMa.by_ {tk st nx nu : Nat → Nat} {w len : Nat} {Q : Nat → Nat → List (Nat × Nat) → List (Nat × Nat) → List (Nat × Nat) → Prop} {Bad : Nat → Nat → Prop} {Ov : Nat → List (Nat × Nat) → Prop} (h : zMa tk st nx nu w len Q Bad Ov) : ∀ {p fs ws e}, p ≤ len → ztbd fs ws e → 7 ≤ tk p → tk p ≤ 13 → (zmsk w).testBit (tk p - 7) = false → Bad 5 (st p) → Q 1 p fs ws e := h.2.2.2.2.2.2.1
theorem zMa.bp {tk st nx nu : Nat → Nat} {w len : Nat} {Q : Nat → Nat → List (Nat × Nat) → List (Nat × Nat) → List (Nat × Nat) → Prop} {Bad : Nat → Nat → Prop} {Ov : Nat → List (Nat × Nat) → Prop} (h : zMa tk st nx nu w len Q Bad Ov) : ∀ {p fs ws e}, p ≤ len → ztbd fs ws e → tk p = 27 → zton fs < 8 → Q 1 (nx p) ((6, 0) :: fs) ws e → Q 1 p fs ws e := h.2.2.2.2.2.2.2.1
theorem zMa.bm {tk st nx nu : Nat → Nat} {w len : Nat} {Q : Nat → Nat → List (Nat × Nat) → List (Nat × Nat) → List (Nat × Nat) → Prop} {Bad : Nat → Nat → Prop} {Ov : Nat → List (Nat × Nat) → Prop} (h : zMa tk st nx nu w len Q Bad Ov) : ∀ {p fs ws e}, p ≤ len → ztbd fs ws e → tk p = 24 → zton fs < 8 → Q 1 (nx p) ((7, 0) :: fs) ws e → Q 1 p fs ws e := h.2.2.2.2.2.2.2.2.1
theorem zMa.b8 {tk st nx nu : Nat → Nat} {w len : Nat} {Q : Nat → Nat → List (Nat × Nat) → List (Nat × Nat) → List (Nat × Nat) → Prop} {Bad : Nat → Nat → Prop} {Ov : Nat → List (Nat × Nat) → Prop} (h : zMa tk st nx nu w len Q Bad Ov) : ∀ {p fs ws e}, p ≤ len → ztbd fs ws e → tk p = 24 ∨ tk p = 27 → zton fs = 8 → Bad 3 (st p) → Q 1 p fs ws e := h.2.2.2.2.2.2.2.2.2.1
theorem zMa.be {tk st nx nu : Nat → Nat} {w len : Nat} {Q : Nat → Nat → List (Nat × Nat) → List (Nat × Nat) → List (Nat × Nat) → Prop} {Bad : Nat → Nat → Prop} {Ov : Nat → List (Nat × Nat) → Prop} (h : zMa tk st nx nu w len Q Bad Ov) : ∀ {p fs ws e}, p ≤ len → ztbd fs ws e → tk p ≠ 2 → ¬ (7 ≤ tk p ∧ tk p ≤ 13) → tk p ≠ 24 → tk p ≠ 27 → Bad 1 (st p) → Q 1 p fs ws e := h.2.2.2.2.2.2.2.2.2.2.1
theorem zMa.om {tk st nx nu : Nat → Nat} {w len : Nat} {Q : Nat → Nat → List (Nat × Nat) → List (Nat × Nat) → List (Nat × Nat) → Prop} {Bad : Nat → Nat → Prop} {Ov : Nat → List (Nat × Nat) → Prop} (h : zMa tk st nx nu w len Q Bad Ov) : ∀ {p fs ws e}, p ≤ len → ztbd ((7, 0) :: fs) ws e → fs ≠ [] → Q 5 p fs ws (e ++ [(30, 0)]) → Q 5 p ((7, 0) :: fs) ws e := h.2.2.2.2.2.2.2.2.2.2.2.1
theorem zMa.oo {tk st nx nu : Nat → Nat} {w len : Nat} {Q : Nat → Nat → List (Nat × Nat) → List (Nat × Nat) → List (Nat × Nat) → Prop} {Bad : Nat → Nat → Prop} {Ov : Nat → List (Nat × Nat) → Prop} (h : zMa tk st nx nu w len Q Bad Ov) : ∀ {p x fs ws e}, p ≤ len → ztbd (x :: fs) ws e → x.1 ≠ 7 → Q 2 p (x :: fs) ws e → Q 5 p (x :: fs) ws e := h.2.2.2.2.2.2.2.2.2.2.2.2.1
theorem zMa.go {tk st nx nu : Nat → Nat} {w len : Nat} {Q : Nat → Nat → List (Nat × Nat) → List (Nat × Nat) → List (Nat × Nat) → Prop} {Bad : Nat → Nat → Prop} {Ov : Nat → List (Nat × Nat) → Prop} (h : zMa tk st nx nu w len Q Bad Ov) : ∀ {p fs ws e P}, p ≤ len → ztbd fs (P ++ ws) e → fs ≠ [] → ztlv (tk p) = 3 ∨ ztlv (tk p) = 4 → zpA (ztrk (tk p)) fs.length P → znb (ztrk (tk p)) fs.length ws → Q 1 (nx p) fs ((tk p, fs.length) :: ws) (e ++ zops P) → Q 2 p fs (P ++ ws) e := h.2.2.2.2.2.2.2.2.2.2.2.2.2.1
theorem zMa.gp {tk st nx nu : Nat → Nat} {w len : Nat} {Q : Nat → Nat → List (Nat × Nat) → List (Nat × Nat) → List (Nat × Nat) → Prop} {Bad : Nat → Nat → Prop} {Ov : Nat → List (Nat × Nat) → Prop} (h : zMa tk st nx nu w len Q Bad Ov) : ∀ {p fs ws e P}, p ≤ len → ztbd ((6, 0) :: fs) (P ++ ws) e → fs ≠ [] → tk p = 28 → zpA 3 (fs.length + 1) P → znb 3 (fs.length + 1) ws → Q 5 (nx p) fs ws (e ++ zops P) → Q 2 p ((6, 0) :: fs) (P ++ ws) e := h.2.2.2.2.2.2.2.2.2.2.2.2.2.2.1
theorem zMa.gl {tk st nx nu : Nat → Nat} {w len : Nat} {Q : Nat → Nat → List (Nat × Nat) → List (Nat × Nat) → List (Nat × Nat) → Prop} {Bad : Nat → Nat → Prop} {Ov : Nat → List (Nat × Nat) → Prop} (h : zMa tk st nx nu w len Q Bad Ov) : ∀ {p fs ws e P}, p ≤ len → ztbd ((4, 0) :: fs) (P ++ ws) e → ztlv (tk p) = 2 → zpA 3 (fs.length + 1) P → znb 3 (fs.length + 1) ws → Q 1 (nx p) ((5, tk p) :: fs) ws (e ++ zops P) → Q 2 p ((4, 0) :: fs) (P ++ ws) e := h.2.2.2.2.2.2.2.2.2.2.2.2.2.2.2.1
theorem zMa.gr {tk st nx nu : Nat → Nat} {w len : Nat} {Q : Nat → Nat → List (Nat × Nat) → List (Nat × Nat) → List (Nat × Nat) → Prop} {Bad : Nat → Nat → Prop} {Ov : Nat → List (Nat × Nat) → Prop} (h : zMa tk st nx nu w len Q Bad Ov) : ∀ {p fs ws e P k}, p ≤ len → ztbd ((5, k) :: fs) (P ++ ws) e → fs ≠ [] → ztlv (tk p) ≠ 3 → ztlv (tk p) ≠ 4 → ztlv k = 2 → zpA 3 (fs.length + 1) P → znb 3 (fs.length + 1) ws → Q 6 p fs ws (e ++ zops P ++ [(k, 0)]) → Q 2 p ((5, k) :: fs) (P ++ ws) e := h.2.2.2.2.2.2.2.2.2.2.2.2.2.2.2.2.1
theorem zMa.gs {tk st nx nu : Nat → Nat} {w len : Nat} {Q : Nat → Nat → List (Nat × Nat) → List (Nat × Nat) → List (Nat × Nat) → Prop} {Bad : Nat → Nat → Prop} {Ov : Nat → List (Nat × Nat) → Prop} (h : zMa tk st nx nu w len Q Bad Ov) : ∀ {p e P}, p ≤ len → ztbd [(1, 0)] P e → tk p = 29 → zpA 1 1 P → Ov (nx p) (e ++ zops P) → Q 2 p [(1, 0)] P e := h.2.2.2.2.2.2.2.2.2.2.2.2.2.2.2.2.2.1
theorem zMa.ge {tk st nx nu : Nat → Nat} {w len : Nat} {Q : Nat → Nat → List (Nat × Nat) → List (Nat × Nat) → List (Nat × Nat) → Prop} {Bad : Nat → Nat → Prop} {Ov : Nat → List (Nat × Nat) → Prop} (h : zMa tk st nx nu w len Q Bad Ov) : ∀ {p x fs ws e}, p ≤ len → ztbd (x :: fs) ws e → ztlv (tk p) ≠ 3 → ztlv (tk p) ≠ 4 → (x.1 = 6 ∧ tk p ≠ 28) ∨ (x.1 = 4 ∧ ztlv (tk p) ≠ 2) ∨ (x.1 = 1 ∧ tk p ≠ 29) → Bad 1 (st p) → Q 2 p (x :: fs) ws e := h.2.2.2.2.2.2.2.2.2.2.2.2.2.2.2.2.2.2.1
theorem zMa.nn {tk st nx nu : Nat → Nat} {w len : Nat} {Q : Nat → Nat → List (Nat × Nat) → List (Nat × Nat) → List (Nat × Nat) → Prop} {Bad : Nat → Nat → Prop} {Ov : Nat → List (Nat × Nat) → Prop} (h : zMa tk st nx nu w len Q Bad Ov) : ∀ {p fs ws e}, p ≤ len → ztbd ((3, 0) :: fs) ws e → fs ≠ [] → Q 6 p fs ws (e ++ [(16, 0)]) → Q 6 p ((3, 0) :: fs) ws e := h.2.2.2.2.2.2.2.2.2.2.2.2.2.2.2.2.2.2.2.1
theorem zMa.no {tk st nx nu : Nat → Nat} {w len : Nat} {Q : Nat → Nat → List (Nat × Nat) → List (Nat × Nat) → List (Nat × Nat) → Prop} {Bad : Nat → Nat → Prop} {Ov : Nat → List (Nat × Nat) → Prop} (h : zMa tk st nx nu w len Q Bad Ov) : ∀ {p x fs ws e}, p ≤ len → ztbd (x :: fs) ws e → x.1 ≠ 3 → Q 3 p (x :: fs) ws e → Q 6 p (x :: fs) ws e := h.2.2.2.2.2.2.2.2.2.2.2.2.2.2.2.2.2.2.2.2.1
theorem zMa.so {tk st nx nu : Nat → Nat} {w len : Nat} {Q : Nat → Nat → List (Nat × Nat) → List (Nat × Nat) → List (Nat × Nat) → Prop} {Bad : Nat → Nat → Prop} {Ov : Nat → List (Nat × Nat) → Prop} (h : zMa tk st nx nu w len Q Bad Ov) : ∀ {p fs ws e P}, p ≤ len → ztbd fs (P ++ ws) e → ztlv (tk p) = 0 ∨ ztlv (tk p) = 1 → zpA (ztrk (tk p)) fs.length P → znb (ztrk (tk p)) fs.length ws → Q 0 (nx p) fs ((tk p, fs.length) :: ws) (e ++ zops P) → Q 3 p fs (P ++ ws) e := h.2.2.2.2.2.2.2.2.2.2.2.2.2.2.2.2.2.2.2.2.2.1
theorem zMa.sv {tk st nx nu : Nat → Nat} {w len : Nat} {Q : Nat → Nat → List (Nat × Nat) → List (Nat × Nat) → List (Nat × Nat) → Prop} {Bad : Nat → Nat → Prop} {Ov : Nat → List (Nat × Nat) → Prop} (h : zMa tk st nx nu w len Q Bad Ov) : ∀ {p e P}, p ≤ len → ztbd [(2, 0)] P e → tk p = 29 → zpA 1 1 P → Ov (nx p) (e ++ zops P) → Q 3 p [(2, 0)] P e := h.2.2.2.2.2.2.2.2.2.2.2.2.2.2.2.2.2.2.2.2.2.2.1
theorem zMa.se {tk st nx nu : Nat → Nat} {w len : Nat} {Q : Nat → Nat → List (Nat × Nat) → List (Nat × Nat) → List (Nat × Nat) → Prop} {Bad : Nat → Nat → Prop} {Ov : Nat → List (Nat × Nat) → Prop} (h : zMa tk st nx nu w len Q Bad Ov) : ∀ {p x fs ws e}, p ≤ len → ztbd (x :: fs) ws e → ztlv (tk p) ≠ 0 → ztlv (tk p) ≠ 1 → (x.1 = 2 ∧ tk p ≠ 29) → Bad 1 (st p) → Q 3 p (x :: fs) ws e := h.2.2.2.2.2.2.2.2.2.2.2.2.2.2.2.2.2.2.2.2.2.2.2
def zOt (Bad : Nat → Nat → Prop) (o : zO) (G : Nat → List (Nat × Nat) → Prop) : Prop := match o with
  | Sum.inl (p, c) => G p c
  | Sum.inr (f, a) => Bad f a
def zokP (r m b : Nat) (P : List (Nat × Nat)) : Prop := zpA r m P ∧ P.length + r ≤ b
theorem zokP_nil (r m b : Nat) (h : r ≤ b) : zokP r m b [] := ⟨fun x h => absurd h (List.not_mem_nil), by simpa using h⟩
theorem zokP_up {r r2 m b : Nat} {P : List (Nat × Nat)} (h : zokP r2 m b P) (hr : r ≤ r2) : zokP r m b P := ⟨fun x hx => ⟨(h.1 x hx).1, Nat.le_trans hr (h.1 x hx).2⟩, by have := h.2; omega⟩
theorem zops_app (P R : List (Nat × Nat)) : zops (P ++ R) = zops P ++ zops R := List.map_append
theorem zops_len (P : List (Nat × Nat)) : (zops P).length = P.length := List.length_map _
theorem znb_lt {r m : Nat} {ws : List (Nat × Nat)} (h : ∀ x, x ∈ ws → x.2 ≤ m) : znb r (m + 1) ws := fun x l e q => by
  have := h x (by rw [e]; exact List.mem_cons_self)
  have := q.1
  omega
theorem znb_c {r m k : Nat} {ws : List (Nat × Nat)} (h : ztrk k < r) : znb r m ((k, m) :: ws) := fun x l e q => by
  cases e
  have := q.2
  simp only at this
  omega
theorem znb_up {r r2 m : Nat} {ws : List (Nat × Nat)} (h : znb r m ws) (hr : r ≤ r2) : znb r2 m ws := fun x l e q => h x l e ⟨q.1, Nat.le_trans hr q.2⟩
theorem ztrk_l {k : Nat} : (ztlv k = 0 → ztrk k = 1) ∧ (ztlv k = 1 → ztrk k = 2) ∧ (ztlv k = 3 → ztrk k = 3) ∧ (ztlv k = 4 → ztrk k = 4) := by
  unfold ztlv ztrk
  refine ⟨?_, ?_, ?_, ?_⟩ <;> (intro h; split at h <;> first | rfl | (exfalso; omega))
theorem zokP_c {m k b : Nat} {r : Nat} (hr : ztrk k = r) (hb : r + 1 ≤ b) : zokP r m b [(k, m)] := ⟨fun x hx => by
  rw [List.mem_singleton] at hx
  subst hx
  exact ⟨rfl, Nat.le_of_eq hr.symm⟩, by simp only [List.length_cons, List.length_nil]; omega⟩
theorem zokP_app {m k b r : Nat} {P : List (Nat × Nat)} (h : zokP (r + 1) m b P) (hk : ztrk k = r) : zokP r m b (P ++ [(k, m)]) := ⟨fun x hx => by
  rw [List.mem_append, List.mem_singleton] at hx
  rcases hx with q | q
  · exact ⟨(h.1 x q).1, Nat.le_trans (Nat.le_succ r) (h.1 x q).2⟩
  · subst q
    exact ⟨rfl, Nat.le_of_eq hk.symm⟩, by have := h.2; simp only [List.length_append, List.length_cons, List.length_nil]; omega⟩
def zwf (fs ws : List (Nat × Nat)) : Prop := ∀ x, x ∈ ws → x.2 ≤ fs.length
theorem zwf_f {fs ws : List (Nat × Nat)} (y : Nat × Nat) (h : zwf fs ws) : zwf (y :: fs) ws := fun x hx => Nat.le_succ_of_le (h x hx)
theorem zwf_w {fs ws : List (Nat × Nat)} {k : Nat} (h : zwf fs ws) : zwf fs ((k, fs.length) :: ws) := fun x hx => by
  rcases List.mem_cons.mp hx with q | q
  · rw [q]; exact Nat.le_refl _
  · exact h x q
section SIM
variable (tk st nx nu : Nat → Nat) (w len : Nat) (Q : Nat → Nat → List (Nat × Nat) → List (Nat × Nat) → List (Nat × Nat) → Prop) (Bad : Nat → Nat → Prop)
def zJ1 (L dp p : Nat) (c : List (Nat × Nat)) (o : zO) (r b sI sO hd tp : Nat) : Prop := ∀ fs ws x l, fs = x :: l → x.1 ≠ tp → zton fs = dp → zwf fs ws → fs.length ≤ dp + hd → ws.length + (b - r) ≤ 2 * fs.length → c.length ≤ st p → p ≤ len → dp ≤ 8 → znb r fs.length ws → zOt Bad o (fun p1 c1 => ∀ e1 P1, zokP r fs.length b P1 → c1 = e1 ++ zops P1 → Q sO p1 fs (P1 ++ ws) e1) → Q sI p fs ws c
def zJ2 (L dp p : Nat) (c : List (Nat × Nat)) (o : zO) (r b sO hd tp : Nat) : Prop := ∀ fs ws x l e P, fs = x :: l → x.1 ≠ tp → zton fs = dp → zwf fs ws → fs.length ≤ dp + hd → ws.length + (b - r) ≤ 2 * fs.length → c.length ≤ st p → p ≤ len → dp ≤ 8 → znb r fs.length ws → zokP r fs.length b P → c = e ++ zops P → zOt Bad o (fun p1 c1 => ∀ e1 P1, zokP r fs.length b P1 → c1 = e1 ++ zops P1 → Q sO p1 fs (P1 ++ ws) e1) → Q sO p fs (P ++ ws) e
def zJ5 (dp p : Nat) (c : List (Nat × Nat)) (o : zO) (sI sO hd : Nat) : Prop := ∀ fs ws x l, fs = x :: l → zton fs = dp → zwf fs ws → fs.length ≤ dp + hd → ws.length ≤ 2 * fs.length → c.length ≤ st p → p ≤ len → dp ≤ 8 → zOt Bad o (fun p1 c1 => Q sO p1 fs ws c1) → Q sI p fs ws c
def zSm (L dp p : Nat) (c : List (Nat × Nat)) (o : zO) : Prop := match L with
  | 5 => zJ5 st len Q Bad dp p c o 1 5 2
  | 4 => zJ1 st len Q Bad L dp p c o 4 5 1 2 2 7
  | 14 => zJ2 st len Q Bad L dp p c o 4 5 2 2 7
  | 3 => zJ1 st len Q Bad L dp p c o 3 5 1 2 2 7
  | 13 => zJ2 st len Q Bad L dp p c o 3 5 2 2 7
  | 2 => zJ5 st len Q Bad dp p c o 0 6 1
  | 1 => zJ1 st len Q Bad L dp p c o 2 3 0 3 1 3
  | 11 => zJ2 st len Q Bad L dp p c o 2 3 3 1 3
  | 0 => zJ1 st len Q Bad L dp p c o 1 3 0 3 1 3
  | 10 => zJ2 st len Q Bad L dp p c o 1 3 3 1 3
  | _ => True
end SIM
section SIM2
variable {tk st nx nu : Nat → Nat} {w len : Nat} {Q : Nat → Nat → List (Nat × Nat) → List (Nat × Nat) → List (Nat × Nat) → Prop} {Bad : Nat → Nat → Prop} {Ov : Nat → List (Nat × Nat) → Prop}
theorem ztcl {e P : List (Nat × Nat)} {c : List (Nat × Nat)} (h : c = e ++ zops P) : e.length + P.length = c.length := by
  rw [h, List.length_append, zops_len]
theorem zDv_sim (hT : zTok len tk st nx nu) (h3 : len ≤ 300) (m : zMa tk st nx nu w len Q Bad Ov) {L dp p : Nat} {c : List (Nat × Nat)} {o : zO} (D : zDv tk st nx nu w L dp p c o) : zSm st len Q Bad L dp p c o := by
  have sb : ∀ p, p ≤ len → st p ≤ 300 := fun p hp => by have := (hT p hp).2.1; omega
  induction D using zDv.ind with
  | @jb L dp p c f a hL _ ih =>
    rcases hL with rfl | rfl | rfl | rfl
    · intro fs ws x l h1 h2 h3 h4 h5 h6 h7 h8 h9 h10 h11
      exact ih fs ws x l h1 h2 h3 h4 h5 (by omega) h7 h8 h9 (znb_up h10 (by omega)) h11
    · intro fs ws x l h1 h2 h3 h4 h5 h6 h7 h8 h9 h10 h11
      exact ih fs ws x l h1 h3 h4 h5 (by omega) h7 h8 h9 h11
    · intro fs ws x l h1 h2 h3 h4 h5 h6 h7 h8 h9 h10 h11
      exact ih fs ws x l h1 h2 h3 h4 h5 (by omega) h7 h8 h9 (znb_up h10 (by omega)) h11
    · intro fs ws x l h1 h2 h3 h4 h5 h6 h7 h8 h9 h10 h11
      exact ih fs ws x l h1 h3 h4 h5 (by omega) h7 h8 h9 h11
  | @jo L dp p q c d o hL D1 D2 i1 i2 =>
    have ln := fun hp => zDv_len hT D1 _ _ rfl hp
    rcases hL with rfl | rfl | rfl | rfl
    · intro fs ws x l h1 h2 h3 h4 h5 h6 h7 h8 h9 h10 h11
      have lq := ln h8
      refine i1 fs ws x l h1 h2 h3 h4 h5 (by omega) h7 h8 h9 (znb_up h10 (by omega)) (fun e1 P1 hP he => ?_)
      exact i2 fs ws x l e1 P1 h1 h2 h3 h4 h5 h6 (by omega) lq.2 h9 h10 (zokP_up hP (by omega)) he h11
    · intro fs ws x l h1 h2 h3 h4 h5 h6 h7 h8 h9 h10 h11
      have lq := ln h8
      refine i1 fs ws x l h1 h3 h4 h5 (by omega) h7 h8 h9 ?_
      subst h1
      refine m.no lq.2 ⟨by omega, by omega, by have := sb q lq.2; omega⟩ h2 ?_
      exact i2 (x :: l) ws x l d [] rfl h2 h3 h4 h5 h6 (by omega) lq.2 h9 h10 (zokP_nil _ _ _ (by omega)) (List.append_nil _).symm h11
    · intro fs ws x l h1 h2 h3 h4 h5 h6 h7 h8 h9 h10 h11
      have lq := ln h8
      refine i1 fs ws x l h1 h2 h3 h4 h5 (by omega) h7 h8 h9 (znb_up h10 (by omega)) (fun e1 P1 hP he => ?_)
      exact i2 fs ws x l e1 P1 h1 h2 h3 h4 h5 h6 (by omega) lq.2 h9 h10 (zokP_up hP (by omega)) he h11
    · intro fs ws x l h1 h2 h3 h4 h5 h6 h7 h8 h9 h10 h11
      have lq := ln h8
      refine i1 fs ws x l h1 h3 h4 h5 (by omega) h7 h8 h9 ?_
      subst h1
      refine m.oo lq.2 ⟨by omega, by omega, by have := sb q lq.2; omega⟩ h2 ?_
      exact i2 (x :: l) ws x l d [] rfl h2 h3 h4 h5 h6 (by omega) lq.2 h9 h10 (zokP_nil _ _ _ (by omega)) (List.append_nil _).symm h11
  | @ls L dp p c hL hl =>
    rcases hL with rfl | rfl | rfl | rfl <;> (intro fs ws x l e P h1 h2 h3 h4 h5 h6 h7 h8 h9 h10 h11 h12 h13; exact h13 e P h11 h12)
  | @lb L dp p c f a hL hl D1 i1 =>
    have sx := fun hp => zTok_s hT (p := p) hp (ztlv_n0 hl (by unfold zJl at hL; omega))
    have hr := ztrk_l (k := tk p)
    rcases hL with rfl | rfl | rfl | rfl
    · intro fs ws x l e P h1 h2 h3 h4 h5 h6 h7 h8 h9 h10 h11 h12 h13
      have s := sx h8
      have cn : fs ≠ [] := by rw [h1]; exact List.cons_ne_nil _ _
      have rk : ztrk (tk p) = 1 := hr.1 hl
      have cl := ztcl h12
      have pl := h11.2
      refine m.so h8 ⟨by omega, by simp only [List.length_append]; omega, by have := sb p h8; omega⟩ (Or.inl hl) (by rw [rk]; exact h11.1) (by rw [rk]; exact h10) ?_
      rw [← h12]
      exact i1 fs ((tk p, fs.length) :: ws) x l h1 h2 h3 (zwf_w h4) h5 (by simp only [List.length_cons]; omega) (by omega) s.2 h9 (znb_c (by omega)) h13
    · intro fs ws x l e P h1 h2 h3 h4 h5 h6 h7 h8 h9 h10 h11 h12 h13
      have s := sx h8
      have cn : fs ≠ [] := by rw [h1]; exact List.cons_ne_nil _ _
      have rk : ztrk (tk p) = 2 := hr.2.1 hl
      have cl := ztcl h12
      have pl := h11.2
      refine m.so h8 ⟨by omega, by simp only [List.length_append]; omega, by have := sb p h8; omega⟩ (Or.inr hl) (by rw [rk]; exact h11.1) (by rw [rk]; exact h10) ?_
      rw [← h12]
      exact i1 fs ((tk p, fs.length) :: ws) x l h1 h3 (zwf_w h4) h5 (by simp only [List.length_cons]; omega) (by omega) s.2 h9 h13
    · intro fs ws x l e P h1 h2 h3 h4 h5 h6 h7 h8 h9 h10 h11 h12 h13
      have s := sx h8
      have cn : fs ≠ [] := by rw [h1]; exact List.cons_ne_nil _ _
      have rk : ztrk (tk p) = 3 := hr.2.2.1 hl
      have cl := ztcl h12
      have pl := h11.2
      refine m.go h8 ⟨by omega, by simp only [List.length_append]; omega, by have := sb p h8; omega⟩ cn (Or.inl hl) (by rw [rk]; exact h11.1) (by rw [rk]; exact h10) ?_
      rw [← h12]
      exact i1 fs ((tk p, fs.length) :: ws) x l h1 h2 h3 (zwf_w h4) h5 (by simp only [List.length_cons]; omega) (by omega) s.2 h9 (znb_c (by omega)) h13
    · intro fs ws x l e P h1 h2 h3 h4 h5 h6 h7 h8 h9 h10 h11 h12 h13
      have s := sx h8
      have cn : fs ≠ [] := by rw [h1]; exact List.cons_ne_nil _ _
      have rk : ztrk (tk p) = 4 := hr.2.2.2 hl
      have cl := ztcl h12
      have pl := h11.2
      refine m.go h8 ⟨by omega, by simp only [List.length_append]; omega, by have := sb p h8; omega⟩ cn (Or.inr hl) (by rw [rk]; exact h11.1) (by rw [rk]; exact h10) ?_
      rw [← h12]
      exact i1 fs ((tk p, fs.length) :: ws) x l h1 h3 (zwf_w h4) h5 (by simp only [List.length_cons]; omega) (by omega) s.2 h9 h13
  | @lo L dp p q c d o hL hl D1 D2 i1 i2 =>
    have sx := fun hp => zTok_s hT (p := p) hp (ztlv_n0 hl (by unfold zJl at hL; omega))
    have hr := ztrk_l (k := tk p)
    have ln := fun hp => zDv_len hT D1 _ _ rfl hp
    rcases hL with rfl | rfl | rfl | rfl
    · intro fs ws x l e P h1 h2 h3 h4 h5 h6 h7 h8 h9 h10 h11 h12 h13
      have s := sx h8
      have cn : fs ≠ [] := by rw [h1]; exact List.cons_ne_nil _ _
      have rk : ztrk (tk p) = 1 := hr.1 hl
      have cl := ztcl h12
      have pl := h11.2
      have lq := ln s.2
      refine m.so h8 ⟨by omega, by simp only [List.length_append]; omega, by have := sb p h8; omega⟩ (Or.inl hl) (by rw [rk]; exact h11.1) (by rw [rk]; exact h10) ?_
      rw [← h12]
      refine i1 fs ((tk p, fs.length) :: ws) x l h1 h2 h3 (zwf_w h4) h5 (by simp only [List.length_cons]; omega) (by omega) s.2 h9 (znb_c (by omega)) (fun e1 P1 hP he => ?_)
      have z := i2 fs ws x l e1 (P1 ++ [(tk p, fs.length)]) h1 h2 h3 h4 h5 h6 (by simp only [List.length_append, List.length_cons, List.length_nil]; omega) lq.2 h9 h10 (zokP_app hP rk) (by rw [zops_app, he, List.append_assoc]; rfl) h13
      rw [List.append_assoc] at z
      exact z
    · intro fs ws x l e P h1 h2 h3 h4 h5 h6 h7 h8 h9 h10 h11 h12 h13
      have s := sx h8
      have cn : fs ≠ [] := by rw [h1]; exact List.cons_ne_nil _ _
      have rk : ztrk (tk p) = 2 := hr.2.1 hl
      have cl := ztcl h12
      have pl := h11.2
      have lq := ln s.2
      refine m.so h8 ⟨by omega, by simp only [List.length_append]; omega, by have := sb p h8; omega⟩ (Or.inr hl) (by rw [rk]; exact h11.1) (by rw [rk]; exact h10) ?_
      rw [← h12]
      refine i1 fs ((tk p, fs.length) :: ws) x l h1 h3 (zwf_w h4) h5 (by simp only [List.length_cons]; omega) (by omega) s.2 h9 ?_
      subst h1
      refine m.no lq.2 ⟨by omega, by simp only [List.length_cons] at h5 h6 ⊢; omega, by have := sb q lq.2; omega⟩ h2 ?_
      exact i2 (x :: l) ws x l d [(tk p, (x :: l).length)] rfl h2 h3 h4 h5 h6 (by simp only [List.length_append, List.length_cons, List.length_nil]; omega) lq.2 h9 h10 (zokP_c rk (by omega)) rfl h13
    · intro fs ws x l e P h1 h2 h3 h4 h5 h6 h7 h8 h9 h10 h11 h12 h13
      have s := sx h8
      have cn : fs ≠ [] := by rw [h1]; exact List.cons_ne_nil _ _
      have rk : ztrk (tk p) = 3 := hr.2.2.1 hl
      have cl := ztcl h12
      have pl := h11.2
      have lq := ln s.2
      refine m.go h8 ⟨by omega, by simp only [List.length_append]; omega, by have := sb p h8; omega⟩ cn (Or.inl hl) (by rw [rk]; exact h11.1) (by rw [rk]; exact h10) ?_
      rw [← h12]
      refine i1 fs ((tk p, fs.length) :: ws) x l h1 h2 h3 (zwf_w h4) h5 (by simp only [List.length_cons]; omega) (by omega) s.2 h9 (znb_c (by omega)) (fun e1 P1 hP he => ?_)
      have z := i2 fs ws x l e1 (P1 ++ [(tk p, fs.length)]) h1 h2 h3 h4 h5 h6 (by simp only [List.length_append, List.length_cons, List.length_nil]; omega) lq.2 h9 h10 (zokP_app hP rk) (by rw [zops_app, he, List.append_assoc]; rfl) h13
      rw [List.append_assoc] at z
      exact z
    · intro fs ws x l e P h1 h2 h3 h4 h5 h6 h7 h8 h9 h10 h11 h12 h13
      have s := sx h8
      have cn : fs ≠ [] := by rw [h1]; exact List.cons_ne_nil _ _
      have rk : ztrk (tk p) = 4 := hr.2.2.2 hl
      have cl := ztcl h12
      have pl := h11.2
      have lq := ln s.2
      refine m.go h8 ⟨by omega, by simp only [List.length_append]; omega, by have := sb p h8; omega⟩ cn (Or.inr hl) (by rw [rk]; exact h11.1) (by rw [rk]; exact h10) ?_
      rw [← h12]
      refine i1 fs ((tk p, fs.length) :: ws) x l h1 h3 (zwf_w h4) h5 (by simp only [List.length_cons]; omega) (by omega) s.2 h9 ?_
      subst h1
      refine m.oo lq.2 ⟨by omega, by simp only [List.length_cons] at h5 h6 ⊢; omega, by have := sb q lq.2; omega⟩ h2 ?_
      exact i2 (x :: l) ws x l d [(tk p, (x :: l).length)] rfl h2 h3 h4 h5 h6 (by simp only [List.length_append, List.length_cons, List.length_nil]; omega) lq.2 h9 h10 (zokP_c rk (by omega)) rfl h13
  | @n8 dp p c hk h8d =>
    intro fs ws x l h1 h2 h3 h4 h5 h6 h7 h8 h9
    exact m.a8 h7 ⟨by omega, by omega, by have := sb p h7; omega⟩ hk (by omega) h9
  | @nt dp p c o hk h8d D i1 =>
    intro fs ws x l h1 h2 h3 h4 h5 h6 h7 h8 h9
    have s := zTok_s hT h7 (by omega)
    refine m.an h7 ⟨by omega, by omega, by have := sb p h7; omega⟩ hk (by omega) ?_
    refine i1 ((3, 0) :: fs) ws (3, 0) fs rfl (by rw [← h2]; show (if _ then 1 else 0) + zton fs = _; rw [if_pos (Or.inl rfl)]; omega) (zwf_f _ h3) (by simp only [List.length_cons]; omega) (by simp only [List.length_cons]; omega) (by omega) s.2 (by omega) ?_
    cases o using zO.cs with
    | bad f a => exact h9
    | ok q d =>
      have ln := zDv_len hT D _ _ rfl s.2
      refine m.nn ln.2 ⟨by simp only [List.length_cons]; omega, by omega, by have := sb q ln.2; omega⟩ (by rw [h1]; exact List.cons_ne_nil _ _) h9
  | @ab dp p c f a hk D i1 =>
    intro fs ws x l h1 h2 h3 h4 h5 h6 h7 h8 h9
    refine m.al h7 ⟨by omega, by omega, by have := sb p h7; omega⟩ hk ?_
    exact i1 ((4, 0) :: fs) ws (4, 0) fs rfl (by decide) (by rw [← h2]; show (if _ then 1 else 0) + zton fs = _; rw [if_neg (by decide)]; omega) (zwf_f _ h3) (by simp only [List.length_cons]; omega) (by simp only [List.length_cons]; omega) h6 h7 h8 (znb_lt h3) h9
  | @ax dp p q c d hk D hl i1 =>
    intro fs ws x l h1 h2 h3 h4 h5 h6 h7 h8 h9
    have ln := zDv_len hT D _ _ rfl h7
    have ex := zDv_ex D _ _ rfl
    refine m.al h7 ⟨by omega, by omega, by have := sb p h7; omega⟩ hk ?_
    refine i1 ((4, 0) :: fs) ws (4, 0) fs rfl (by decide) (by rw [← h2]; show (if _ then 1 else 0) + zton fs = _; rw [if_neg (by decide)]; omega) (zwf_f _ h3) (by simp only [List.length_cons]; omega) (by simp only [List.length_cons]; omega) h6 h7 h8 (znb_lt h3) (fun e1 P1 hP he => ?_)
    have cl := ztcl he
    have pl := hP.2
    exact m.ge ln.2 ⟨by simp only [List.length_cons]; omega, by simp only [List.length_append]; omega, by have := sb q ln.2; omega⟩ ex.1 ex.2 (Or.inr (Or.inl ⟨rfl, hl⟩)) h9
  | @ao dp p q c d o hk D hl D2 i1 i2 =>
    intro fs ws x l h1 h2 h3 h4 h5 h6 h7 h8 h9
    have ln := zDv_len hT D _ _ rfl h7
    have s := zTok_s hT ln.2 (ztlv_n0 hl (by omega))
    have cn : fs ≠ [] := by rw [h1]; exact List.cons_ne_nil _ _
    refine m.al h7 ⟨by omega, by omega, by have := sb p h7; omega⟩ hk ?_
    refine i1 ((4, 0) :: fs) ws (4, 0) fs rfl (by decide) (by rw [← h2]; show (if _ then 1 else 0) + zton fs = _; rw [if_neg (by decide)]; omega) (zwf_f _ h3) (by simp only [List.length_cons]; omega) (by simp only [List.length_cons]; omega) h6 h7 h8 (znb_lt h3) (fun e1 P1 hP he => ?_)
    have cl := ztcl he
    have pl := hP.2
    refine m.gl ln.2 ⟨by simp only [List.length_cons]; omega, by simp only [List.length_append]; omega, by have := sb q ln.2; omega⟩ hl hP.1 (znb_lt h3) ?_
    rw [← he]
    refine i2 ((5, tk q) :: fs) ws (5, tk q) fs rfl (by show 5 ≠ 7; decide) (by rw [← h2]; show (if _ then 1 else 0) + zton fs = _; rw [if_neg (by show ¬ (5 = 3 ∨ 5 = 6 ∨ 5 = 7); decide)]; omega) (zwf_f _ h3) (by simp only [List.length_cons]; omega) (by simp only [List.length_cons]; omega) (by omega) s.2 h8 (znb_lt h3) ?_
    cases o using zO.cs with
    | bad f a => exact h9
    | ok q2 d2 =>
      have ln2 := zDv_len hT D2 _ _ rfl s.2
      have ex := zDv_ex D2 _ _ rfl
      intro e2 P2 hP2 he2
      have cl2 := ztcl he2
      have pl2 := hP2.2
      refine m.gr ln2.2 ⟨by simp only [List.length_cons]; omega, by simp only [List.length_append]; omega, by have := sb q2 ln2.2; omega⟩ cn ex.1 ex.2 hl hP2.1 (znb_lt h3) ?_
      rw [← he2]
      exact h9
  | @m8 dp p c hk h8d =>
    intro fs ws x l h1 h2 h3 h4 h5 h6 h7 h8 h9
    exact m.b8 h7 ⟨by omega, by omega, by have := sb p h7; omega⟩ hk (by omega) h9
  | @mo dp p c o hk h8d D i1 =>
    intro fs ws x l h1 h2 h3 h4 h5 h6 h7 h8 h9
    have s := zTok_s hT h7 (by omega)
    refine m.bm h7 ⟨by omega, by omega, by have := sb p h7; omega⟩ hk (by omega) ?_
    refine i1 ((7, 0) :: fs) ws (7, 0) fs rfl (by rw [← h2]; show (if _ then 1 else 0) + zton fs = _; rw [if_pos (Or.inr (Or.inr rfl))]; omega) (zwf_f _ h3) (by simp only [List.length_cons]; omega) (by simp only [List.length_cons]; omega) (by omega) s.2 (by omega) ?_
    cases o using zO.cs with
    | bad f a => exact h9
    | ok q d =>
      have ln := zDv_len hT D _ _ rfl s.2
      refine m.om ln.2 ⟨by simp only [List.length_cons]; omega, by omega, by have := sb q ln.2; omega⟩ (by rw [h1]; exact List.cons_ne_nil _ _) h9
  | @pb dp p c f a hk h8d D i1 =>
    intro fs ws x l h1 h2 h3 h4 h5 h6 h7 h8 h9
    have s := zTok_s hT h7 (by omega)
    refine m.bp h7 ⟨by omega, by omega, by have := sb p h7; omega⟩ hk (by omega) ?_
    exact i1 ((6, 0) :: fs) ws (6, 0) fs rfl (by decide) (by rw [← h2]; show (if _ then 1 else 0) + zton fs = _; rw [if_pos (Or.inr (Or.inl rfl))]; omega) (zwf_f _ h3) (by simp only [List.length_cons]; omega) (by simp only [List.length_cons]; omega) (by omega) s.2 (by omega) (znb_lt h3) h9
  | @px dp p q c d hk h8d D hk2 i1 =>
    intro fs ws x l h1 h2 h3 h4 h5 h6 h7 h8 h9
    have s := zTok_s hT h7 (by omega)
    have ln := zDv_len hT D _ _ rfl s.2
    have ex := zDv_ex D _ _ rfl
    refine m.bp h7 ⟨by omega, by omega, by have := sb p h7; omega⟩ hk (by omega) ?_
    refine i1 ((6, 0) :: fs) ws (6, 0) fs rfl (by decide) (by rw [← h2]; show (if _ then 1 else 0) + zton fs = _; rw [if_pos (Or.inr (Or.inl rfl))]; omega) (zwf_f _ h3) (by simp only [List.length_cons]; omega) (by simp only [List.length_cons]; omega) (by omega) s.2 (by omega) (znb_lt h3) (fun e1 P1 hP he => ?_)
    have cl := ztcl he
    have pl := hP.2
    exact m.ge ln.2 ⟨by simp only [List.length_cons]; omega, by simp only [List.length_append]; omega, by have := sb q ln.2; omega⟩ ex.1 ex.2 (Or.inl ⟨rfl, hk2⟩) h9
  | @po dp p q c d hk h8d D hk2 i1 =>
    intro fs ws x l h1 h2 h3 h4 h5 h6 h7 h8 h9
    have s := zTok_s hT h7 (by omega)
    have ln := zDv_len hT D _ _ rfl s.2
    refine m.bp h7 ⟨by omega, by omega, by have := sb p h7; omega⟩ hk (by omega) ?_
    refine i1 ((6, 0) :: fs) ws (6, 0) fs rfl (by decide) (by rw [← h2]; show (if _ then 1 else 0) + zton fs = _; rw [if_pos (Or.inr (Or.inl rfl))]; omega) (zwf_f _ h3) (by simp only [List.length_cons]; omega) (by simp only [List.length_cons]; omega) (by omega) s.2 (by omega) (znb_lt h3) (fun e1 P1 hP he => ?_)
    have cl := ztcl he
    have pl := hP.2
    refine m.gp ln.2 ⟨by simp only [List.length_cons]; omega, by simp only [List.length_append]; omega, by have := sb q ln.2; omega⟩ (by rw [h1]; exact List.cons_ne_nil _ _) hk2 hP.1 (znb_lt h3) ?_
    rw [← he]
    exact h9
  | @nb dp p c hk h9d =>
    intro fs ws x l h1 h2 h3 h4 h5 h6 h7 h8 h9
    exact m.bx h7 ⟨by omega, by omega, by have := sb p h7; omega⟩ hk h9d h9
  | @nk dp p c hk h9d =>
    intro fs ws x l h1 h2 h3 h4 h5 h6 h7 h8 h9
    exact m.bn h7 ⟨by omega, by omega, by have := sb p h7; omega⟩ hk h9d h9
  | @wb dp p c k1 k2 k3 =>
    intro fs ws x l h1 h2 h3 h4 h5 h6 h7 h8 h9
    exact m.by_ h7 ⟨by omega, by omega, by have := sb p h7; omega⟩ k1 k2 k3 h9
  | @wk dp p c k1 k2 k3 =>
    intro fs ws x l h1 h2 h3 h4 h5 h6 h7 h8 h9
    exact m.bw h7 ⟨by omega, by omega, by have := sb p h7; omega⟩ k1 k2 k3 h9
  | @el dp p c k1 k2 k3 k4 =>
    intro fs ws x l h1 h2 h3 h4 h5 h6 h7 h8 h9
    exact m.be h7 ⟨by omega, by omega, by have := sb p h7; omega⟩ k1 k2 k3 k4 h9
end SIM2
