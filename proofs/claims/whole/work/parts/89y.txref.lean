/-! ===== text: the reference reads it all ===== -/
def ztX (M0 M : Nat → Nat → Int32) : Prop := (∀ c, c ≠ 71 → ¬ (78 ≤ c ∧ c ≤ 84) → M c = M0 c) ∧ (∀ i, ¬ (10 ≤ i ∧ i ≤ 17) → i ≠ 20 → i ≠ 23 → i ≠ 24 → i ≠ 25 → i ≠ 27 → M 71 i = M0 71 i)
theorem ztX_tr {M M2 M3 : Nat → Nat → Int32} (h : ztX M M2) (k : ztX M2 M3) : ztX M M3 := ⟨fun c h1 h2 => (k.1 c h1 h2).trans (h.1 c h1 h2), fun i h1 h2 h3 h4 h5 h6 => (k.2 i h1 h2 h3 h4 h5 h6).trans (h.2 i h1 h2 h3 h4 h5 h6)⟩
theorem ztX_G {q b0 : Nat} {M M2 : Nat → Nat → Int32} (h : ztG q b0 M M2) : ztX M M2 := ⟨fun c h1 h2 => h.1 c h1 (by omega) (by omega) (by omega), fun i h1 h2 h3 h4 h5 h6 => h.2.1 i h1 h2 h3 h6⟩
abbrev ztU (M0 M : Nat → Nat → Int32) (T : Nat → Nat) (len p : Nat) (c : List (Nat × Nat)) (k : Nat) (I : Nat → Option (Nat × Nat × Nat)) : Prop := (ztM M T len) ∧ (zRt M T len p) ∧ (p ≤ len) ∧ (M 71 14 = 0) ∧ (M 71 16 = 0) ∧ (M 71 17 = 0) ∧ (M 71 20 = 0) ∧ (M 71 23 = 4) ∧ (M 71 27 = nI (k + c.length)) ∧ (zcnt I = k) ∧ (c.length ≤ ztst T len p) ∧ (∀ w, w < 4 → (I w = none ∧ M 82 w = -1) ∨ ∃ b n q, I w = some (b, n, q) ∧ M 82 w = nI (q + b) ∧ q + b + n < k + c.length ∧ b + n ≤ c.length ∧ M 83 (q + b + n) = 408 ∧ ∀ i, i < n → M 83 (q + b + i) = zrop (c.getD (b + i) (0, 0)) ∧ M 84 (q + b + i) = zrov (c.getD (b + i) (0, 0))) ∧ (ztX M0 M) ∧ (M 71 15 = -1)
theorem ztU.tm {M0 M : Nat → Nat → Int32} {T : Nat → Nat} {len p : Nat} {c : List (Nat × Nat)} {k : Nat} {I : Nat → Option (Nat × Nat × Nat)} (h : ztU M0 M T len p c k I) : ztM M T len := h.1
theorem ztU.rt {M0 M : Nat → Nat → Int32} {T : Nat → Nat} {len p : Nat} {c : List (Nat × Nat)} {k : Nat} {I : Nat → Option (Nat × Nat × Nat)} (h : ztU M0 M T len p c k I) : zRt M T len p := h.2.1
theorem ztU.pl {M0 M : Nat → Nat → Int32} {T : Nat → Nat} {len p : Nat} {c : List (Nat × Nat)} {k : Nat} {I : Nat → Option (Nat × Nat × Nat)} (h : ztU M0 M T len p c k I) : p ≤ len := h.2.2.1
theorem ztU.wr {M0 M : Nat → Nat → Int32} {T : Nat → Nat} {len p : Nat} {c : List (Nat × Nat)} {k : Nat} {I : Nat → Option (Nat × Nat × Nat)} (h : ztU M0 M T len p c k I) : M 71 14 = 0 := h.2.2.2.1
theorem ztU.op {M0 M : Nat → Nat → Int32} {T : Nat → Nat} {len p : Nat} {c : List (Nat × Nat)} {k : Nat} {I : Nat → Option (Nat × Nat × Nat)} (h : ztU M0 M T len p c k I) : M 71 16 = 0 := h.2.2.2.2.1
theorem ztU.nf {M0 M : Nat → Nat → Int32} {T : Nat → Nat} {len p : Nat} {c : List (Nat × Nat)} {k : Nat} {I : Nat → Option (Nat × Nat × Nat)} (h : ztU M0 M T len p c k I) : M 71 17 = 0 := h.2.2.2.2.2.1
theorem ztU.nw {M0 M : Nat → Nat → Int32} {T : Nat → Nat} {len p : Nat} {c : List (Nat × Nat)} {k : Nat} {I : Nat → Option (Nat × Nat × Nat)} (h : ztU M0 M T len p c k I) : M 71 20 = 0 := h.2.2.2.2.2.2.1
theorem ztU.st {M0 M : Nat → Nat → Int32} {T : Nat → Nat} {len p : Nat} {c : List (Nat × Nat)} {k : Nat} {I : Nat → Option (Nat × Nat × Nat)} (h : ztU M0 M T len p c k I) : M 71 23 = 4 := h.2.2.2.2.2.2.2.1
theorem ztU.no {M0 M : Nat → Nat → Int32} {T : Nat → Nat} {len p : Nat} {c : List (Nat × Nat)} {k : Nat} {I : Nat → Option (Nat × Nat × Nat)} (h : ztU M0 M T len p c k I) : M 71 27 = nI (k + c.length) := h.2.2.2.2.2.2.2.2.1
theorem ztU.k4 {M0 M : Nat → Nat → Int32} {T : Nat → Nat} {len p : Nat} {c : List (Nat × Nat)} {k : Nat} {I : Nat → Option (Nat × Nat × Nat)} (h : ztU M0 M T len p c k I) : zcnt I = k := h.2.2.2.2.2.2.2.2.2.1
theorem ztU.ls {M0 M : Nat → Nat → Int32} {T : Nat → Nat} {len p : Nat} {c : List (Nat × Nat)} {k : Nat} {I : Nat → Option (Nat × Nat × Nat)} (h : ztU M0 M T len p c k I) : c.length ≤ ztst T len p := h.2.2.2.2.2.2.2.2.2.2.1
theorem ztU.io {M0 M : Nat → Nat → Int32} {T : Nat → Nat} {len p : Nat} {c : List (Nat × Nat)} {k : Nat} {I : Nat → Option (Nat × Nat × Nat)} (h : ztU M0 M T len p c k I) : ∀ w, w < 4 → (I w = none ∧ M 82 w = -1) ∨ ∃ b n q, I w = some (b, n, q) ∧ M 82 w = nI (q + b) ∧ q + b + n < k + c.length ∧ b + n ≤ c.length ∧ M 83 (q + b + n) = 408 ∧ ∀ i, i < n → M 83 (q + b + i) = zrop (c.getD (b + i) (0, 0)) ∧ M 84 (q + b + i) = zrov (c.getD (b + i) (0, 0)) := h.2.2.2.2.2.2.2.2.2.2.2.1
theorem ztU.fx {M0 M : Nat → Nat → Int32} {T : Nat → Nat} {len p : Nat} {c : List (Nat × Nat)} {k : Nat} {I : Nat → Option (Nat × Nat × Nat)} (h : ztU M0 M T len p c k I) : ztX M0 M := h.2.2.2.2.2.2.2.2.2.2.2.2.1
theorem ztU.wa {M0 M : Nat → Nat → Int32} {T : Nat → Nat} {len p : Nat} {c : List (Nat × Nat)} {k : Nat} {I : Nat → Option (Nat × Nat × Nat)} (h : ztU M0 M T len p c k I) : M 71 15 = -1 := h.2.2.2.2.2.2.2.2.2.2.2.2.2
section RFT
variable {d : Nat} {F : Option Value → zS → Prop} {X : zX} {b : Nat × Nat} {K : Nat → Nat → Option Nat} {B : Nat → Nat → Int64} {M0 : Nat → Nat → Int32} {T : Nat → Nat} {len : Nat}
def ztK3 (d : Nat) (F : Option Value → zS → Prop) (X : zX) (b : Nat × Nat) (K : Nat → Nat → Option Nat) (B : Nat → Nat → Int64) (M0 : Nat → Nat → Int32) (T : Nat → Nat) (len : Nat) (o : zO3) : Prop := match o with
  | Sum.inl (c, k, I) => ∀ M p, ztU M0 M T len p c k I → ztk T len p = 0 → ztLp d F X b K B M
  | Sum.inr (f, a) => ∀ M, M 71 14 = nI f → M 71 15 = nI a → ztX M0 M → ztLp d F X b K B M
theorem zcnt_le (I : Nat → Option (Nat × Nat × Nat)) : zcnt I ≤ 4 := by
  unfold zcnt
  have a0 := z1_le (I 0)
  have a1 := z1_le (I 1)
  have a2 := z1_le (I 2)
  have a3 := z1_le (I 3)
  omega
/-- a clause begins -/
theorem sp_begin {M : Nat → Nat → Int32} {p k w : Nat} {c : List (Nat × Nat)} {I : Nat → Option (Nat × Nat × Nat)} {G : Option Value → zS → Prop} (hK : zKok K) (hU : ztU M0 M T len p c k I) (hw : w < 4) (hk : ztk T len p = 3 + w) (hI : I w = none) (kk : ∀ M1 fk s, (fk = 2 ∧ s = 0 ∧ ztL w = 0 ∨ fk = 1 ∧ s = 1 ∧ ztL w = 3) → ztR M1 T len w k c.length (ztnx T len p) [(fk, 0)] [] c → M1 71 23 = nI s → ztX M0 M1 → (∀ j, M1 83 j = M 83 j ∧ M1 84 j = M 84 j) → (∀ x, M1 82 x = if x = w then nI (k + c.length) else M 82 x) → G none (X, (0, 0), zLay, K, B, M1)) : zCall (d + 20) zm_Model_clause [.ref 71] (X, (0, 0), zLay, K, B, M) G := by
  have hT := ztok T (len := len)
  have s := zTok_s hT hU.pl (by omega)
  have l3 := hU.tm.2.1
  have lp := (hT p hU.pl).2.1
  have ls := hU.ls
  have k3 := (zcnt_up (v := (0, 0, 0)) hw hI).2
  rw [hU.k4] at k3
  have z := zrt_w hU.rt hk (by omega)
  have na : M 82 w = -1 := by
    rcases hU.io w hw with r | ⟨b1, n1, q1, e1, -⟩
    · exact r.2
    · rw [hI] at e1; cases e1
  have nx : ∀ M2 : Nat → Nat → Int32, M2 = zu (zu M 71 25 (nI w)) 82 w (nI (k + c.length)) → ∀ H : Option Value → zS → Prop, (∀ M3, ztMf M2 M3 → zRt M3 T len (ztnx T len p) → H none (X, (0, 0), zLay, K, B, M3)) → zCall (d + 19) zm_Model_next [.ref 71] (X, (0, 0), zLay, K, B, M2) H := by
    intro M2 h2 H kh
    subst h2
    exact sp_next (d := d + 13) hK hU.tm hU.rt.2.1 s.2 kh
  have fin : ∀ (M3 : Nat → Nat → Int32) (fk s2 : Nat) (v1 v2 : Int32), ztMf (zu (zu M 71 25 (nI w)) 82 w (nI (k + c.length))) M3 → zRt M3 T len (ztnx T len p) → (fk = 2 ∧ s2 = 0 ∧ ztL w = 0 ∨ fk = 1 ∧ s2 = 1 ∧ ztL w = 3) → v1 = nI fk → v2 = nI s2 → G none (X, (0, 0), zLay, K, B, (zu (zu (zu M3 78 0 v1) 71 17 (nI (0 + 1))) 71 23 v2)) := by
    intro M3 fk s2 v1 v2 m3 t3 hf hv1 hv2
    subst hv1 hv2
    have o := m3.1
    have f := m3.2
    have tm3 : ztM M3 T len := ztM_f m3 (show ztM (zu (zu M 71 25 (nI w)) 82 w (nI (k + c.length))) T len from hU.tm)
    refine kk _ fk s2 hf ⟨tm3, t3, s.2, by show M3 71 14 = 0; rw [f 14 (by omega)]; exact hU.wr, ?_, ?_, rfl, ⟨rfl, trivial⟩, ⟨fun y => ?_, trivial⟩, fun x hx => ?_, by show M3 71 20 = _; rw [f 20 (by omega)]; exact hU.nw, trivial, trivial, fun x hx => absurd hx List.not_mem_nil, by show M3 71 25 = _; rw [f 25 (by omega)]; rfl, hw, by show M3 71 27 = _; rw [f 27 (by omega)]; exact hU.no, fun i h1 h2 => absurd h2 (by omega), Nat.le_refl _, k3, by show M3 71 15 = _; rw [f 15 (by omega)]; exact hU.wa⟩ (by rw [zu_at, if_pos rfl]) ⟨fun c' h1 h2 => ?_, fun i h1 h2 h3 h4 h5 h6 => ?_⟩ (fun j => ?_) (fun x => ?_)
    · have : zton [(fk, 0)] = 0 := by
        show (if fk = 3 ∨ fk = 6 ∨ fk = 7 then 1 else 0) + 0 = 0
        rw [if_neg (by omega)]
      rw [this]
      show M3 71 16 = _
      rw [f 16 (by omega)]
      exact hU.op
    · show (if fk = 3 ∨ fk = 6 ∨ fk = 7 then 1 else 0) + 0 ≤ 8
      rw [if_neg (by omega)]
      omega
    · have y : fk = 5 := y
      omega
    · rw [List.mem_singleton] at hx
      rw [hx]
      show fk ≤ 7
      omega
    · rw [zu_oc h1, zu_oc h1, zu_oc (by omega), o c' h1, zu_oc (by omega), zu_oc h1]
      exact hU.fx.1 c' h1 h2
    · rw [zu_at, if_neg h3, zu_at, if_neg (by omega), zu_oc (by decide), f i (by omega), zu_oc (by decide), zu_at, if_neg h5]
      exact hU.fx.2 i h1 h2 h3 h4 h5 h6
    · rw [zu_oc (by decide), zu_oc (by decide), zu_oc (by decide), zu_oc (by decide), zu_oc (by decide), zu_oc (by decide), o 83 (by decide), o 84 (by decide)]
      exact ⟨rfl, rfl⟩
    · rw [zu_oc (by decide), zu_oc (by decide), zu_oc (by decide), o 82 (by decide), zu_at, zu_oc (by decide)]
  have nf3 : ∀ M3, ztMf (zu (zu M 71 25 (nI w)) 82 w (nI (k + c.length))) M3 → M3 71 17 = nI 0 ∧ M3 71 25 = nI w := fun M3 m3 => ⟨by rw [m3.2 17 (by omega)]; exact hU.nf, by rw [m3.2 25 (by omega)]; rfl⟩
  have zw : w = 0 ∨ w = 1 ∨ w = 2 ∨ w = 3 := by omega
  rcases zw with rfl | rfl | rfl | rfl
  · refine zb_Model_clauseW0_0 (no := k + c.length) hK z.1 z.2 hU.rt.1 hU.wr hU.no (by omega) na (fun _ => ?_) (fun y => absurd rfl y)
    refine nx _ rfl _ (fun M3 m3 t3 => ?_)
    have n3 := nf3 M3 m3
    exact zb_Model_clauseW0_66 (nf := 0) hK n3.2 n3.1 (by omega) (fin M3 2 0 _ _ m3 t3 (Or.inl ⟨rfl, rfl, rfl⟩) rfl rfl)
  · refine zb_Model_clauseW1_0 (no := k + c.length) hK z.1 z.2 hU.rt.1 hU.wr hU.no (by omega) na (fun _ => ?_) (fun y => absurd rfl y)
    refine nx _ rfl _ (fun M3 m3 t3 => ?_)
    have n3 := nf3 M3 m3
    exact zb_Model_clauseW1_66 (nf := 0) hK n3.2 n3.1 (by omega) (fin M3 1 1 _ _ m3 t3 (Or.inr ⟨rfl, rfl, rfl⟩) rfl rfl)
  · refine zb_Model_clauseW2_0 (no := k + c.length) hK z.1 z.2 hU.rt.1 hU.wr hU.no (by omega) na (fun _ => ?_) (fun y => absurd rfl y)
    refine nx _ rfl _ (fun M3 m3 t3 => ?_)
    have n3 := nf3 M3 m3
    exact zb_Model_clauseW2_66 (nf := 0) hK n3.2 n3.1 (by omega) (fin M3 2 0 _ _ m3 t3 (Or.inl ⟨rfl, rfl, rfl⟩) rfl rfl)
  · refine zb_Model_clauseW3_0 (no := k + c.length) hK z.1 z.2 hU.rt.1 hU.wr hU.no (by omega) na (fun _ => ?_) (fun y => absurd rfl y)
    refine nx _ rfl _ (fun M3 m3 t3 => ?_)
    have n3 := nf3 M3 m3
    exact zb_Model_clauseW3_66 (nf := 0) hK n3.2 n3.1 (by omega) (fin M3 1 1 _ _ m3 t3 (Or.inr ⟨rfl, rfl, rfl⟩) rfl rfl)
theorem sp_noc {M : Nat → Nat → Int32} {p : Nat} {G : Option Value → zS → Prop} {k : Nat} {c : List (Nat × Nat)} {I : Nat → Option (Nat × Nat × Nat)} (hK : zKok K) (hU : ztU M0 M T len p c k I) (h0 : ztk T len p ≠ 0) (hk : ¬ (3 ≤ ztk T len p ∧ ztk T len p ≤ 6)) (kx : G none (X, (0, 0), zLay, K, B, (zu (zu M 71 14 1) 71 15 (nI (ztst T len p))))) : zCall (d + 20) zm_Model_clause [.ref 71] (X, (0, 0), zLay, K, B, M) G := by
  have hT := ztok T (len := len)
  have l3 := hU.tm.2.1
  have lp := (hT p hU.pl).2.1
  have ls := hU.ls
  have k4 := zcnt_le I
  rw [hU.k4] at k4
  rcases zrt_c hU.rt with ⟨y, _⟩ | ⟨_, y⟩ | ⟨_, y⟩ | ⟨y1, y2, y3, y4⟩ | ⟨y, _⟩
  · exact absurd y h0
  · exact zb_Model_clauseC4_0 y rfl hU.rt.1 hU.wr kx
  · exact zb_Model_clauseC2_0 y rfl hU.rt.1 hU.wr kx
  · have wl : 4 ≤ ztW (ztk T len p) ∧ ztW (ztk T len p) ≤ 13 := by
      unfold ztW
      rw [if_neg (by omega)]
      split <;> omega
    exact zb_Model_clauseC1_0 (na := 0) (no := k + c.length) hK y3 y4 hU.rt.1 hU.wr wl (fun z => absurd z (by omega)) hU.no (by omega) (fun z => absurd z (by omega)) (fun z => absurd z (by omega)) (fun _ => kx)
  · exact zb_Model_clauseC3_0 y rfl hU.rt.1 hU.wr kx
theorem sp_was {M : Nat → Nat → Int32} {p k w : Nat} {c : List (Nat × Nat)} {I : Nat → Option (Nat × Nat × Nat)} {G : Option Value → zS → Prop} (hK : zKok K) (hU : ztU M0 M T len p c k I) (hw : w < 4) (hk : ztk T len p = 3 + w) (hI : I w ≠ none) (kx : G none (X, (0, 0), zLay, K, B, (zu (zu (zu M 71 25 (nI w)) 71 14 4) 71 15 (nI (ztst T len p))))) : zCall (d + 20) zm_Model_clause [.ref 71] (X, (0, 0), zLay, K, B, M) G := by
  have hT := ztok T (len := len)
  have l3 := hU.tm.2.1
  have lp := (hT p hU.pl).2.1
  have ls := hU.ls
  have k4 := zcnt_le I
  rw [hU.k4] at k4
  have z := zrt_w hU.rt hk (by omega)
  have na : ¬ M 82 w = -1 := by
    rcases hU.io w hw with r | ⟨b1, n1, q1, e1, e2, e3, e4, -⟩
    · exact absurd r.1 hI
    · rw [e2]; exact zn1 (by omega)
  have zw : w = 0 ∨ w = 1 ∨ w = 2 ∨ w = 3 := by omega
  rcases zw with rfl | rfl | rfl | rfl
  · exact zb_Model_clauseW0_0 (no := k + c.length) hK z.1 z.2 hU.rt.1 hU.wr hU.no (by omega) rfl (fun y => absurd y na) (fun _ => kx)
  · exact zb_Model_clauseW1_0 (no := k + c.length) hK z.1 z.2 hU.rt.1 hU.wr hU.no (by omega) rfl (fun y => absurd y na) (fun _ => kx)
  · exact zb_Model_clauseW2_0 (no := k + c.length) hK z.1 z.2 hU.rt.1 hU.wr hU.no (by omega) rfl (fun y => absurd y na) (fun _ => kx)
  · exact zb_Model_clauseW3_0 (no := k + c.length) hK z.1 z.2 hU.rt.1 hU.wr hU.no (by omega) rfl (fun y => absurd y na) (fun _ => kx)
/-- behind a clause's keyword -/
theorem zcl_run {M1 : Nat → Nat → Int32} {p k w fk s : Nat} {c : List (Nat × Nat)} {o : zO} (hK : zKok K) (hl3 : len ≤ 300) (hp : p ≤ len) (hcl : c.length ≤ ztst T len p) (hf : fk = 2 ∧ s = 0 ∧ ztL w = 0 ∨ fk = 1 ∧ s = 1 ∧ ztL w = 3) (hR : ztR M1 T len w k c.length p [(fk, 0)] [] c) (hs : M1 71 23 = nI s) (D : zDt T len w (ztL w) 0 p c o) (ko : ∀ p1 c1, o = .ok p1 c1 → (ztk T len p1 = 29 → ztOv d F X b K B M1 T len k c.length (ztnx T len p1) c1) ∧ (ztk T len p1 ≠ 29 → ztBd d F X b K B M1 k c.length 1 (ztst T len p1))) (kb : ∀ f a, o = .bad f a → ztBd d F X b K B M1 k c.length f a) : ztLp d F X b K B M1 := by
  have hT := ztok T (len := len)
  have m := ztma (d := d) (F := F) (X := X) (b := b) (B := B) (M0 := M1) (T := T) (len := len) (w := w) (q := k) (b0 := c.length) hK hl3
  have sim := zDv_sim hT hl3 m D
  have g0 : ztG k c.length M1 M1 := ⟨fun _ _ _ _ _ => rfl, fun _ _ _ _ _ => rfl, fun _ _ => ⟨rfl, rfl⟩⟩
  rcases hf with ⟨rfl, rfl, hL⟩ | ⟨rfl, rfl, hL⟩
  · rw [hL] at sim D
    have sim : zJ1 (ztst T len) len (ztQ d F X b K B M1 T len w k c.length) (ztBd d F X b K B M1 k c.length) 0 0 p c o 1 3 0 3 1 3 := sim
    refine sim [(2, 0)] [] (2, 0) [] rfl (by decide) rfl (fun x hx => by cases hx) (by decide) (by decide) hcl hp (by omega) (fun x l e => by cases e) ?_ M1 hR g0 hs
    cases o using zO.cs with
    | bad f a => exact kb f a rfl
    | ok p1 c1 =>
      intro e1 P1 hP he
      have ln := zDv_len hT D p1 c1 rfl hp
      have ex := zDv_ex D p1 c1 rfl
      have cl := ztcl he
      have pl := hP.2
      have s3 := (hT p1 ln.2).2.1
      have bd : ztbd [(2, 0)] P1 e1 := ⟨by decide, by omega, by omega⟩
      rw [List.append_nil]
      by_cases y : ztk T len p1 = 29
      · exact m.sv ln.2 bd y hP.1 (by rw [← he]; exact (ko p1 c1 rfl).1 y)
      · exact m.se ln.2 bd ex.1 ex.2 ⟨rfl, y⟩ ((ko p1 c1 rfl).2 y)
  · rw [hL] at sim D
    have sim : zJ1 (ztst T len) len (ztQ d F X b K B M1 T len w k c.length) (ztBd d F X b K B M1 k c.length) 3 0 p c o 3 5 1 2 2 7 := sim
    refine sim [(1, 0)] [] (1, 0) [] rfl (by decide) rfl (fun x hx => by cases hx) (by decide) (by decide) hcl hp (by omega) (fun x l e => by cases e) ?_ M1 hR g0 hs
    cases o using zO.cs with
    | bad f a => exact kb f a rfl
    | ok p1 c1 =>
      intro e1 P1 hP he
      have ln := zDv_len hT D p1 c1 rfl hp
      have ex := zDv_ex D p1 c1 rfl
      have cl := ztcl he
      have pl := hP.2
      have s3 := (hT p1 ln.2).2.1
      have bd : ztbd [(1, 0)] P1 e1 := ⟨by decide, by omega, by omega⟩
      rw [List.append_nil]
      by_cases y : ztk T len p1 = 29
      · exact m.gs ln.2 bd y (zokP_up hP (by omega)).1 (by rw [← he]; exact (ko p1 c1 rfl).1 y)
      · exact m.ge ln.2 bd ex.1 ex.2 (Or.inr (Or.inr ⟨rfl, y⟩)) ((ko p1 c1 rfl).2 y)
theorem zbd_x {M1 : Nat → Nat → Int32} {k n f a : Nat} (hX : ztX M0 M1) (kk : ∀ M, M 71 14 = nI f → M 71 15 = nI a → ztX M0 M → ztLp d F X b K B M) : ztBd d F X b K B M1 k n f a := fun M h1 h2 h3 => kk M h1 h2 (ztX_tr hX (ztX_G h3))
theorem ztD_ref {p k : Nat} {c : List (Nat × Nat)} {I : Nat → Option (Nat × Nat × Nat)} {o : zO3} (hK : zKok K) (hl3 : len ≤ 300) (D : ztD T len p c k I o) (kk : ztK3 d F X b K B M0 T len o) : ∀ M, ztU M0 M T len p c k I → ztLp d F X b K B M := by
  have hT := ztok T (len := len)
  have so0 : ∀ {M p}, zRt M T len p → ztk T len p ≠ 0 → ¬ M 71 12 = 0 := fun {M p} h h0 q => by
    rcases zrt_c h with ⟨y, _⟩ | ⟨_, y⟩ | ⟨_, y⟩ | ⟨_, _, y, _⟩ | ⟨y, _⟩
    · exact absurd y h0
    · rw [q] at y; exact absurd y (by decide)
    · rw [q] at y; exact absurd y (by decide)
    · rw [q] at y; exact absurd y (by decide)
    · rw [q] at y; exact absurd y (by decide)
  induction D using ztD.ind with
  | fin h0 => intro M hU; exact kk M _ hU h0
  | noc h0 hk =>
    intro M hU
    refine zsS4 hU.wr hU.st rfl (so0 hU.rt h0) (fun G hg => ?_)
    refine sp_noc hK hU h0 hk (hg _ (kk _ (by rw [zu_at, if_neg (by decide), zu_at, if_pos rfl]; rfl) (by rw [zu_at, if_pos rfl]) ⟨fun c h1 h2 => by rw [zu_oc h1, zu_oc h1]; exact hU.fx.1 c h1 h2, fun i h1 h2 h3 h4 h5 h6 => by rw [zu_at, if_neg (by omega), zu_at, if_neg (by omega)]; exact hU.fx.2 i h1 h2 h3 h4 h5 h6⟩))
  | was hw hk hI =>
    intro M hU
    refine zsS4 hU.wr hU.st rfl (so0 hU.rt (by omega)) (fun G hg => ?_)
    refine sp_was hK hU hw hk hI (hg _ (kk _ (by rw [zu_at, if_neg (by decide), zu_at, if_pos rfl]; rfl) (by rw [zu_at, if_pos rfl]) ⟨fun c h1 h2 => by rw [zu_oc h1, zu_oc h1, zu_oc h1]; exact hU.fx.1 c h1 h2, fun i h1 h2 h3 h4 h5 h6 => by rw [zu_at, if_neg (by omega), zu_at, if_neg (by omega), zu_at, if_neg h5]; exact hU.fx.2 i h1 h2 h3 h4 h5 h6⟩))
  | cb hw hk hI D1 =>
    intro M hU
    have s := zTok_s hT hU.pl (by omega)
    refine zsS4 hU.wr hU.st rfl (so0 hU.rt (by omega)) (fun G hg => ?_)
    refine sp_begin hK hU hw hk hI (fun M1 fk s2 hf hR hs hX _ _ => hg _ ?_)
    exact zcl_run hK hl3 s.2 (by have := hU.ls; omega) hf hR hs D1 (fun p1 c1 e => by cases e) (fun f a e => by cases e; exact zbd_x hX kk)
  | cs hw hk hI D1 h29 =>
    intro M hU
    have s := zTok_s hT hU.pl (by omega)
    refine zsS4 hU.wr hU.st rfl (so0 hU.rt (by omega)) (fun G hg => ?_)
    refine sp_begin hK hU hw hk hI (fun M1 fk s2 hf hR hs hX _ _ => hg _ ?_)
    exact zcl_run hK hl3 s.2 (by have := hU.ls; omega) hf hR hs D1 (fun p1 c1 e => by cases e; exact ⟨fun y => absurd y h29, fun _ => zbd_x hX kk⟩) (fun f a e => by cases e)
  | @go p c k I w p1 c1 o hw hk hI D1 h29 D2 ih =>
    intro M hU
    have s := zTok_s hT hU.pl (by omega)
    have ln := zDv_len hT D1 p1 c1 rfl s.2
    have s1 := zTok_s hT ln.2 (by omega)
    have ls := hU.ls
    obtain ⟨e, he, -⟩ := zDv_ty D1 p1 c1 rfl (by omega)
    have cu := zcnt_up (v := (c.length, c1.length - c.length, k)) hw hI
    refine zsS4 hU.wr hU.st rfl (so0 hU.rt (by omega)) (fun G hg => ?_)
    refine sp_begin hK hU hw hk hI (fun M1 fk s2 hf hR hs hX h83 h82 => hg _ ?_)
    refine zcl_run hK hl3 s.2 (by omega) hf hR hs D1 (fun p2 c2 q => ?_) (fun f a q => by cases q)
    cases q
    refine ⟨fun _ => ?_, fun y => absurd h29 y⟩
    intro M2 hV
    have lc : c1.length = c.length + e.length := by rw [he, List.length_append]
    refine ih kk M2 ⟨hV.tm, hV.rt, hV.pl, hV.wr, hV.op, hV.nf, hV.nw, hV.st, by rw [hV.no, show k + c1.length + 1 = k + 1 + c1.length by omega], by rw [cu.1, hU.k4], by omega, fun x hx => ?_, ztX_tr hX ⟨fun c' h1 h2 => hV.f1 c' h1 (by omega) (by omega) (by omega), fun i d1 d2 d3 d4 d5 d6 => hV.f2 i d1 d2 d3 d4 d6⟩, hV.wa⟩
    have e82 : M2 82 = M1 82 := hV.f1 82 (by decide) (by decide) (by decide) (by decide)
    rw [e82, h82]
    unfold ztup
    by_cases y : x = w
    · rw [if_pos y, if_pos y]
      refine Or.inr ⟨c.length, c1.length - c.length, k, rfl, rfl, by omega, by omega, ?_, fun i hi => ?_⟩
      · rw [show k + c.length + (c1.length - c.length) = k + c1.length by omega]
        exact hV.en
      · rw [show k + c.length + i = k + (c.length + i) by omega]
        exact hV.cd (c.length + i) (by omega) (by omega)
    · rw [if_neg y, if_neg y]
      rcases hU.io x hx with r | ⟨b1, n1, q1, e1, e2, e3, e4, e5, e6⟩
      · exact Or.inl r
      · have f3 : ∀ j, j < k + c.length → M2 83 j = M 83 j ∧ M2 84 j = M 84 j := fun j hj => by
          have a := hV.f3 j hj
          have c' := h83 j
          exact ⟨a.1.trans c'.1, a.2.trans c'.2⟩
        refine Or.inr ⟨b1, n1, q1, e1, e2, by omega, by omega, by rw [(f3 _ (by omega)).1]; exact e5, fun i hi => ?_⟩
        rw [(f3 (q1 + b1 + i) (by omega)).1, (f3 (q1 + b1 + i) (by omega)).2]
        have g : c1.getD (b1 + i) (0, 0) = c.getD (b1 + i) (0, 0) := by rw [he]; simp [List.getD, List.getElem?_append_left (show b1 + i < c.length by omega)]
        rw [g]
        exact e6 i hi
end RFT
