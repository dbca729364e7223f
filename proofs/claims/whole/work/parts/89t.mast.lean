/-! ===== reading a text: the reference's machine, step by step ===== -/
section MST
variable {d : Nat} {F : Option Value → zS → Prop} {X : zX} {b : Nat × Nat} {K : Nat → Nat → Option Nat} {B : Nat → Nat → Int64} {M0 : Nat → Nat → Int32} {T : Nat → Nat} {len w q b0 : Nat}
def ztLp (d : Nat) (F : Option Value → zS → Prop) (X : zX) (b : Nat × Nat) (K : Nat → Nat → Option Nat) (B : Nat → Nat → Int64) (M : Nat → Nat → Int32) : Prop := zEx (zCall (d + 20)) 10 false 1 zc_Model_text F 95 [.ref 71, .int (nI 4), .null] [] (X, b, zLay, K, B, M)
def ztGo (d : Nat) (F : Option Value → zS → Prop) (X : zX) (b : Nat × Nat) (K : Nat → Nat → Option Nat) (B : Nat → Nat → Int64) (b' : Nat × Nat) (G : Option Value → zS → Prop) : Prop := ∀ M, ztLp d F X b K B M → G none (X, b', zLay, K, B, M)
def ztQ (d : Nat) (F : Option Value → zS → Prop) (X : zX) (b : Nat × Nat) (K : Nat → Nat → Option Nat) (B : Nat → Nat → Int64) (M0 : Nat → Nat → Int32) (T : Nat → Nat) (len w q b0 : Nat) (s p : Nat) (fs ws e : List (Nat × Nat)) : Prop := match s with
  | 5 => ∀ M, ztR M T len w q b0 p fs ws e → ztG q b0 M0 M → ∀ G b', ztGo d F X b K B b' G → zEx (zCall (d + 18)) 10 false 0 zc_Model_oneIsOver G 0 [.ref 71] [] (X, b', zLay, K, B, M)
  | 6 => ∀ M, ztR M T len w q b0 p fs ws e → ztG q b0 M0 M → ∀ G b', ztGo d F X b K B b' G → zEx (zCall (d + 18)) 10 false 0 zc_Model_askIsOver G 0 [.ref 71] [] (X, b', zLay, K, B, M)
  | s => ∀ M, ztR M T len w q b0 p fs ws e → ztG q b0 M0 M → M 71 23 = nI s → ztLp d F X b K B M
def ztBd (d : Nat) (F : Option Value → zS → Prop) (X : zX) (b : Nat × Nat) (K : Nat → Nat → Option Nat) (B : Nat → Nat → Int64) (M0 : Nat → Nat → Int32) (q b0 f a : Nat) : Prop := ∀ M, M 71 14 = nI f → M 71 15 = nI a → ztG q b0 M0 M → ztLp d F X b K B M
abbrev ztV (M0 M : Nat → Nat → Int32) (T : Nat → Nat) (len q b0 p : Nat) (e : List (Nat × Nat)) : Prop := (ztM M T len) ∧ (zRt M T len p) ∧ (p ≤ len) ∧ (M 71 14 = 0) ∧ (M 71 16 = 0) ∧ (M 71 17 = 0) ∧ (M 71 20 = 0) ∧ (M 71 23 = 4) ∧ (M 71 27 = nI (q + e.length + 1)) ∧ (∀ i, b0 ≤ i → i < e.length → M 83 (q + i) = zrop (e.getD i (0, 0)) ∧ M 84 (q + i) = zrov (e.getD i (0, 0))) ∧ (M 83 (q + e.length) = 408) ∧ (∀ c, c ≠ 71 → ¬ (78 ≤ c ∧ c ≤ 81) → c ≠ 83 → c ≠ 84 → M c = M0 c) ∧ (∀ i, ¬ (10 ≤ i ∧ i ≤ 17) → i ≠ 20 → i ≠ 23 → i ≠ 24 → i ≠ 27 → M 71 i = M0 71 i) ∧ (∀ j, j < q + b0 → M 83 j = M0 83 j ∧ M 84 j = M0 84 j) ∧ (M 71 15 = -1)
theorem ztV.tm {M0 M : Nat → Nat → Int32} {T : Nat → Nat} {len q b0 p : Nat} {e : List (Nat × Nat)} (h : ztV M0 M T len q b0 p e) : ztM M T len := h.1
theorem ztV.rt {M0 M : Nat → Nat → Int32} {T : Nat → Nat} {len q b0 p : Nat} {e : List (Nat × Nat)} (h : ztV M0 M T len q b0 p e) : zRt M T len p := h.2.1
theorem ztV.pl {M0 M : Nat → Nat → Int32} {T : Nat → Nat} {len q b0 p : Nat} {e : List (Nat × Nat)} (h : ztV M0 M T len q b0 p e) : p ≤ len := h.2.2.1
theorem ztV.wr {M0 M : Nat → Nat → Int32} {T : Nat → Nat} {len q b0 p : Nat} {e : List (Nat × Nat)} (h : ztV M0 M T len q b0 p e) : M 71 14 = 0 := h.2.2.2.1
theorem ztV.op {M0 M : Nat → Nat → Int32} {T : Nat → Nat} {len q b0 p : Nat} {e : List (Nat × Nat)} (h : ztV M0 M T len q b0 p e) : M 71 16 = 0 := h.2.2.2.2.1
theorem ztV.nf {M0 M : Nat → Nat → Int32} {T : Nat → Nat} {len q b0 p : Nat} {e : List (Nat × Nat)} (h : ztV M0 M T len q b0 p e) : M 71 17 = 0 := h.2.2.2.2.2.1
theorem ztV.nw {M0 M : Nat → Nat → Int32} {T : Nat → Nat} {len q b0 p : Nat} {e : List (Nat × Nat)} (h : ztV M0 M T len q b0 p e) : M 71 20 = 0 := h.2.2.2.2.2.2.1
theorem ztV.st {M0 M : Nat → Nat → Int32} {T : Nat → Nat} {len q b0 p : Nat} {e : List (Nat × Nat)} (h : ztV M0 M T len q b0 p e) : M 71 23 = 4 := h.2.2.2.2.2.2.2.1
theorem ztV.no {M0 M : Nat → Nat → Int32} {T : Nat → Nat} {len q b0 p : Nat} {e : List (Nat × Nat)} (h : ztV M0 M T len q b0 p e) : M 71 27 = nI (q + e.length + 1) := h.2.2.2.2.2.2.2.2.1
theorem ztV.cd {M0 M : Nat → Nat → Int32} {T : Nat → Nat} {len q b0 p : Nat} {e : List (Nat × Nat)} (h : ztV M0 M T len q b0 p e) : ∀ i, b0 ≤ i → i < e.length → M 83 (q + i) = zrop (e.getD i (0, 0)) ∧ M 84 (q + i) = zrov (e.getD i (0, 0)) := h.2.2.2.2.2.2.2.2.2.1
theorem ztV.en {M0 M : Nat → Nat → Int32} {T : Nat → Nat} {len q b0 p : Nat} {e : List (Nat × Nat)} (h : ztV M0 M T len q b0 p e) : M 83 (q + e.length) = 408 := h.2.2.2.2.2.2.2.2.2.2.1
theorem ztV.f1 {M0 M : Nat → Nat → Int32} {T : Nat → Nat} {len q b0 p : Nat} {e : List (Nat × Nat)} (h : ztV M0 M T len q b0 p e) : ∀ c, c ≠ 71 → ¬ (78 ≤ c ∧ c ≤ 81) → c ≠ 83 → c ≠ 84 → M c = M0 c := h.2.2.2.2.2.2.2.2.2.2.2.1
theorem ztV.f2 {M0 M : Nat → Nat → Int32} {T : Nat → Nat} {len q b0 p : Nat} {e : List (Nat × Nat)} (h : ztV M0 M T len q b0 p e) : ∀ i, ¬ (10 ≤ i ∧ i ≤ 17) → i ≠ 20 → i ≠ 23 → i ≠ 24 → i ≠ 27 → M 71 i = M0 71 i := h.2.2.2.2.2.2.2.2.2.2.2.2.1
theorem ztV.f3 {M0 M : Nat → Nat → Int32} {T : Nat → Nat} {len q b0 p : Nat} {e : List (Nat × Nat)} (h : ztV M0 M T len q b0 p e) : ∀ j, j < q + b0 → M 83 j = M0 83 j ∧ M 84 j = M0 84 j := h.2.2.2.2.2.2.2.2.2.2.2.2.2.1
theorem ztV.wa {M0 M : Nat → Nat → Int32} {T : Nat → Nat} {len q b0 p : Nat} {e : List (Nat × Nat)} (h : ztV M0 M T len q b0 p e) : M 71 15 = -1 := h.2.2.2.2.2.2.2.2.2.2.2.2.2.2
def ztOv (d : Nat) (F : Option Value → zS → Prop) (X : zX) (b : Nat × Nat) (K : Nat → Nat → Option Nat) (B : Nat → Nat → Int64) (M0 : Nat → Nat → Int32) (T : Nat → Nat) (len q b0 p : Nat) (e : List (Nat × Nat)) : Prop := ∀ M, ztV M0 M T len q b0 p e → ztLp d F X b K B M
theorem zsS0 {M : Nat → Nat → Int32} (h1 : M 71 14 = 0) (h2 : M 71 23 = nI 0) (kk : ∀ G, ztGo d F X b K B (0, 0) G → zCall (d + 20) zm_Model_asks [.ref 71] (X, (0, 0), zLay, K, B, M) G) : ztLp d F X b K B M := zb_Model_textS0_95 4 h1 h2 (kk _ (fun M' h => zb_Model_text_156 4 h))
theorem zsS1 {M : Nat → Nat → Int32} (h1 : M 71 14 = 0) (h2 : M 71 23 = nI 1) (kk : ∀ G, ztGo d F X b K B (0, 0) G → zCall (d + 20) zm_Model_begins [.ref 71] (X, (0, 0), zLay, K, B, M) G) : ztLp d F X b K B M := zb_Model_textS1_95 4 h1 h2 (kk _ (fun M' h => zb_Model_text_163 4 h))
theorem zsS2 {M : Nat → Nat → Int32} (h1 : M 71 14 = 0) (h2 : M 71 23 = nI 2) (kk : ∀ G, ztGo d F X b K B (0, 0) G → zCall (d + 20) zm_Model_goesOn [.ref 71] (X, (0, 0), zLay, K, B, M) G) : ztLp d F X b K B M := zb_Model_textS2_95 4 h1 h2 (kk _ (fun M' h => zb_Model_text_170 4 h))
theorem zsS3 {M : Nat → Nat → Int32} (h1 : M 71 14 = 0) (h2 : M 71 23 = nI 3) (kk : ∀ G, ztGo d F X b K B (0, 0) G → zCall (d + 20) zm_Model_asksOn [.ref 71] (X, (0, 0), zLay, K, B, M) G) : ztLp d F X b K B M := zb_Model_textS3_95 4 h1 h2 (kk _ (fun M' h => zb_Model_text_177 4 h))
theorem zsS4 {M : Nat → Nat → Int32} {so : Int32} (h1 : M 71 14 = 0) (h2 : M 71 23 = 4) (h3 : M 71 12 = so) (hs : ¬ so = 0) (kk : ∀ G, ztGo d F X b K B (0, 0) G → zCall (d + 20) zm_Model_clause [.ref 71] (X, (0, 0), zLay, K, B, M) G) : ztLp d F X b K B M := zb_Model_textS4_95 4 h1 h2 h3 (fun z => absurd z hs) (fun _ => kk _ (fun M' h => zb_Model_text_184 4 h))
/-- works -/
theorem lp_wk {G : Option Value → zS → Prop} {b' : Nat × Nat} {p r : Nat} {fs ws : List (Nat × Nat)} (hK : zKok K) (hr : r ≤ 4) (hfl : fs.length ≤ 20) (hn : znb r fs.length ws) : ∀ (P e : List (Nat × Nat)) (M : Nat → Nat → Int32), zpA r fs.length P → (P ++ ws).length ≤ 60 → q + e.length + P.length ≤ 350 → ztR M T len w q b0 p fs (P ++ ws) e → ztG q b0 M0 M → (∀ M', ztR M' T len w q b0 p fs ws (e ++ zops P) → ztG q b0 M0 M' → (∀ i, i ≠ 20 → i ≠ 27 → M' 71 i = M 71 i) → G none (X, b', zLay, K, B, M')) → zEx (zCall (d + 17)) 10 false 0 zc_Model_works G 0 [.ref 71, .int (nI r)] [] (X, b', zLay, K, B, M) := by
  intro P
  induction P with
  | nil =>
    intro e M hP hl he hR hG kk
    have k := kk M (by show ztR M T len w q b0 p fs ws (e ++ []); rw [List.append_nil]; exact hR) hG (fun _ _ _ => rfl)
    cases ws with
    | nil => exact zb_Model_worksZ_0 r hR.nw k
    | cons x l =>
      have wk := hR.wk x List.mem_cons_self
      have hwf := hR.wf.1
      have hwo := hR.wo.1
      rw [List.length_map] at hwf hwo
      have tr : ztrk x.1 ≤ 4 := by rcases wk.1 with y | y | y | y | y | y <;> (rw [y]; decide)
      refine zb_Model_worksX_0 (nw := (x :: l).length) (nf := fs.length) (wf := x.2) (wo := x.1) (no := q + e.length) hK r hR.nw hl hR.nf hfl hwf wk.2 hwo wk.1 tr hR.no (by have he : q + e.length + 0 ≤ 350 := he; omega) hr (fun _ => k) (fun _ _ => k) (fun _ _ _ => k) (fun _ z1 z2 => absurd ⟨z1, z2⟩ (hn x l rfl))
  | cons x P ih =>
    intro e M hP hl he hR hG kk
    have wk := hR.wk x List.mem_cons_self
    have hwf := hR.wf.1
    have hwo := hR.wo.1
    rw [List.length_map] at hwf hwo
    have tr : ztrk x.1 ≤ 4 := by rcases wk.1 with y | y | y | y | y | y <;> (rw [y]; decide)
    have px := hP x List.mem_cons_self
    have he2 : q + e.length + (P.length + 1) ≤ 350 := he
    have hl2 : (P ++ ws).length + 1 ≤ 60 := hl
    refine zb_Model_worksX_0 (nw := (x :: (P ++ ws)).length) (nf := fs.length) (wf := x.2) (wo := x.1) (no := q + e.length) hK r hR.nw hl hR.nf hfl hwf wk.2 hwo wk.1 tr hR.no (by omega) hr (fun z => absurd z (by show ¬ (P ++ ws).length + 1 ≤ 0; omega)) (fun _ z => absurd px.1 z) (fun _ _ z => absurd px.2 (by omega)) (fun _ _ _ => ?_)
    have r1 := ztR_e (x := (x.1, 0)) (ztR_xw hR rfl) (n := q + e.length) rfl rfl (show (0 : Int32) = zrov (x.1, 0) by rcases wk.1 with y | y | y | y | y | y <;> (rw [y]; rfl))
    refine ih (e ++ [(x.1, 0)]) _ (fun y hy => hP y (List.mem_cons_of_mem _ hy)) (by omega) (by rw [List.length_append]; show q + (e.length + 1) + P.length ≤ 350; omega) r1 (ztG_e (ztG_71 hG (by omega)) (by have := hR.bl; omega)) (fun M' r2 g2 s2 => ?_)
    refine kk M' ?_ g2 (fun i i1 i2 => ?_)
    · show ztR M' T len w q b0 p fs ws (e ++ ([(x.1, 0)] ++ zops P))
      rw [← List.append_assoc]
      exact r2
    · rw [s2 i i1 i2, zu_at, if_neg i2, zu_oc (by decide), zu_oc (by decide), zu_at, if_neg i1]
theorem sp_works {M : Nat → Nat → Int32} {G : Option Value → zS → Prop} {b' : Nat × Nat} {p r : Nat} {fs ws P e : List (Nat × Nat)} (hK : zKok K) (hr : r ≤ 4) (hfl : fs.length ≤ 20) (hn : znb r fs.length ws) (hP : zpA r fs.length P) (hl : (P ++ ws).length ≤ 60) (he : q + e.length + P.length ≤ 350) (hR : ztR M T len w q b0 p fs (P ++ ws) e) (hG : ztG q b0 M0 M) (kk : ∀ M', ztR M' T len w q b0 p fs ws (e ++ zops P) → ztG q b0 M0 M' → (∀ i, i ≠ 20 → i ≠ 27 → M' 71 i = M 71 i) → G none (X, b', zLay, K, B, M')) : zCall (d + 18) zm_Model_works [.ref 71, .int (nI r)] (X, b', zLay, K, B, M) G :=
  zc_of [.ref 71, .int (nI r)] (rfl : zinfL[zm_Model_works]? = _) rfl rfl (lp_wk hK hr hfl hn P e M hP hl he hR hG kk)
/-- tokens -/
theorem ztW_n {k : Nat} (h : 7 ≤ k ∧ k ≤ 13) : ztW k = k := by
  unfold ztW
  rw [if_neg (by omega), if_pos (by omega)]
theorem zrt_w {M : Nat → Nat → Int32} {p k : Nat} (h : zRt M T len p) (hk : ztk T len p = k) (h1 : 3 ≤ k ∧ k ≤ 16) : M 71 12 = 1 ∧ M 71 13 = nI (ztW k) := by
  subst hk
  exact h.2.2.2.2.2.1 h1.1 h1.2
theorem zrt_s {M : Nat → Nat → Int32} {p k : Nat} (h : zRt M T len p) (hk : ztk T len p = k) (h1 : 17 ≤ k) : M 71 12 = 3 ∧ M 71 13 = nI (ztsc k) := by
  subst hk
  exact h.2.2.2.2.2.2 h1
/-- the sorts of a token -/
theorem zrt_c {M : Nat → Nat → Int32} {p : Nat} (h : zRt M T len p) : (ztk T len p = 0 ∧ M 71 12 = 0) ∨ (ztk T len p = 1 ∧ M 71 12 = 4) ∨ (ztk T len p = 2 ∧ M 71 12 = 2) ∨ (3 ≤ ztk T len p ∧ ztk T len p ≤ 16 ∧ M 71 12 = 1 ∧ M 71 13 = nI (ztW (ztk T len p))) ∨ (M 71 12 = 3 ∧ ((17 ≤ ztk T len p ∧ M 71 13 = nI (ztsc (ztk T len p))) ∨ (ztk T len p = 1 ∧ M 71 13 = nI 44))) := by
  obtain ⟨h1, h2, h3, h4, h5, h6, h7⟩ := h
  rcases (by omega : ztk T len p = 0 ∨ ztk T len p = 1 ∨ ztk T len p = 2 ∨ (3 ≤ ztk T len p ∧ ztk T len p ≤ 16) ∨ 17 ≤ ztk T len p) with z | z | z | z | z
  · exact Or.inl ⟨z, h3 z⟩
  · rcases h4 z with y | y
    · exact Or.inr (Or.inl ⟨z, y⟩)
    · exact Or.inr (Or.inr (Or.inr (Or.inr ⟨y.1, Or.inr ⟨z, y.2⟩⟩)))
  · exact Or.inr (Or.inr (Or.inl ⟨z, (h5 z).1⟩))
  · exact Or.inr (Or.inr (Or.inr (Or.inl ⟨z.1, z.2, h6 z.1 z.2⟩)))
  · exact Or.inr (Or.inr (Or.inr (Or.inr ⟨(h7 z).1, Or.inl ⟨z, (h7 z).2⟩⟩)))
theorem ztsc_n {k c : Nat} (hk : 17 ≤ k ∧ k ≤ 29) (h : ztsc k = c) (hc : c ≠ 0) : (c = 43 → k = 23) ∧ (c = 45 → k = 24) ∧ (c = 42 → k = 25) ∧ (c = 47 → k = 26) ∧ (c = 40 → k = 27) ∧ (c = 41 → k = 28) ∧ (c = 59 → k = 29) ∧ (c = 60 → k = 17) ∧ (c = 300 → k = 18) ∧ (c = 62 → k = 19) ∧ (c = 301 → k = 20) ∧ (c = 61 → k = 21) ∧ (c = 35 → k = 22) := by
  have z : k = 17 ∨ k = 18 ∨ k = 19 ∨ k = 20 ∨ k = 21 ∨ k = 22 ∨ k = 23 ∨ k = 24 ∨ k = 25 ∨ k = 26 ∨ k = 27 ∨ k = 28 ∨ k = 29 := by omega
  subst h
  rcases z with rfl | rfl | rfl | rfl | rfl | rfl | rfl | rfl | rfl | rfl | rfl | rfl | rfl <;> decide
theorem ztsc_le (k : Nat) : ztsc k ≤ 301 := by
  unfold ztsc
  split <;> omega
/-- a sign in hand is c only where the kind is c's -/
theorem zsgn {M : Nat → Nat → Int32} {p c kd : Nat} (hT : zTok len (ztk T len) (ztst T len) (ztnx T len) (ztnu T len)) (hp : p ≤ len) (hR : zRt M T len p) (hso : M 71 12 = 3) (hne : ztk T len p ≠ kd) (hc : (c = 43 ∧ kd = 23) ∨ (c = 45 ∧ kd = 24) ∨ (c = 42 ∧ kd = 25) ∨ (c = 47 ∧ kd = 26) ∨ (c = 40 ∧ kd = 27) ∨ (c = 41 ∧ kd = 28) ∨ (c = 59 ∧ kd = 29) ∨ (c = 60 ∧ kd = 17) ∨ (c = 300 ∧ kd = 18) ∨ (c = 62 ∧ kd = 19) ∨ (c = 301 ∧ kd = 20) ∨ (c = 61 ∧ kd = 21) ∨ (c = 35 ∧ kd = 22)) : ¬ M 71 13 = nI c := by
  intro h
  have k29 := (hT p hp).2.2.2.2.1
  have l1 := ztsc_le (ztk T len p)
  rcases zrt_c hR with ⟨_, y⟩ | ⟨_, y⟩ | ⟨_, y⟩ | ⟨_, _, y, _⟩ | ⟨_, y⟩
  · rw [hso] at y; exact absurd y (by decide)
  · rw [hso] at y; exact absurd y (by decide)
  · rw [hso] at y; exact absurd y (by decide)
  · rw [hso] at y; exact absurd y (by decide)
  · rcases y with ⟨y1, y2⟩ | ⟨y1, y2⟩
    · rw [h] at y2
      have y2 := (nI_eq (by omega) (by omega)).mp y2
      have := ztsc_n ⟨y1, k29⟩ y2.symm (by omega)
      omega
    · rw [h] at y2
      have y2 := (nI_eq (by omega) (by omega)).mp y2
      omega
theorem zwrd {M : Nat → Nat → Int32} {p j kd : Nat} (hR : zRt M T len p) (hso : M 71 12 = 1) (hne : ztk T len p ≠ kd) (hc : (j = 4 ∧ kd = 14) ∨ (j = 5 ∧ kd = 15) ∨ (j = 6 ∧ kd = 16)) : ¬ M 71 13 = nI j := by
  intro h
  rcases zrt_c hR with ⟨_, y⟩ | ⟨_, y⟩ | ⟨_, y⟩ | ⟨y1, y2, _, y3⟩ | ⟨y, _⟩
  · rw [hso] at y; exact absurd y (by decide)
  · rw [hso] at y; exact absurd y (by decide)
  · rw [hso] at y; exact absurd y (by decide)
  · rw [h] at y3
    have wl : ztW (ztk T len p) ≤ 13 := by unfold ztW; split; omega; split <;> omega
    have y3 := (nI_eq (by omega) (by omega)).mp y3
    unfold ztW at y3
    split at y3
    · omega
    · split at y3 <;> omega
  · rw [hso] at y; exact absurd y (by decide)
/-- a fault -/
theorem zbad {M : Nat → Nat → Int32} {f a : Nat} {v : Int32} (hB : ztBd d F X b K B M0 q b0 f a) (hG : ztG q b0 M0 M) (hv : v = nI f) : ztLp d F X b K B (zu (zu M 71 14 v) 71 15 (nI a)) := hB _ (by rw [zu_at, if_neg (by decide), zu_at, if_pos rfl, hv]) (by rw [zu_at, if_pos rfl]) (ztG_71 (ztG_71 hG (by omega)) (by omega))
theorem sp_waits {M : Nat → Nat → Int32} {G : Option Value → zS → Prop} {b' : Nat × Nat} {p k : Nat} {o : Int32} {fs ws P e : List (Nat × Nat)} (hK : zKok K) (hT : zTok len (ztk T len) (ztst T len) (ztnx T len) (ztnu T len)) (hkv : k = 14 ∨ k = 15 ∨ k = 23 ∨ k = 24 ∨ k = 25 ∨ k = 26) (ho : o = zrop (k, 0)) (hfl : fs.length ≤ 20) (hn : znb (ztrk k) fs.length ws) (hP : zpA (ztrk k) fs.length P) (hl : (P ++ ws).length ≤ 50) (he : q + e.length + P.length ≤ 350) (hR : ztR M T len w q b0 p fs (P ++ ws) e) (hG : ztG q b0 M0 M) (kk : ∀ M', ztR M' T len w q b0 (ztnx T len p) fs ((k, fs.length) :: ws) (e ++ zops P) → ztG q b0 M0 M' → G none (X, b', zLay, K, B, M')) : zCall (d + 19) zm_Model_waitsFor [.ref 71, .int o] (X, b', zLay, K, B, M) G := by
  subst ho
  have tr : ztrk k ≤ 4 := by rcases hkv with y | y | y | y | y | y <;> (rw [y]; decide)
  refine zb_Model_waitsFor_0 (wo := k) hkv ?_
  refine sp_works hK tr hfl hn hP (by omega) he hR hG (fun M1 r1 g1 s1 => ?_)
  refine zb_Model_waitsFor_8 (nw := ws.length) (nf := fs.length) hK _ r1.nw (by rw [List.length_append] at hl; omega) r1.nf hfl ?_
  have r2 := ztR_pw (k := k) (m := fs.length) r1 rfl ⟨hkv, hfl⟩ rfl rfl
  have g2 : ztG q b0 M0 (zu (zu (zu M1 80 ws.length (zrop (k, 0))) 81 ws.length (nI fs.length)) 71 20 (nI (ws.length + 1))) := ztG_71 (ztG_c (ztG_c g1 (by omega)) (by omega)) (by omega)
  have np := (hT p r1.pl).2.2.2.1
  refine sp_next (d := d + 12) hK r2.tm r2.rt.2.1 np (fun M3 m3 t3 => ?_)
  exact zb_Model_waitsFor_45 _ (kk M3 (ztR_n r2 m3 t3 np) (ztG_f g2 m3))
theorem sp_opens {M : Nat → Nat → Int32} {G : Option Value → zS → Prop} {b' : Nat × Nat} {p k : Nat} {v : Int32} {fs ws e : List (Nat × Nat)} (hK : zKok K) (hT : zTok len (ztk T len) (ztst T len) (ztnx T len) (ztnu T len)) (hk : k = 3 ∨ k = 6 ∨ k = 7) (hv : v = nI k) (hfl : fs.length ≤ 10) (hR : ztR M T len w q b0 p fs ws e) (hG : ztG q b0 M0 M) (k1 : zton fs < 8 → ∀ M', ztR M' T len w q b0 (ztnx T len p) ((k, 0) :: fs) ws e → ztG q b0 M0 M' → M' 71 23 = M 71 23 → G (some (.int 1)) (X, b', zLay, K, B, M')) (k0 : zton fs = 8 → G (some (.int 0)) (X, b', zLay, K, B, (zu (zu M 71 14 3) 71 15 (nI (ztst T len p))))) : zCall (d + 19) zm_Model_opensSign [.ref 71, .int v] (X, b', zLay, K, B, M) G := by
  subst hv
  refine zb_Model_opensSign_0 (op := zton fs) (nf := fs.length) (tkn := ztst T len p) hK k hR.rt.1 hR.wr hR.op hR.o8 hR.nf (by omega) (by omega) (fun z => ?_) (fun z => k0 z)
  have o8 := hR.o8
  have r2 := ztR_po (k := k) hR (by omega) rfl hk rfl rfl
  have g2 : ztG q b0 M0 (zu (zu (zu M 71 16 (nI (zton fs + 1))) 78 fs.length (nI k)) 71 17 (nI (fs.length + 1))) := ztG_71 (ztG_c (ztG_71 hG (by omega)) (by omega)) (by omega)
  have np := (hT p hR.pl).2.2.2.1
  refine sp_next (d := d + 12) hK r2.tm r2.rt.2.1 np (fun M3 m3 t3 => ?_)
  exact zb_Model_opensSign_35 k (k1 (by omega) M3 (ztR_n r2 m3 t3 np) (ztG_f g2 m3) (by rw [m3.2 23 (by omega)]; rfl))
theorem sp_1over {M : Nat → Nat → Int32} {p : Nat} {fs ws e : List (Nat × Nat)} {G : Option Value → zS → Prop} {b' : Nat × Nat} (hq : ztQ d F X b K B M0 T len w q b0 5 p fs ws e) (hR : ztR M T len w q b0 p fs ws e) (hG : ztG q b0 M0 M) (hg : ztGo d F X b K B b' G) : zCall (d + 19) zm_Model_oneIsOver [.ref 71] (X, b', zLay, K, B, M) G := zc_of [.ref 71] (rfl : zinfL[zm_Model_oneIsOver]? = _) rfl rfl (hq M hR hG G b' hg)
theorem sp_aover {M : Nat → Nat → Int32} {p : Nat} {fs ws e : List (Nat × Nat)} {G : Option Value → zS → Prop} {b' : Nat × Nat} (hq : ztQ d F X b K B M0 T len w q b0 6 p fs ws e) (hR : ztR M T len w q b0 p fs ws e) (hG : ztG q b0 M0 M) (hg : ztGo d F X b K B b' G) : zCall (d + 19) zm_Model_askIsOver [.ref 71] (X, b', zLay, K, B, M) G := zc_of [.ref 71] (rfl : zinfL[zm_Model_askIsOver]? = _) rfl rfl (hq M hR hG G b' hg)
theorem ztV_of {M M1 : Nat → Nat → Int32} {p p2 : Nat} {x : Nat × Nat} {e : List (Nat × Nat)} {nc : Int32} (hz : zton [x] = 0) (hR : ztR M T len w q b0 p [x] [] e) (hG : ztG q b0 M0 M) (m : ztMf (zu (zu (zu (zu (zu M 71 17 0) 83 (q + e.length) 408) 84 (q + e.length) 0) 71 27 (nI (q + e.length + 1))) 71 24 nc) M1) (t : zRt M1 T len p2) (hp : p2 ≤ len) : ztV M0 (zu M1 71 23 4) T len q b0 p2 e := by
  have o := m.1
  have f := m.2
  have g := ztM_f m hR.tm
  refine ⟨g, t, hp, by rw [zu_at, if_neg (by decide), f 14 (by omega)]; exact hR.wr, ?_, by rw [zu_at, if_neg (by decide), f 17 (by omega)]; rfl, by rw [zu_at, if_neg (by decide), f 20 (by omega)]; exact hR.nw, by rw [zu_at, if_pos rfl], by rw [zu_at, if_neg (by decide), f 27 (by omega)]; rfl, fun i h1 h2 => ?_, ?_, fun c h1 h2 h3 h4 => ?_, fun i h1 h2 h3 h4 h5 => ?_, fun j hj => ?_, by rw [zu_at, if_neg (by decide), f 15 (by omega)]; exact hR.wa⟩
  · rw [zu_at, if_neg (by decide), f 16 (by omega)]
    have := hR.op
    rw [hz] at this
    exact this
  · rw [zu_oc (by decide), zu_oc (by decide), o 83 (by decide), o 84 (by decide), zu_oc (by decide), zu_oc (by decide), zu_oc (by decide), zu_at, if_neg (by omega), zu_oc (by decide), zu_oc (by decide), zu_oc (by decide), zu_at, if_neg (by omega)]
    exact hR.cd i h1 h2
  · rw [zu_oc (by decide), o 83 (by decide), zu_oc (by decide), zu_oc (by decide), zu_oc (by decide), zu_at, if_pos rfl]
  · rw [zu_oc h1, o c h1, zu_oc h1, zu_oc h1, zu_oc h4, zu_oc h3, zu_oc h1]
    exact hG.1 c h1 h2 h3 h4
  · rw [zu_at, if_neg h3, f i (by omega), zu_at, if_neg h4, zu_at, if_neg h5, zu_oc (by decide), zu_oc (by decide), zu_at, if_neg (by omega)]
    exact hG.2.1 i h1 h2 h3 h5
  · have bl := hR.bl
    rw [zu_oc (by decide), zu_oc (by decide), o 83 (by decide), o 84 (by decide), zu_oc (by decide), zu_oc (by decide), zu_oc (by decide), zu_at, if_neg (by omega), zu_oc (by decide), zu_oc (by decide), zu_oc (by decide), zu_at, if_neg (by omega)]
    exact hG.2.2 j hj
theorem sp_cover {M : Nat → Nat → Int32} {p : Nat} {x : Nat × Nat} {P e : List (Nat × Nat)} {G : Option Value → zS → Prop} {b' : Nat × Nat} (hK : zKok K) (hT : zTok len (ztk T len) (ztst T len) (ztnx T len) (ztnu T len)) (hz : zton [x] = 0) (hP : zpA 1 1 P) (hl : P.length ≤ 50) (he : q + e.length + P.length ≤ 350) (hR : ztR M T len w q b0 p [x] P e) (hG : ztG q b0 M0 M) (hO : ztOv d F X b K B M0 T len q b0 (ztnx T len p) (e ++ zops P)) (hg : ztGo d F X b K B b' G) : zCall (d + 19) zm_Model_clauseIsOver [.ref 71] (X, b', zLay, K, B, M) G := by
  refine zb_Model_clauseIsOver_0 ?_
  have hR0 : ztR M T len w q b0 p [x] (P ++ []) e := by rw [List.append_nil]; exact hR
  refine sp_works (r := 1) (fs := [x]) hK (by omega) (by show 1 ≤ 20; omega) (fun y l z => by cases z) hP (by rw [List.append_nil]; omega) he hR0 hG (fun M1 r1 g1 s1 => ?_)
  refine zb_Model_clauseIsOver_5 (no := q + (e ++ zops P).length) hK r1.no (by rw [List.length_append, zops_len]; omega) rfl ?_
  have np := (hT p r1.pl).2.2.2.1
  refine sp_next (d := d + 12) hK r1.tm r1.rt.2.1 np (fun M3 m3 t3 => ?_)
  exact zb_Model_clauseIsOver_32 (hg _ (hO _ (ztV_of hz r1 g1 m3 t3 np)))
theorem ztma (hK : zKok K) (hl3 : len ≤ 300) : zMa (ztk T len) (ztst T len) (ztnx T len) (ztnu T len) w len (ztQ d F X b K B M0 T len w q b0) (ztBd d F X b K B M0 q b0) (ztOv d F X b K B M0 T len q b0) := by
  have hT := ztok T (len := len)
  have nx : ∀ {p}, p ≤ len → ztnx T len p ≤ len := fun {p} hp => (hT p hp).2.2.2.1
  refine ⟨?_, ?_, ?_, ?_, ?_, ?_, ?_, ?_, ?_, ?_, ?_, ?_, ?_, ?_, ?_, ?_, ?_, ?_, ?_, ?_, ?_, ?_, ?_, ?_⟩
  · exact fun {p fs ws e} hp hb hk h8 hB M hR hG hs => by
      have z := zrt_w hR.rt hk (by omega)
      refine zsS0 hR.wr hs (fun G hg => ?_)
      refine zb_Model_asksN_0 z.1 z.2 ?_
      exact sp_opens (k := 3) hK hT (Or.inl rfl) rfl hb.1 hR hG (fun y => absurd y (by omega)) (fun _ => zb_Model_asks_14 _ (hg _ (zbad hB hG rfl)))
  · exact fun {p fs ws e} hp hb hk h8 hQ M hR hG hs => by
      have z := zrt_w hR.rt hk (by omega)
      refine zsS0 hR.wr hs (fun G hg => ?_)
      refine zb_Model_asksN_0 z.1 z.2 ?_
      exact sp_opens (k := 3) hK hT (Or.inl rfl) rfl hb.1 hR hG (fun _ M1 r1 g1 s1 => zb_Model_asks_14 _ (hg _ (hQ M1 r1 g1 (s1.trans hs)))) (fun y => absurd y (by omega))
  · exact fun {p fs ws e} hp hb hk hQ M hR hG hs => by
      refine zsS0 hR.wr hs (fun G hg => ?_)
      have r1 := ztR_23 (v := 1) (ztR_pf (k := 4) (c := 0) hR rfl ⟨by decide, by decide, by decide, by decide, by decide⟩ rfl)
      have k := hg _ (hQ _ r1 (ztG_71 (ztG_71 (ztG_c hG (by omega)) (by omega)) (by omega)) (by rw [zu_at, if_pos rfl]; rfl))
      exact zb_Model_asksE_0 (nf := fs.length) hK rfl rfl hR.nf (by have := hb.1; omega) (fun _ => k) (fun _ _ => k) (fun y1 y2 => absurd y2 (zwrd hR.rt y1 hk (Or.inr (Or.inr ⟨rfl, rfl⟩))))
  · exact fun {p fs ws e} hp hb hk h9 hQ M hR hG hs => by
      obtain ⟨z1, v, z2, z3, z4⟩ := hR.rt.2.2.2.2.1 hk
      have hv : v = ztnu T len p := by omega
      subst hv
      refine zsS1 hR.wr hs (fun G hg => ?_)
      have q3 := hR.q3
      have e3 := hb.2.2
      refine zb_Model_beginsU_0 (no := q + e.length) hK z1 z2 z3 hR.rt.1 hR.wr hR.no (by omega) (fun _ => ?_) (fun y => absurd y (by omega))
      have r1 := ztR_e (x := (2, ztnu T len p)) (n := q + e.length) hR rfl rfl rfl
      have g1 : ztG q b0 M0 _ := ztG_e (o := 400) (v := nI (ztnu T len p)) (y := nI (q + e.length + 1)) hG (show q + b0 ≤ q + e.length by have := hR.bl; omega)
      refine sp_next (d := d + 13) hK r1.tm r1.rt.2.1 (nx hp) (fun M2 m2 t2 => ?_)
      refine zb_Model_begins_39 ?_
      exact sp_1over hQ (ztR_n r1 m2 t2 (nx hp)) (ztG_f g1 m2) (fun M3 h3 => zb_Model_begins_43 (hg M3 h3))
  · exact fun {p fs ws e} hp hb hk h9 hB M hR hG hs => by
      obtain ⟨z1, v, z2, z3, z4⟩ := hR.rt.2.2.2.2.1 hk
      have q3 := hR.q3
      have e3 := hb.2.2
      refine zsS1 hR.wr hs (fun G hg => ?_)
      exact zb_Model_beginsU_0 (no := q + e.length) hK z1 z2 z3 hR.rt.1 hR.wr hR.no (by omega) (fun y => absurd y (by omega)) (fun _ => hg _ (zbad hB hG rfl))
  · exact fun {p fs ws e} hp hb k1 k2 k3 hQ M hR hG hs => by
      have z := zrt_w hR.rt rfl (by omega)
      have zw : ztW (ztk T len p) = ztk T len p := ztW_n (by omega)
      rw [zw] at z
      have q3 := hR.q3
      have e3 := hb.2.2
      have w4 := hR.w4
      refine zsS1 hR.wr hs (fun G hg => ?_)
      have ix : ztk T len p - 6 - 1 = ztk T len p - 7 := by omega
      refine zb_Model_beginsA_0 (v := ztk T len p) (w := w) (no := q + e.length) hK z.1 z.2 (by omega) hR.ki w4 (by rcases (by omega : w = 0 ∨ w = 1 ∨ w = 2 ∨ w = 3) with r | r | r | r <;> (rw [r]; decide)) hR.rt.1 hR.wr hR.no (by omega) (fun y => absurd y (by omega)) (fun _ _ => ?_) (fun _ y => by rw [ix, k3] at y; cases y)
      have r1 := ztR_e (x := (ztk T len p, 0)) (n := q + e.length) (o := 401) (v := nI (ztk T len p - 6 - 1)) hR rfl (by rcases (by omega : ztk T len p = 7 ∨ ztk T len p = 8 ∨ ztk T len p = 9 ∨ ztk T len p = 10 ∨ ztk T len p = 11 ∨ ztk T len p = 12 ∨ ztk T len p = 13) with r | r | r | r | r | r | r <;> (rw [r]; rfl)) (by rcases (by omega : ztk T len p = 7 ∨ ztk T len p = 8 ∨ ztk T len p = 9 ∨ ztk T len p = 10 ∨ ztk T len p = 11 ∨ ztk T len p = 12 ∨ ztk T len p = 13) with r | r | r | r | r | r | r <;> (rw [r]; rfl))
      have g1 : ztG q b0 M0 _ := ztG_e (o := 401) (v := nI (ztk T len p - 6 - 1)) (y := nI (q + e.length + 1)) hG (show q + b0 ≤ q + e.length by have := hR.bl; omega)
      refine sp_next (d := d + 13) hK r1.tm r1.rt.2.1 (nx hp) (fun M2 m2 t2 => ?_)
      refine zb_Model_beginsA_105 _ ?_
      exact sp_1over hQ (ztR_n r1 m2 t2 (nx hp)) (ztG_f g1 m2) (fun M3 h3 => zb_Model_beginsA_109 _ (hg M3 h3))
  · exact fun {p fs ws e} hp hb k1 k2 k3 hB M hR hG hs => by
      have z := zrt_w hR.rt rfl (by omega)
      have zw : ztW (ztk T len p) = ztk T len p := ztW_n (by omega)
      rw [zw] at z
      have q3 := hR.q3
      have e3 := hb.2.2
      have w4 := hR.w4
      have ix : ztk T len p - 6 - 1 = ztk T len p - 7 := by omega
      refine zsS1 hR.wr hs (fun G hg => ?_)
      exact zb_Model_beginsA_0 (v := ztk T len p) (w := w) (no := q + e.length) hK z.1 z.2 (by omega) hR.ki w4 (by rcases (by omega : w = 0 ∨ w = 1 ∨ w = 2 ∨ w = 3) with r | r | r | r <;> (rw [r]; decide)) hR.rt.1 hR.wr hR.no (by omega) (fun y => absurd y (by omega)) (fun _ y => by rw [ix, k3] at y; cases y) (fun _ _ => hg _ (zbad hB hG rfl))
  · exact fun {p fs ws e} hp hb hk h8 hQ M hR hG hs => by
      have z := zrt_s hR.rt hk (by omega)
      refine zsS1 hR.wr hs (fun G hg => ?_)
      refine zb_Model_beginsP_0 z.1 z.2 ?_
      exact sp_opens (k := 6) hK hT (Or.inr (Or.inl rfl)) rfl hb.1 hR hG (fun _ M1 r1 g1 s1 => zb_Model_begins_127 _ (hg _ (hQ M1 r1 g1 (s1.trans hs)))) (fun y => absurd y (by omega))
  · exact fun {p fs ws e} hp hb hk h8 hQ M hR hG hs => by
      have z := zrt_s hR.rt hk (by omega)
      refine zsS1 hR.wr hs (fun G hg => ?_)
      refine zb_Model_beginsM_0 z.1 z.2 ?_
      exact sp_opens (k := 7) hK hT (Or.inr (Or.inr rfl)) rfl hb.1 hR hG (fun _ M1 r1 g1 s1 => zb_Model_begins_146 _ (hg _ (hQ M1 r1 g1 (s1.trans hs)))) (fun y => absurd y (by omega))
  · exact fun {p fs ws e} hp hb hk h8 hB M hR hG hs => by
      refine zsS1 hR.wr hs (fun G hg => ?_)
      rcases hk with hk | hk
      · have z := zrt_s hR.rt hk (by omega)
        refine zb_Model_beginsM_0 z.1 z.2 ?_
        exact sp_opens (k := 7) hK hT (Or.inr (Or.inr rfl)) rfl hb.1 hR hG (fun y => absurd y (by omega)) (fun _ => zb_Model_begins_146 _ (hg _ (zbad hB hG rfl)))
      · have z := zrt_s hR.rt hk (by omega)
        refine zb_Model_beginsP_0 z.1 z.2 ?_
        exact sp_opens (k := 6) hK hT (Or.inr (Or.inl rfl)) rfl hb.1 hR hG (fun y => absurd y (by omega)) (fun _ => zb_Model_begins_127 _ (hg _ (zbad hB hG rfl)))
  · exact fun {p fs ws e} hp hb k1 k2 k3 k4 hB M hR hG hs => by
      refine zsS1 hR.wr hs (fun G hg => ?_)
      have kx := hg _ (zbad (v := 1) hB hG rfl)
      have q3 := hR.q3
      have w4 := hR.w4
      have e3 := hb.2.2
      rcases zrt_c hR.rt with ⟨_, y⟩ | ⟨_, y⟩ | ⟨y, _⟩ | ⟨y1, y2, y3, y4⟩ | ⟨y, _⟩
      · exact zb_Model_beginsE0_0 y rfl hR.rt.1 hR.wr kx
      · exact zb_Model_beginsE4_0 y rfl hR.rt.1 hR.wr kx
      · exact absurd y k1
      · have wl : ztW (ztk T len p) ≤ 6 := by unfold ztW; split; omega; split <;> omega
        exact zb_Model_beginsE1_0 (w := w) (no := q + e.length) hK y3 y4 wl hR.ki hR.w4 (by rcases (by omega : w = 0 ∨ w = 1 ∨ w = 2 ∨ w = 3) with r | r | r | r <;> (rw [r]; decide)) hR.rt.1 hR.wr hR.no (by omega) (fun _ => kx) (fun z => absurd z (by omega)) (fun z => absurd z (by omega))
      · exact zb_Model_beginsE3_0 y rfl hR.rt.1 hR.wr (fun c0 c1 => kx) (fun c0 c1 => absurd c1 (zsgn (c := 45) (kd := 24) hT hp hR.rt y (k3) (Or.inr (Or.inl ⟨rfl, rfl⟩)))) (fun c0 => absurd c0 (zsgn (c := 40) (kd := 27) hT hp hR.rt y (k4) (Or.inr (Or.inr (Or.inr (Or.inr (Or.inl ⟨rfl, rfl⟩)))))))
  · exact fun {p fs ws e} hp hb hn hQ M hR hG G b' hg => by
      have top := ztR_top hR
      have q3 := hR.q3
      have e3 := hb.2.2
      have f1 := hb.1
      have z1 : zton ((7, 0) :: fs) = zton fs + 1 := by show (if 7 = 3 ∨ 7 = 6 ∨ 7 = 7 then 1 else 0) + zton fs = _; rw [if_pos (Or.inr (Or.inr rfl))]; omega
      have r1 := ztR_e (x := (30, 0)) (n := q + e.length) (ztR_xf hR (Or.inr (Or.inr rfl)) rfl rfl) rfl rfl rfl
      have g1 : ztG q b0 M0 _ := ztG_e (o := 402) (v := 0) (y := nI (q + e.length + 1)) (ztG_71 (v := nI (zton ((7, 0) :: fs) - 1)) (ztG_71 (v := nI (((7, 0) :: fs).length - 1)) hG (show (10 ≤ 17 ∧ 17 ≤ 17) ∨ 17 = 20 ∨ 17 = 23 ∨ 17 = 27 by omega)) (show (10 ≤ 16 ∧ 16 ≤ 17) ∨ 16 = 20 ∨ 16 = 23 ∨ 16 = 27 by omega)) (show q + b0 ≤ q + e.length by have := hR.bl; omega)
      exact zb_Model_oneIsOverX_0 (nf := ((7, 0) :: fs).length) (ft := 7) (op := zton ((7, 0) :: fs)) (no := q + e.length) hK hR.nf ⟨by simp, by omega⟩ top (by omega) hR.op hR.o8 (fun _ => by omega) hR.no (by omega) (fun y => absurd rfl y) (fun _ => hQ _ r1 g1 G b' hg)
  · exact fun {p x fs ws e} hp hb hx hQ M hR hG G b' hg => by
      have top := ztR_top hR
      have q3 := hR.q3
      have e3 := hb.2.2
      have f1 := hb.1
      exact zb_Model_oneIsOverX_0 (nf := (x :: fs).length) (ft := x.1) (op := zton (x :: fs)) (no := q + e.length) hK hR.nf ⟨by simp, by omega⟩ top (hR.f7 x List.mem_cons_self) hR.op hR.o8 (fun y => absurd y hx) hR.no (by omega) (fun _ => hg _ (hQ _ (ztR_23 hR) (ztG_71 hG (by omega)) (by rw [zu_at, if_pos rfl]; rfl))) (fun y => absurd y hx)
  · exact fun {p fs ws e P} hp hb hn hk hP hw hQ M hR hG hs => by
      refine zsS2 hR.wr hs (fun G hg => ?_)
      obtain ⟨x, l, rfl⟩ : ∃ x l, fs = x :: l := by cases fs with
        | nil => exact absurd rfl hn
        | cons x l => exact ⟨x, l, rfl⟩
      have top := ztR_top hR
      have f7 := hR.f7 x List.mem_cons_self
      have q3 := hR.q3
      have f1 := hb.1
      have e3 := hb.2.2
      have w1 := hb.2.1
      have pl : P.length ≤ 24 := by rw [List.length_append] at w1; omega
      have nf2 : 1 ≤ (x :: l).length ∧ (x :: l).length ≤ 20 := ⟨by simp, by omega⟩
      have fin : ∀ k o, ztk T len p = k → (k = 23 ∨ k = 24 ∨ k = 25 ∨ k = 26) → o = zrop (k, 0) → zCall (d + 19) zm_Model_waitsFor [.ref 71, .int o] (X, (0, 0), zLay, K, B, M) (zGo (d + 19) 10 false 0 zc_Model_goesOn G 57 [.ref 71, .int (nI x.1), .null] [] (0, 0)) := by
        intro k o hk2 hkv ho
        rw [hk2] at hP hw hQ
        refine sp_waits (P := P) (k := k) hK hT (by omega) ho (by omega) hw hP (by omega) (by omega) hR hG (fun M1 r1 g1 => ?_)
        exact zb_Model_goesOn_57 x.1 (hg _ (hQ _ (ztR_23 r1) (ztG_71 g1 (by omega)) (by rw [zu_at, if_pos rfl]; rfl)))
      have kv : ztk T len p = 23 ∨ ztk T len p = 24 ∨ ztk T len p = 25 ∨ ztk T len p = 26 := by
        unfold ztlv at hk
        rcases hk with hk | hk <;> (split at hk <;> omega)
      rcases kv with hk | hk | hk | hk
      · have z := zrt_s hR.rt hk (by omega)
        exact zb_Model_goesOnO43_0 (nf := (x :: l).length) hK z.1 z.2 hR.nf nf2 top f7 (fin 23 43 hk (by omega) rfl)
      · have z := zrt_s hR.rt hk (by omega)
        exact zb_Model_goesOnO45_0 (nf := (x :: l).length) hK z.1 z.2 hR.nf nf2 top f7 (fin 24 45 hk (by omega) rfl)
      · have z := zrt_s hR.rt hk (by omega)
        exact zb_Model_goesOnO42_0 (nf := (x :: l).length) hK z.1 z.2 hR.nf nf2 top f7 (fin 25 42 hk (by omega) rfl)
      · have z := zrt_s hR.rt hk (by omega)
        exact zb_Model_goesOnO47_0 (nf := (x :: l).length) hK z.1 z.2 hR.nf nf2 top f7 (fin 26 47 hk (by omega) rfl)
  · exact fun {p fs ws e P} hp hb hn hk hP hw hQ M hR hG hs => by
      refine zsS2 hR.wr hs (fun G hg => ?_)
      have top := ztR_top hR
      have q3 := hR.q3
      have f1 := hb.1
      have e3 := hb.2.2
      have w1 := hb.2.1
      have pl : P.length ≤ 24 := by rw [List.length_append] at w1; omega
      have nf2 : 1 ≤ ((6, 0) :: fs).length ∧ ((6, 0) :: fs).length ≤ 20 := ⟨by simp, by omega⟩
      have z := zrt_s hR.rt hk (by omega)
      refine zb_Model_goesOnP_0 (nf := ((6, 0) :: fs).length) hK z.1 z.2 hR.nf nf2 top ?_
      refine sp_works (d := d + 1) (r := 3) (fs := (6, 0) :: fs) hK (by omega) (by omega) hw hP (by omega) (by omega) hR hG (fun M1 r1 g1 s1 => ?_)
      have z1 : zton ((6, 0) :: fs) = zton fs + 1 := by show (if 6 = 3 ∨ 6 = 6 ∨ 6 = 7 then 1 else 0) + zton fs = _; rw [if_pos (Or.inr (Or.inl rfl))]; omega
      refine zb_Model_goesOn_85 (nf := ((6, 0) :: fs).length) (op := zton ((6, 0) :: fs)) 6 r1.nf nf2 r1.op r1.o8 (by omega) ?_
      have r2 := ztR_xf r1 (Or.inr (Or.inl rfl)) rfl rfl
      have g2 : ztG q b0 M0 _ := ztG_71 (v := nI (zton ((6, 0) :: fs) - 1)) (ztG_71 (v := nI (((6, 0) :: fs).length - 1)) g1 (show (10 ≤ 17 ∧ 17 ≤ 17) ∨ 17 = 20 ∨ 17 = 23 ∨ 17 = 27 by omega)) (show (10 ≤ 16 ∧ 16 ≤ 17) ∨ 16 = 20 ∨ 16 = 23 ∨ 16 = 27 by omega)
      refine sp_next (d := d + 13) hK r2.tm r2.rt.2.1 (nx hp) (fun M2 m2 t2 => ?_)
      refine zb_Model_goesOn_109 6 ?_
      exact sp_1over hQ (ztR_n r2 m2 t2 (nx hp)) (ztG_f g2 m2) (fun M3 h3 => zb_Model_goesOn_113 6 (hg M3 h3))
  · exact fun {p fs ws e P} hp hb hk hP hw hQ M hR hG hs => by
      refine zsS2 hR.wr hs (fun G hg => ?_)
      have top := ztR_top hR
      have q3 := hR.q3
      have f1 := hb.1
      have e3 := hb.2.2
      have w1 := hb.2.1
      have pl : P.length ≤ 24 := by rw [List.length_append] at w1; omega
      have nf2 : 1 ≤ ((4, 0) :: fs).length ∧ ((4, 0) :: fs).length ≤ 20 := ⟨by simp, by omega⟩
      have kv : ztk T len p = 17 ∨ ztk T len p = 18 ∨ ztk T len p = 19 ∨ ztk T len p = 20 ∨ ztk T len p = 21 ∨ ztk T len p = 22 := by
        unfold ztlv at hk
        split at hk <;> omega
      have fin : zCall (d + 19) zm_Model_works [.ref 71, .int 3] (X, (0, 0), zLay, K, B, M) (zGo (d + 19) 10 false 0 zc_Model_goesOn G 144 [.ref 71, .int 4, .null] [] (0, 0)) := by
        refine sp_works (d := d + 1) (r := 3) (fs := (4, 0) :: fs) hK (by omega) (by omega) hw hP (by omega) (by omega) hR hG (fun M1 r1 g1 s1 => ?_)
        have zt : M1 71 13 = zrop (ztk T len p, 0) := by
          rw [s1 13 (by decide) (by decide)]
          rcases kv with y | y | y | y | y | y <;> (rw [(zrt_s hR.rt y (by omega)).2, y]; rfl)
        refine zb_Model_goesOn_144 (nf := ((4, 0) :: fs).length) hK 4 r1.nf nf2 zt ?_
        have r2 := ztR_lr (k := ztk T len p) (n := ((4, 0) :: fs).length) r1 rfl rfl rfl
        have g2 : ztG q b0 M0 _ := ztG_c (c := 78) (k := ((4, 0) :: fs).length - 1) (v := nI 5) (ztG_c (c := 79) (k := ((4, 0) :: fs).length) (v := zrop (ztk T len p, 0)) g1 (by omega)) (by omega)
        refine sp_next (d := d + 13) hK r2.tm r2.rt.2.1 (nx hp) (fun M2 m2 t2 => ?_)
        exact zb_Model_goesOn_173 4 (hg _ (hQ _ (ztR_23 (ztR_n r2 m2 t2 (nx hp))) (ztG_71 (ztG_f g2 m2) (by omega)) (by rw [zu_at, if_pos rfl]; rfl)))
      rcases kv with hk | hk | hk | hk | hk | hk
      · have z := zrt_s hR.rt hk (by omega)
        exact zb_Model_goesOnL60_0 (nf := ((4, 0) :: fs).length) hK z.1 z.2 hR.nf nf2 top fin
      · have z := zrt_s hR.rt hk (by omega)
        exact zb_Model_goesOnL300_0 (nf := ((4, 0) :: fs).length) hK z.1 z.2 hR.nf nf2 top fin
      · have z := zrt_s hR.rt hk (by omega)
        exact zb_Model_goesOnL62_0 (nf := ((4, 0) :: fs).length) hK z.1 z.2 hR.nf nf2 top fin
      · have z := zrt_s hR.rt hk (by omega)
        exact zb_Model_goesOnL301_0 (nf := ((4, 0) :: fs).length) hK z.1 z.2 hR.nf nf2 top fin
      · have z := zrt_s hR.rt hk (by omega)
        exact zb_Model_goesOnL61_0 (nf := ((4, 0) :: fs).length) hK z.1 z.2 hR.nf nf2 top fin
      · have z := zrt_s hR.rt hk (by omega)
        exact zb_Model_goesOnL35_0 (nf := ((4, 0) :: fs).length) hK z.1 z.2 hR.nf nf2 top fin
  · exact fun {p fs ws e P k} hp hb hn k1 k2 hkc hP hw hQ M hR hG hs => by
      refine zsS2 hR.wr hs (fun G hg => ?_)
      have top := ztR_top hR
      have q3 := hR.q3
      have f1 := hb.1
      have e3 := hb.2.2
      have w1 := hb.2.1
      have pl : P.length ≤ 24 := by rw [List.length_append] at w1; omega
      have nf2 : 1 ≤ ((5, k) :: fs).length ∧ ((5, k) :: fs).length ≤ 20 := ⟨by simp, by omega⟩
      have kx : zCall (d + 19) zm_Model_works [.ref 71, .int 3] (X, (0, 0), zLay, K, B, M) (zGo (d + 19) 10 false 0 zc_Model_goesOn G 191 [.ref 71, .int 5, .null] [] (0, 0)) := by
        refine sp_works (d := d + 1) (r := 3) (fs := (5, k) :: fs) hK (by omega) (by omega) hw hP (by omega) (by omega) hR hG (fun M1 r1 g1 s1 => ?_)
        refine zb_Model_goesOn_191 (nf := ((5, k) :: fs).length) (no := q + (e ++ zops P).length) hK 5 r1.nf nf2 (r1.fc.1 rfl) r1.no (by rw [List.length_append, zops_len]; omega) ?_
        have r2 := ztR_e (x := (k, 0)) (n := q + (e ++ zops P).length) (ztR_xr r1 rfl) rfl rfl (show (0 : Int32) = zrov (k, 0) by unfold ztlv at hkc; split at hkc <;> first | rfl | omega)
        have g2 : ztG q b0 M0 _ := ztG_e (o := zrop (k, 0)) (v := 0) (y := nI (q + (e ++ zops P).length + 1)) (ztG_71 (v := nI (((5, k) :: fs).length - 1)) g1 (show (10 ≤ 17 ∧ 17 ≤ 17) ∨ 17 = 20 ∨ 17 = 23 ∨ 17 = 27 by omega)) (show q + b0 ≤ q + (e ++ zops P).length by have := r1.bl; omega)
        exact sp_aover hQ r2 g2 (fun M3 h3 => zb_Model_goesOn_221 5 _ (hg M3 h3))
      rcases zrt_c hR.rt with ⟨_, y⟩ | ⟨_, y⟩ | ⟨_, y⟩ | ⟨_, _, y, _⟩ | ⟨y, _⟩
      · exact zb_Model_goesOnR0_0 (nf := ((5, k) :: fs).length) hK y rfl hR.nf nf2 top kx
      · exact zb_Model_goesOnR4_0 (nf := ((5, k) :: fs).length) hK y rfl hR.nf nf2 top kx
      · exact zb_Model_goesOnR2_0 (nf := ((5, k) :: fs).length) hK y rfl hR.nf nf2 top kx
      · exact zb_Model_goesOnR1_0 (nf := ((5, k) :: fs).length) hK y rfl hR.nf nf2 top kx
      · exact zb_Model_goesOnR3_0 (nf := ((5, k) :: fs).length) hK y rfl hR.nf nf2 top (fun c0 => absurd c0 (zsgn (c := 43) (kd := 23) hT hp hR.rt y (fun r => k1 (by rw [r]; rfl)) (Or.inl ⟨rfl, rfl⟩))) (fun c0 c1 => absurd c1 (zsgn (c := 45) (kd := 24) hT hp hR.rt y (fun r => k1 (by rw [r]; rfl)) (Or.inr (Or.inl ⟨rfl, rfl⟩)))) (fun c0 c1 c2 => absurd c2 (zsgn (c := 42) (kd := 25) hT hp hR.rt y (fun r => k2 (by rw [r]; rfl)) (Or.inr (Or.inr (Or.inl ⟨rfl, rfl⟩))))) (fun c0 c1 c2 c3 => kx) (fun c0 c1 c2 c3 => absurd c3 (zsgn (c := 47) (kd := 26) hT hp hR.rt y (fun r => k2 (by rw [r]; rfl)) (Or.inr (Or.inr (Or.inr (Or.inl ⟨rfl, rfl⟩))))))
  · exact fun {p e P} hp hb hk hP hO M hR hG hs => by
      refine zsS2 hR.wr hs (fun G hg => ?_)
      have top := ztR_top hR
      have q3 := hR.q3
      have z := zrt_s hR.rt hk (by omega)
      refine zb_Model_goesOnS_0 (nf := 1) hK z.1 z.2 hR.nf (by omega) top ?_
      exact sp_cover hK hT rfl hP (by have := hb.2.1; omega) (by have := hb.2.1; have := hb.2.2; omega) hR hG hO (fun M3 h3 => zb_Model_goesOn_242 1 (hg M3 h3))
  · exact fun {p x fs ws e} hp hb k1 k2 hx hB M hR hG hs => by
      refine zsS2 hR.wr hs (fun G hg => ?_)
      have top := ztR_top hR
      have f1 := hb.1
      have nf2 : 1 ≤ (x :: fs).length ∧ (x :: fs).length ≤ 20 := ⟨by simp, by omega⟩
      have kx := hg _ (zbad (v := 1) hB hG rfl)
      rcases hx with ⟨hx, h9⟩ | ⟨hx, h9⟩ | ⟨hx, h9⟩
      · rw [hx] at top
        rcases zrt_c hR.rt with ⟨_, y⟩ | ⟨_, y⟩ | ⟨_, y⟩ | ⟨_, _, y, _⟩ | ⟨y, _⟩
        · exact zb_Model_goesOnE60_0 (nf := (x :: fs).length) hK y rfl hR.nf nf2 top hR.rt.1 hR.wr kx
        · exact zb_Model_goesOnE64_0 (nf := (x :: fs).length) hK y rfl hR.nf nf2 top hR.rt.1 hR.wr kx
        · exact zb_Model_goesOnE62_0 (nf := (x :: fs).length) hK y rfl hR.nf nf2 top hR.rt.1 hR.wr kx
        · exact zb_Model_goesOnE61_0 (nf := (x :: fs).length) hK y rfl hR.nf nf2 top hR.rt.1 hR.wr kx
        · exact zb_Model_goesOnE63_0 (nf := (x :: fs).length) hK y rfl hR.nf nf2 top hR.rt.1 hR.wr (fun c0 => absurd c0 (zsgn (c := 43) (kd := 23) hT hp hR.rt y (fun r => k1 (by rw [r]; rfl)) (Or.inl ⟨rfl, rfl⟩))) (fun c0 c1 => absurd c1 (zsgn (c := 45) (kd := 24) hT hp hR.rt y (fun r => k1 (by rw [r]; rfl)) (Or.inr (Or.inl ⟨rfl, rfl⟩)))) (fun c0 c1 c2 => absurd c2 (zsgn (c := 42) (kd := 25) hT hp hR.rt y (fun r => k2 (by rw [r]; rfl)) (Or.inr (Or.inr (Or.inl ⟨rfl, rfl⟩))))) (fun c0 c1 c2 c3 c4 => kx) (fun c0 c1 c2 c3 c4 => absurd c4 (zsgn (c := 41) (kd := 28) hT hp hR.rt y (h9) (Or.inr (Or.inr (Or.inr (Or.inr (Or.inr (Or.inl ⟨rfl, rfl⟩)))))))) (fun c0 c1 c2 c3 => absurd c3 (zsgn (c := 47) (kd := 26) hT hp hR.rt y (fun r => k2 (by rw [r]; rfl)) (Or.inr (Or.inr (Or.inr (Or.inl ⟨rfl, rfl⟩))))))
      · rw [hx] at top
        rcases zrt_c hR.rt with ⟨_, y⟩ | ⟨_, y⟩ | ⟨_, y⟩ | ⟨_, _, y, _⟩ | ⟨y, _⟩
        · exact zb_Model_goesOnE40_0 (nf := (x :: fs).length) hK y rfl hR.nf nf2 top hR.rt.1 hR.wr kx
        · exact zb_Model_goesOnE44_0 (nf := (x :: fs).length) hK y rfl hR.nf nf2 top hR.rt.1 hR.wr kx
        · exact zb_Model_goesOnE42_0 (nf := (x :: fs).length) hK y rfl hR.nf nf2 top hR.rt.1 hR.wr kx
        · exact zb_Model_goesOnE41_0 (nf := (x :: fs).length) hK y rfl hR.nf nf2 top hR.rt.1 hR.wr kx
        · exact zb_Model_goesOnE43_0 (nf := (x :: fs).length) hK y rfl hR.nf nf2 top hR.rt.1 hR.wr (fun c0 => absurd c0 (zsgn (c := 43) (kd := 23) hT hp hR.rt y (fun r => k1 (by rw [r]; rfl)) (Or.inl ⟨rfl, rfl⟩))) (fun c0 c1 => absurd c1 (zsgn (c := 45) (kd := 24) hT hp hR.rt y (fun r => k1 (by rw [r]; rfl)) (Or.inr (Or.inl ⟨rfl, rfl⟩)))) (fun c0 c1 c2 => absurd c2 (zsgn (c := 42) (kd := 25) hT hp hR.rt y (fun r => k2 (by rw [r]; rfl)) (Or.inr (Or.inr (Or.inl ⟨rfl, rfl⟩))))) (fun c0 c1 c2 c3 c4 => absurd c4 (zsgn (c := 60) (kd := 17) hT hp hR.rt y (fun r => h9 (by rw [r]; rfl)) (Or.inr (Or.inr (Or.inr (Or.inr (Or.inr (Or.inr (Or.inr (Or.inl ⟨rfl, rfl⟩)))))))))) (fun c0 c1 c2 c3 c4 c5 => absurd c5 (zsgn (c := 62) (kd := 19) hT hp hR.rt y (fun r => h9 (by rw [r]; rfl)) (Or.inr (Or.inr (Or.inr (Or.inr (Or.inr (Or.inr (Or.inr (Or.inr (Or.inr (Or.inl ⟨rfl, rfl⟩)))))))))))) (fun c0 c1 c2 c3 c4 c5 c6 => absurd c6 (zsgn (c := 61) (kd := 21) hT hp hR.rt y (fun r => h9 (by rw [r]; rfl)) (Or.inr (Or.inr (Or.inr (Or.inr (Or.inr (Or.inr (Or.inr (Or.inr (Or.inr (Or.inr (Or.inr (Or.inl ⟨rfl, rfl⟩)))))))))))))) (fun c0 c1 c2 c3 c4 c5 c6 c7 => absurd c7 (zsgn (c := 35) (kd := 22) hT hp hR.rt y (fun r => h9 (by rw [r]; rfl)) (Or.inr (Or.inr (Or.inr (Or.inr (Or.inr (Or.inr (Or.inr (Or.inr (Or.inr (Or.inr (Or.inr (Or.inr ⟨rfl, rfl⟩)))))))))))))) (fun c0 c1 c2 c3 c4 c5 c6 c7 c8 => absurd c8 (zsgn (c := 300) (kd := 18) hT hp hR.rt y (fun r => h9 (by rw [r]; rfl)) (Or.inr (Or.inr (Or.inr (Or.inr (Or.inr (Or.inr (Or.inr (Or.inr (Or.inl ⟨rfl, rfl⟩))))))))))) (fun c0 c1 c2 c3 c4 c5 c6 c7 c8 c9 => kx) (fun c0 c1 c2 c3 c4 c5 c6 c7 c8 c9 => absurd c9 (zsgn (c := 301) (kd := 20) hT hp hR.rt y (fun r => h9 (by rw [r]; rfl)) (Or.inr (Or.inr (Or.inr (Or.inr (Or.inr (Or.inr (Or.inr (Or.inr (Or.inr (Or.inr (Or.inl ⟨rfl, rfl⟩))))))))))))) (fun c0 c1 c2 c3 => absurd c3 (zsgn (c := 47) (kd := 26) hT hp hR.rt y (fun r => k2 (by rw [r]; rfl)) (Or.inr (Or.inr (Or.inr (Or.inl ⟨rfl, rfl⟩))))))
      · rw [hx] at top
        rcases zrt_c hR.rt with ⟨_, y⟩ | ⟨_, y⟩ | ⟨_, y⟩ | ⟨_, _, y, _⟩ | ⟨y, _⟩
        · exact zb_Model_goesOnE10_0 (nf := (x :: fs).length) hK y rfl hR.nf nf2 top hR.rt.1 hR.wr kx
        · exact zb_Model_goesOnE14_0 (nf := (x :: fs).length) hK y rfl hR.nf nf2 top hR.rt.1 hR.wr kx
        · exact zb_Model_goesOnE12_0 (nf := (x :: fs).length) hK y rfl hR.nf nf2 top hR.rt.1 hR.wr kx
        · exact zb_Model_goesOnE11_0 (nf := (x :: fs).length) hK y rfl hR.nf nf2 top hR.rt.1 hR.wr kx
        · exact zb_Model_goesOnE13_0 (nf := (x :: fs).length) hK y rfl hR.nf nf2 top hR.rt.1 hR.wr (fun c0 => absurd c0 (zsgn (c := 43) (kd := 23) hT hp hR.rt y (fun r => k1 (by rw [r]; rfl)) (Or.inl ⟨rfl, rfl⟩))) (fun c0 c1 => absurd c1 (zsgn (c := 45) (kd := 24) hT hp hR.rt y (fun r => k1 (by rw [r]; rfl)) (Or.inr (Or.inl ⟨rfl, rfl⟩)))) (fun c0 c1 c2 => absurd c2 (zsgn (c := 42) (kd := 25) hT hp hR.rt y (fun r => k2 (by rw [r]; rfl)) (Or.inr (Or.inr (Or.inl ⟨rfl, rfl⟩))))) (fun c0 c1 c2 c3 c4 => kx) (fun c0 c1 c2 c3 c4 => absurd c4 (zsgn (c := 59) (kd := 29) hT hp hR.rt y (h9) (Or.inr (Or.inr (Or.inr (Or.inr (Or.inr (Or.inr (Or.inl ⟨rfl, rfl⟩))))))))) (fun c0 c1 c2 c3 => absurd c3 (zsgn (c := 47) (kd := 26) hT hp hR.rt y (fun r => k2 (by rw [r]; rfl)) (Or.inr (Or.inr (Or.inr (Or.inl ⟨rfl, rfl⟩))))))
  · exact fun {p fs ws e} hp hb hn hQ M hR hG G b' hg => by
      have top := ztR_top hR
      have q3 := hR.q3
      have e3 := hb.2.2
      have f1 := hb.1
      have z1 : zton ((3, 0) :: fs) = zton fs + 1 := by show (if 3 = 3 ∨ 3 = 6 ∨ 3 = 7 then 1 else 0) + zton fs = _; rw [if_pos (Or.inl rfl)]; omega
      have r1 := ztR_e (x := (16, 0)) (n := q + e.length) (ztR_xf hR (Or.inl rfl) rfl rfl) rfl rfl rfl
      have g1 : ztG q b0 M0 _ := ztG_e (o := 405) (v := 0) (y := nI (q + e.length + 1)) (ztG_71 (v := nI (zton ((3, 0) :: fs) - 1)) (ztG_71 (v := nI (((3, 0) :: fs).length - 1)) hG (show (10 ≤ 17 ∧ 17 ≤ 17) ∨ 17 = 20 ∨ 17 = 23 ∨ 17 = 27 by omega)) (show (10 ≤ 16 ∧ 16 ≤ 17) ∨ 16 = 20 ∨ 16 = 23 ∨ 16 = 27 by omega)) (show q + b0 ≤ q + e.length by have := hR.bl; omega)
      exact zb_Model_askIsOverX_0 (nf := ((3, 0) :: fs).length) (ft := 3) (op := zton ((3, 0) :: fs)) (no := q + e.length) hK hR.nf ⟨by simp, by omega⟩ top (by omega) hR.op hR.o8 (fun _ => by omega) hR.no (by omega) (fun y => absurd rfl y) (fun _ => hQ _ r1 g1 G b' hg)
  · exact fun {p x fs ws e} hp hb hx hQ M hR hG G b' hg => by
      have top := ztR_top hR
      have q3 := hR.q3
      have e3 := hb.2.2
      have f1 := hb.1
      exact zb_Model_askIsOverX_0 (nf := (x :: fs).length) (ft := x.1) (op := zton (x :: fs)) (no := q + e.length) hK hR.nf ⟨by simp, by omega⟩ top (hR.f7 x List.mem_cons_self) hR.op hR.o8 (fun y => absurd y hx) hR.no (by omega) (fun _ => hg _ (hQ _ (ztR_23 hR) (ztG_71 hG (by omega)) (by rw [zu_at, if_pos rfl]; rfl))) (fun y => absurd y hx)
  · exact fun {p fs ws e P} hp hb hk hP hw hQ M hR hG hs => by
      refine zsS3 hR.wr hs (fun G hg => ?_)
      have q3 := hR.q3
      have f1 := hb.1
      have e3 := hb.2.2
      have w1 := hb.2.1
      have pl : P.length ≤ 24 := by rw [List.length_append] at w1; omega
      have fin : ∀ k o, ztk T len p = k → (k = 14 ∨ k = 15) → o = zrop (k, 0) → zCall (d + 19) zm_Model_waitsFor [.ref 71, .int o] (X, (0, 0), zLay, K, B, M) (zGo (d + 19) 10 false 0 zc_Model_asksOn G 37 [.ref 71] [] (0, 0)) := by
        intro k o hk2 hkv ho
        rw [hk2] at hP hw hQ
        refine sp_waits (P := P) (k := k) hK hT (by omega) ho (by omega) hw hP (by omega) (by omega) hR hG (fun M1 r1 g1 => ?_)
        exact zb_Model_asksOn_37 (hg _ (hQ _ (ztR_23 r1) (ztG_71 g1 (by omega)) (by rw [zu_at, if_pos rfl]; rfl)))
      have kv : ztk T len p = 14 ∨ ztk T len p = 15 := by
        unfold ztlv at hk
        rcases hk with hk | hk <;> (split at hk <;> omega)
      rcases kv with hk | hk
      · have z := zrt_w hR.rt hk (by omega)
        exact zb_Model_asksOnO4_0 z.1 z.2 (fin 14 407 hk (by omega) rfl)
      · have z := zrt_w hR.rt hk (by omega)
        exact zb_Model_asksOnO5_0 z.1 z.2 (fin 15 406 hk (by omega) rfl)
  · exact fun {p e P} hp hb hk hP hO M hR hG hs => by
      refine zsS3 hR.wr hs (fun G hg => ?_)
      have top := ztR_top hR
      have q3 := hR.q3
      have z := zrt_s hR.rt hk (by omega)
      refine zb_Model_asksOnS_0 (nf := 1) hK z.1 z.2 hR.nf (by omega) top ?_
      exact sp_cover hK hT rfl hP (by have := hb.2.1; omega) (by have := hb.2.1; have := hb.2.2; omega) hR hG hO (fun M3 h3 => zb_Model_asksOn_66 (hg M3 h3))
  · exact fun {p x fs ws e} hp hb k1 k2 hx hB M hR hG hs => by
      refine zsS3 hR.wr hs (fun G hg => ?_)
      have top := ztR_top hR
      have f1 := hb.1
      have nf2 : 1 ≤ (x :: fs).length ∧ (x :: fs).length ≤ 20 := ⟨by simp, by omega⟩
      have kx := hg _ (zbad (v := 1) hB hG rfl)
      rw [hx.1] at top
      have n14 : ztk T len p ≠ 14 := fun y => k1 (by rw [y]; rfl)
      have n15 : ztk T len p ≠ 15 := fun y => k2 (by rw [y]; rfl)
      rcases zrt_c hR.rt with ⟨_, y⟩ | ⟨_, y⟩ | ⟨_, y⟩ | ⟨_, _, y, _⟩ | ⟨y, _⟩
      · exact zb_Model_asksOnE0_0 (nf := (x :: fs).length) hK y rfl hR.nf nf2 top hR.rt.1 hR.wr kx
      · exact zb_Model_asksOnE4_0 (nf := (x :: fs).length) hK y rfl hR.nf nf2 top hR.rt.1 hR.wr kx
      · exact zb_Model_asksOnE2_0 (nf := (x :: fs).length) hK y rfl hR.nf nf2 top hR.rt.1 hR.wr kx
      · exact zb_Model_asksOnE1_0 (nf := (x :: fs).length) hK y rfl hR.nf nf2 top hR.rt.1 hR.wr (fun c0 c1 => kx) (fun c0 c1 c2 => absurd c1 (zwrd (j := 5) (kd := 15) hR.rt y n15 (Or.inr (Or.inl ⟨rfl, rfl⟩)))) (fun c0 c1 c2 => absurd c1 (zwrd (j := 5) (kd := 15) hR.rt y n15 (Or.inr (Or.inl ⟨rfl, rfl⟩)))) (fun c0 c1 => absurd c0 (zwrd (j := 4) (kd := 14) hR.rt y n14 (Or.inl ⟨rfl, rfl⟩))) (fun c0 c1 => absurd c0 (zwrd (j := 4) (kd := 14) hR.rt y n14 (Or.inl ⟨rfl, rfl⟩)))
      · exact zb_Model_asksOnE3_0 (nf := (x :: fs).length) hK y rfl hR.nf nf2 top hR.rt.1 hR.wr (fun c0 => kx) (fun c0 => absurd c0 (zsgn (c := 59) (kd := 29) hT hp hR.rt y (hx.2) (Or.inr (Or.inr (Or.inr (Or.inr (Or.inr (Or.inr (Or.inl ⟨rfl, rfl⟩)))))))))
end MST
