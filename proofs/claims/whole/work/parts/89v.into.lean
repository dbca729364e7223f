/-! ===== text: the class ===== -/
abbrev zO3 : Type := (List (Nat × Nat) × Nat × (Nat → Option (Nat × Nat × Nat))) ⊕ (Nat × Nat)
abbrev zO3.ok (c : List (Nat × Nat)) (k : Nat) (I : Nat → Option (Nat × Nat × Nat)) : zO3 := Sum.inl (c, k, I)
abbrev zO3.bad (f a : Nat) : zO3 := Sum.inr (f, a)
theorem zO3.cs {motive : zO3 → Prop} (bad : ∀ f a, motive (zO3.bad f a)) (ok : ∀ c k I, motive (zO3.ok c k I)) (o : zO3) : motive o := by
  rcases o with ⟨c, k, I⟩ | ⟨f, a⟩
  · exact ok c k I
  · exact bad f a
def ztL (w : Nat) : Nat := if zask w = true then 0 else 3
def ztup (I : Nat → Option (Nat × Nat × Nat)) (w : Nat) (v : Nat × Nat × Nat) : Nat → Option (Nat × Nat × Nat) := fun x => if x = w then some v else I x
def ztD (T : Nat → Nat) (len : Nat) (i0 : Nat) (i1 : List (Nat × Nat)) (i2 : Nat) (i3 : Nat → Option (Nat × Nat × Nat)) (i4 : zO3) : Prop := ∀ P : Nat → List (Nat × Nat) → Nat → (Nat → Option (Nat × Nat × Nat)) → zO3 → Prop, (∀ {p : Nat} {c : List (Nat × Nat)} {k : Nat} {I : Nat → Option (Nat × Nat × Nat)}, ztk T len p = 0 → P p c k I (.ok c k I)) → (∀ {p : Nat} {c : List (Nat × Nat)} {k : Nat} {I : Nat → Option (Nat × Nat × Nat)}, ztk T len p ≠ 0 → ¬ (3 ≤ ztk T len p ∧ ztk T len p ≤ 6) → P p c k I (.bad 1 (ztst T len p))) → (∀ {p : Nat} {c : List (Nat × Nat)} {k : Nat} {I : Nat → Option (Nat × Nat × Nat)} {w : Nat}, w < 4 → ztk T len p = 3 + w → I w ≠ none → P p c k I (.bad 4 (ztst T len p))) → (∀ {p : Nat} {c : List (Nat × Nat)} {k : Nat} {I : Nat → Option (Nat × Nat × Nat)} {w : Nat} {f : Nat} {a : Nat}, w < 4 → ztk T len p = 3 + w → I w = none → zDt T len w (ztL w) 0 (ztnx T len p) c (.bad f a) → P p c k I (.bad f a)) → (∀ {p : Nat} {c : List (Nat × Nat)} {k : Nat} {I : Nat → Option (Nat × Nat × Nat)} {w : Nat} {p1 : Nat} {c1 : List (Nat × Nat)}, w < 4 → ztk T len p = 3 + w → I w = none → zDt T len w (ztL w) 0 (ztnx T len p) c (.ok p1 c1) → ztk T len p1 ≠ 29 → P p c k I (.bad 1 (ztst T len p1))) → (∀ {p : Nat} {c : List (Nat × Nat)} {k : Nat} {I : Nat → Option (Nat × Nat × Nat)} {w : Nat} {p1 : Nat} {c1 : List (Nat × Nat)} {o : zO3}, w < 4 → ztk T len p = 3 + w → I w = none → zDt T len w (ztL w) 0 (ztnx T len p) c (.ok p1 c1) → ztk T len p1 = 29 → P (ztnx T len p1) c1 (k + 1) (ztup I w (c.length, c1.length - c.length, k)) o → P p c k I o) → P i0 i1 i2 i3 i4
theorem ztD.fin {T : Nat → Nat} {len : Nat} {p : Nat} {c : List (Nat × Nat)} {k : Nat} {I : Nat → Option (Nat × Nat × Nat)} (h0 : ztk T len p = 0) : ztD T len p c k I (.ok c k I) := fun P r_fin r_noc r_was r_cb r_cs r_go => r_fin h0
theorem ztD.noc {T : Nat → Nat} {len : Nat} {p : Nat} {c : List (Nat × Nat)} {k : Nat} {I : Nat → Option (Nat × Nat × Nat)} (h0 : ztk T len p ≠ 0) (h1 : ¬ (3 ≤ ztk T len p ∧ ztk T len p ≤ 6)) : ztD T len p c k I (.bad 1 (ztst T len p)) := fun P r_fin r_noc r_was r_cb r_cs r_go => r_noc h0 h1
theorem ztD.was {T : Nat → Nat} {len : Nat} {p : Nat} {c : List (Nat × Nat)} {k : Nat} {I : Nat → Option (Nat × Nat × Nat)} {w : Nat} (h0 : w < 4) (h1 : ztk T len p = 3 + w) (h2 : I w ≠ none) : ztD T len p c k I (.bad 4 (ztst T len p)) := fun P r_fin r_noc r_was r_cb r_cs r_go => r_was h0 h1 h2
theorem ztD.cb {T : Nat → Nat} {len : Nat} {p : Nat} {c : List (Nat × Nat)} {k : Nat} {I : Nat → Option (Nat × Nat × Nat)} {w : Nat} {f : Nat} {a : Nat} (h0 : w < 4) (h1 : ztk T len p = 3 + w) (h2 : I w = none) (h3 : zDt T len w (ztL w) 0 (ztnx T len p) c (.bad f a)) : ztD T len p c k I (.bad f a) := fun P r_fin r_noc r_was r_cb r_cs r_go => r_cb h0 h1 h2 h3
theorem ztD.cs {T : Nat → Nat} {len : Nat} {p : Nat} {c : List (Nat × Nat)} {k : Nat} {I : Nat → Option (Nat × Nat × Nat)} {w : Nat} {p1 : Nat} {c1 : List (Nat × Nat)} (h0 : w < 4) (h1 : ztk T len p = 3 + w) (h2 : I w = none) (h3 : zDt T len w (ztL w) 0 (ztnx T len p) c (.ok p1 c1)) (h4 : ztk T len p1 ≠ 29) : ztD T len p c k I (.bad 1 (ztst T len p1)) := fun P r_fin r_noc r_was r_cb r_cs r_go => r_cs h0 h1 h2 h3 h4
theorem ztD.go {T : Nat → Nat} {len : Nat} {p : Nat} {c : List (Nat × Nat)} {k : Nat} {I : Nat → Option (Nat × Nat × Nat)} {w : Nat} {p1 : Nat} {c1 : List (Nat × Nat)} {o : zO3} (h0 : w < 4) (h1 : ztk T len p = 3 + w) (h2 : I w = none) (h3 : zDt T len w (ztL w) 0 (ztnx T len p) c (.ok p1 c1)) (h4 : ztk T len p1 = 29) (h5 : ztD T len (ztnx T len p1) c1 (k + 1) (ztup I w (c.length, c1.length - c.length, k)) o) : ztD T len p c k I o := fun P r_fin r_noc r_was r_cb r_cs r_go => r_go h0 h1 h2 h3 h4 (h5 P r_fin r_noc r_was r_cb r_cs r_go)
theorem ztD.ind {T : Nat → Nat} {len : Nat} {motive : ∀ (i0 : Nat) (i1 : List (Nat × Nat)) (i2 : Nat) (i3 : Nat → Option (Nat × Nat × Nat)) (i4 : zO3), ztD T len i0 i1 i2 i3 i4 → Prop} (fin : ∀ {p : Nat} {c : List (Nat × Nat)} {k : Nat} {I : Nat → Option (Nat × Nat × Nat)} (h0 : ztk T len p = 0), motive p c k I (.ok c k I) (ztD.fin h0)) (noc : ∀ {p : Nat} {c : List (Nat × Nat)} {k : Nat} {I : Nat → Option (Nat × Nat × Nat)} (h0 : ztk T len p ≠ 0) (h1 : ¬ (3 ≤ ztk T len p ∧ ztk T len p ≤ 6)), motive p c k I (.bad 1 (ztst T len p)) (ztD.noc h0 h1)) (was : ∀ {p : Nat} {c : List (Nat × Nat)} {k : Nat} {I : Nat → Option (Nat × Nat × Nat)} {w : Nat} (h0 : w < 4) (h1 : ztk T len p = 3 + w) (h2 : I w ≠ none), motive p c k I (.bad 4 (ztst T len p)) (ztD.was h0 h1 h2)) (cb : ∀ {p : Nat} {c : List (Nat × Nat)} {k : Nat} {I : Nat → Option (Nat × Nat × Nat)} {w : Nat} {f : Nat} {a : Nat} (h0 : w < 4) (h1 : ztk T len p = 3 + w) (h2 : I w = none) (h3 : zDt T len w (ztL w) 0 (ztnx T len p) c (.bad f a)), motive p c k I (.bad f a) (ztD.cb h0 h1 h2 h3)) (cs : ∀ {p : Nat} {c : List (Nat × Nat)} {k : Nat} {I : Nat → Option (Nat × Nat × Nat)} {w : Nat} {p1 : Nat} {c1 : List (Nat × Nat)} (h0 : w < 4) (h1 : ztk T len p = 3 + w) (h2 : I w = none) (h3 : zDt T len w (ztL w) 0 (ztnx T len p) c (.ok p1 c1)) (h4 : ztk T len p1 ≠ 29), motive p c k I (.bad 1 (ztst T len p1)) (ztD.cs h0 h1 h2 h3 h4)) (go : ∀ {p : Nat} {c : List (Nat × Nat)} {k : Nat} {I : Nat → Option (Nat × Nat × Nat)} {w : Nat} {p1 : Nat} {c1 : List (Nat × Nat)} {o : zO3} (h0 : w < 4) (h1 : ztk T len p = 3 + w) (h2 : I w = none) (h3 : zDt T len w (ztL w) 0 (ztnx T len p) c (.ok p1 c1)) (h4 : ztk T len p1 = 29) (h5 : ztD T len (ztnx T len p1) c1 (k + 1) (ztup I w (c.length, c1.length - c.length, k)) o), motive (ztnx T len p1) c1 (k + 1) (ztup I w (c.length, c1.length - c.length, k)) o h5 → motive p c k I o (ztD.go h0 h1 h2 h3 h4 h5)) {i0 : Nat} {i1 : List (Nat × Nat)} {i2 : Nat} {i3 : Nat → Option (Nat × Nat × Nat)} {i4 : zO3} (D : ztD T len i0 i1 i2 i3 i4) : motive i0 i1 i2 i3 i4 D := by
  obtain ⟨D2, g⟩ := D (fun i0 i1 i2 i3 i4 => ∃ D : ztD T len i0 i1 i2 i3 i4, motive i0 i1 i2 i3 i4 D)
    (by
      intro _ _ _ _ g0
      exact ⟨_, fin g0 ⟩)
    (by
      intro _ _ _ _ g0 g1
      exact ⟨_, noc g0 g1 ⟩)
    (by
      intro _ _ _ _ _ g0 g1 g2
      exact ⟨_, was g0 g1 g2 ⟩)
    (by
      intro _ _ _ _ _ _ _ g0 g1 g2 g3
      exact ⟨_, cb g0 g1 g2 g3 ⟩)
    (by
      intro _ _ _ _ _ _ _ g0 g1 g2 g3 g4
      exact ⟨_, cs g0 g1 g2 g3 g4 ⟩)
    (by
      intro _ _ _ _ _ _ _ _ g0 g1 g2 g3 g4 g5
      obtain ⟨d5, m5⟩ := g5
      exact ⟨_, go g0 g1 g2 g3 g4 d5 m5⟩)
  exact g
def z1 (x : Option (Nat × Nat × Nat)) : Nat := if x = none then 0 else 1
def zcnt (I : Nat → Option (Nat × Nat × Nat)) : Nat := z1 (I 0) + z1 (I 1) + z1 (I 2) + z1 (I 3)
theorem z1_le (x : Option (Nat × Nat × Nat)) : z1 x ≤ 1 := by unfold z1; split <;> omega
theorem zcnt_up {I : Nat → Option (Nat × Nat × Nat)} {w : Nat} {v : Nat × Nat × Nat} (hw : w < 4) (h : I w = none) : zcnt (ztup I w v) = zcnt I + 1 ∧ zcnt I ≤ 3 := by
  have z : w = 0 ∨ w = 1 ∨ w = 2 ∨ w = 3 := by omega
  have a0 := z1_le (I 0)
  have a1 := z1_le (I 1)
  have a2 := z1_le (I 2)
  have a3 := z1_le (I 3)
  have s1 : z1 (some v) = 1 := rfl
  have s0 : z1 none = 0 := rfl
  rcases z with rfl | rfl | rfl | rfl
  · show z1 (some v) + z1 (I 1) + z1 (I 2) + z1 (I 3) = z1 (I 0) + z1 (I 1) + z1 (I 2) + z1 (I 3) + 1 ∧ z1 (I 0) + z1 (I 1) + z1 (I 2) + z1 (I 3) ≤ 3
    rw [h]; omega
  · show z1 (I 0) + z1 (some v) + z1 (I 2) + z1 (I 3) = z1 (I 0) + z1 (I 1) + z1 (I 2) + z1 (I 3) + 1 ∧ z1 (I 0) + z1 (I 1) + z1 (I 2) + z1 (I 3) ≤ 3
    rw [h]; omega
  · show z1 (I 0) + z1 (I 1) + z1 (some v) + z1 (I 3) = z1 (I 0) + z1 (I 1) + z1 (I 2) + z1 (I 3) + 1 ∧ z1 (I 0) + z1 (I 1) + z1 (I 2) + z1 (I 3) ≤ 3
    rw [h]; omega
  · show z1 (I 0) + z1 (I 1) + z1 (I 2) + z1 (some v) = z1 (I 0) + z1 (I 1) + z1 (I 2) + z1 (I 3) + 1 ∧ z1 (I 0) + z1 (I 1) + z1 (I 2) + z1 (I 3) ≤ 3
    rw [h]; omega
/-- what is known of the clauses read -/
def zIok (I : Nat → Option (Nat × Nat × Nat)) (c : List (Nat × Nat)) (k : Nat) : Prop := ∀ w, w < 4 → ∀ b n q, I w = some (b, n, q) → b + n ≤ c.length ∧ q < k ∧ zty (zmsk w) ((c.drop b).take n) [] = some [zask w]
theorem zIok_app {I : Nat → Option (Nat × Nat × Nat)} {c e : List (Nat × Nat)} {k : Nat} (h : zIok I c k) : zIok I (c ++ e) (k + 1) := by
  intro w hw b n q hq
  obtain ⟨h1, h2, h3⟩ := h w hw b n q hq
  refine ⟨by rw [List.length_append]; omega, by omega, ?_⟩
  rw [List.drop_append_of_le_length (by omega), List.take_append_of_le_length (by rw [List.length_drop]; omega)]
  exact h3
theorem zIok_up {T : Nat → Nat} {len : Nat} {I : Nat → Option (Nat × Nat × Nat)} {c c1 : List (Nat × Nat)} {k w p p1 : Nat} (h : zIok I c k) (hw : w < 4) (D : zDt T len w (ztL w) 0 p c (.ok p1 c1)) : zIok (ztup I w (c.length, c1.length - c.length, k)) c1 (k + 1) := by
  obtain ⟨e, he, ht, -⟩ := zDv_ty D p1 c1 rfl (by omega)
  intro x hx b n q hq
  unfold ztup at hq
  by_cases y : x = w
  · rw [if_pos y] at hq
    cases hq
    subst y
    rw [he]
    refine ⟨by rw [List.length_append]; omega, by omega, ?_⟩
    rw [List.drop_append_of_le_length (Nat.le_refl _), List.drop_length, List.nil_append, List.length_append, Nat.add_sub_cancel_left, List.take_length]
    have z : x = 0 ∨ x = 1 ∨ x = 2 ∨ x = 3 := by omega
    rcases z with rfl | rfl | rfl | rfl
    · exact ht (by decide) [] (by decide)
    · exact ht (by decide) [] (by decide)
    · exact ht (by decide) [] (by decide)
    · exact ht (by decide) [] (by decide)
  · rw [if_neg y] at hq
    rw [he]
    exact zIok_app h x hx b n q hq
theorem ztD_ok {T : Nat → Nat} {len p k : Nat} {c : List (Nat × Nat)} {I : Nat → Option (Nat × Nat × Nat)} {o : zO3} (D : ztD T len p c k I o) : ∀ c2 k2 I2, o = .ok c2 k2 I2 → zIok I c k → zIok I2 c2 k2 := by
  induction D using ztD.ind with
  | fin => intro c2 k2 I2 e h; cases e; exact h
  | noc => intro c2 k2 I2 e; cases e
  | was => intro c2 k2 I2 e; cases e
  | cb => intro c2 k2 I2 e; cases e
  | cs => intro c2 k2 I2 e; cases e
  | go hw _ _ D1 _ _ ih => intro c2 k2 I2 e h; exact ih c2 k2 I2 e (zIok_up h hw D1)
/-- the class's state between clauses -/
abbrev ztE (M : Nat → Nat → Int32) (T : Nat → Nat) (len tx stc frc toc p : Nat) (c : List (Nat × Nat)) (I : Nat → Option (Nat × Nat × Nat)) : Prop := (ztT M T len) ∧ (zTk M T len p) ∧ (p ≤ len) ∧ (M 31 2 = 0) ∧ (M 31 3 = -1) ∧ (M tx 1 = nI c.length) ∧ (c.length ≤ 300) ∧ (∀ i, i < c.length → M stc i = zcc (c.getD i (0, 0))) ∧ (∀ w, w < 4 → (I w = none ∧ M frc w = -1) ∨ ∃ b n q, I w = some (b, n, q) ∧ M frc w = nI b ∧ M toc w = nI (b + n) ∧ b ≤ 300) ∧ (c.length ≤ ztst T len p)
theorem ztE.tm {M : Nat → Nat → Int32} {T : Nat → Nat} {len tx stc frc toc p : Nat} {c : List (Nat × Nat)} {I : Nat → Option (Nat × Nat × Nat)} (h : ztE M T len tx stc frc toc p c I) : ztT M T len := h.1
theorem ztE.tk {M : Nat → Nat → Int32} {T : Nat → Nat} {len tx stc frc toc p : Nat} {c : List (Nat × Nat)} {I : Nat → Option (Nat × Nat × Nat)} (h : ztE M T len tx stc frc toc p c I) : zTk M T len p := h.2.1
theorem ztE.pl {M : Nat → Nat → Int32} {T : Nat → Nat} {len tx stc frc toc p : Nat} {c : List (Nat × Nat)} {I : Nat → Option (Nat × Nat × Nat)} (h : ztE M T len tx stc frc toc p c I) : p ≤ len := h.2.2.1
theorem ztE.fl {M : Nat → Nat → Int32} {T : Nat → Nat} {len tx stc frc toc p : Nat} {c : List (Nat × Nat)} {I : Nat → Option (Nat × Nat × Nat)} (h : ztE M T len tx stc frc toc p c I) : M 31 2 = 0 := h.2.2.2.1
theorem ztE.fa {M : Nat → Nat → Int32} {T : Nat → Nat} {len tx stc frc toc p : Nat} {c : List (Nat × Nat)} {I : Nat → Option (Nat × Nat × Nat)} (h : ztE M T len tx stc frc toc p c I) : M 31 3 = -1 := h.2.2.2.2.1
theorem ztE.sz {M : Nat → Nat → Int32} {T : Nat → Nat} {len tx stc frc toc p : Nat} {c : List (Nat × Nat)} {I : Nat → Option (Nat × Nat × Nat)} (h : ztE M T len tx stc frc toc p c I) : M tx 1 = nI c.length := h.2.2.2.2.2.1
theorem ztE.l3 {M : Nat → Nat → Int32} {T : Nat → Nat} {len tx stc frc toc p : Nat} {c : List (Nat × Nat)} {I : Nat → Option (Nat × Nat × Nat)} (h : ztE M T len tx stc frc toc p c I) : c.length ≤ 300 := h.2.2.2.2.2.2.1
theorem ztE.cd {M : Nat → Nat → Int32} {T : Nat → Nat} {len tx stc frc toc p : Nat} {c : List (Nat × Nat)} {I : Nat → Option (Nat × Nat × Nat)} (h : ztE M T len tx stc frc toc p c I) : ∀ i, i < c.length → M stc i = zcc (c.getD i (0, 0)) := h.2.2.2.2.2.2.2.1
theorem ztE.io {M : Nat → Nat → Int32} {T : Nat → Nat} {len tx stc frc toc p : Nat} {c : List (Nat × Nat)} {I : Nat → Option (Nat × Nat × Nat)} (h : ztE M T len tx stc frc toc p c I) : ∀ w, w < 4 → (I w = none ∧ M frc w = -1) ∨ ∃ b n q, I w = some (b, n, q) ∧ M frc w = nI b ∧ M toc w = nI (b + n) ∧ b ≤ 300 := h.2.2.2.2.2.2.2.2.1
theorem ztE.ls {M : Nat → Nat → Int32} {T : Nat → Nat} {len tx stc frc toc p : Nat} {c : List (Nat × Nat)} {I : Nat → Option (Nat × Nat × Nat)} (h : ztE M T len tx stc frc toc p c I) : c.length ≤ ztst T len p := h.2.2.2.2.2.2.2.2.2
def ztH5 (X : zX) (K : Nat → Nat → Option Nat) (tx stc frc toc : Nat) : Prop := ztH X K tx stc ∧ K tx 2 = some frc ∧ zget zLay frc = some (.inr (0, 4)) ∧ K tx 3 = some toc ∧ zget zLay toc = some (.inr (0, 4)) ∧ (37 < frc ∧ 37 < toc ∧ frc ≠ tx ∧ frc ≠ stc ∧ toc ≠ tx ∧ toc ≠ stc ∧ frc ≠ toc)
def ztF5 (tx stc frc toc : Nat) (M M2 : Nat → Nat → Int32) : Prop := ∀ c, c ≠ 31 → c ≠ tx → c ≠ stc → c ≠ frc → c ≠ toc → M2 c = M c
def ztP3 (M : Nat → Nat → Int32) (T : Nat → Nat) (len tx stc frc toc : Nat) (o : zO3) : Prop := match o with
  | Sum.inl (c, _, I) => ∃ p, ztE M T len tx stc frc toc p c I
  | Sum.inr (f, a) => M 31 2 = nI f ∧ (1 ≤ f ∧ f ≤ 5) ∧ M 31 3 = nI a
section INT
variable {d : Nat} {F : Option Value → zS → Prop} {X : zX} {b : Nat × Nat} {K : Nat → Nat → Option Nat} {B : Nat → Nat → Int64} {M0 : Nat → Nat → Int32} {T : Nat → Nat} {len tx stc frc toc : Nat}
/-- readClause -/
theorem sp_clause {M : Nat → Nat → Int32} {p k : Nat} {c : List (Nat × Nat)} {I : Nat → Option (Nat × Nat × Nat)} (hH : ztH5 X K tx stc frc toc) (hE : ztE M T len tx stc frc toc p c I) (h0 : ztk T len p ≠ 0) (kb : ∀ f a M', ztD T len p c k I (.bad f a) → (M' 31 2 = nI f ∧ (1 ≤ f ∧ f ≤ 5) ∧ M' 31 3 = nI a ∧ ∃ q, zTk M' T len q ∧ q ≤ len) → ztF5 tx stc frc toc M M' → F none (X, b, zLay, K, B, M')) (ko : ∀ w p1 c1 M', w < 4 → ztk T len p = 3 + w → I w = none → zDt T len w (ztL w) 0 (ztnx T len p) c (.ok p1 c1) → ztk T len p1 = 29 → ztE M' T len tx stc frc toc (ztnx T len p1) c1 (ztup I w (c.length, c1.length - c.length, k)) → ztF5 tx stc frc toc M M' → F none (X, b, zLay, K, B, M')) : zCall (d + 110) zm_Reader_readClause [.ref 31, .ref tx] (X, b, zLay, K, B, M) F := by
  obtain ⟨hH0, g1, g2, g3, g4, g5⟩ := hH
  have hH2 := hH0.2.2.2.2.2
  have hT := ztok T (len := len)
  have hp := hT p hE.pl
  have l300 := hE.tm.2.1
  have bad0 : ∀ (f : Nat) (v : Int32) (M1 : Nat → Nat → Int32), v = nI f → (1 ≤ f ∧ f ≤ 5) → ztD T len p c k I (.bad f (ztst T len p)) → (∀ c, c ≠ 31 → M1 c = M c) → (∀ i, i ≠ 8 → M1 31 i = M 31 i) → F none (X, b, zLay, K, B, (zu (zu M1 31 2 v) 31 3 (nI (ztst T len p)))) := by
    intro f v M1 hv hf D e1 e2
    refine kb f _ _ D ⟨by rw [zu_at, if_neg (by decide), zu_at, if_pos rfl, hv], hf, by rw [zu_at, if_pos rfl], p, ?_, hE.pl⟩ (fun c h1 _ _ _ _ => by rw [zu_oc h1, zu_oc h1]; exact e1 c h1)
    have e : ∀ i, i ≠ 2 → i ≠ 3 → i ≠ 8 → (zu (zu M1 31 2 v) 31 3 (nI (ztst T len p))) 31 i = M 31 i := fun i i1 i2 i3 => by rw [zu_at, if_neg i2, zu_at, if_neg i1]; exact e2 i i3
    unfold zTk
    rw [e 4 (by decide) (by decide) (by decide), e 5 (by decide) (by decide) (by decide), e 6 (by decide) (by decide) (by decide), e 7 (by decide) (by decide) (by decide)]
    exact hE.tk
  refine zb_Reader_readClause_0 (kd := ztk T len p) (s := ztst T len p) hE.tk.1 hp.2.2.2.2.1 hE.tk.2.2.1 hE.fl hH0.2.2.1 (fun z => ?_) (fun z z2 => ?_) (fun z z2 => ?_)
  · exact bad0 1 1 M rfl (by omega) (ztD.noc h0 (by omega)) (fun _ _ => rfl) (fun _ _ => rfl)
  · exact bad0 1 1 M rfl (by omega) (ztD.noc h0 (by omega)) (fun _ _ => rfl) (fun _ _ => rfl)
  · obtain ⟨w, hw, hkw⟩ : ∃ w, w < 4 ∧ ztk T len p = 3 + w := ⟨ztk T len p - 3, by omega, by omega⟩
    rw [hkw]
    have s := zTok_s hT hE.pl h0
    generalize hM1 : zu M 31 8 (nI (3 + w)) = M1
    have o1 : ∀ c, c ≠ 31 → M1 c = M c := fun c hc => by rw [← hM1, zu_oc hc]
    have i1 : ∀ i, i ≠ 8 → M1 31 i = M 31 i := fun i hi => by rw [← hM1, zu_at, if_neg hi]
    have i8 : M1 31 8 = nI (3 + w) := by rw [← hM1, zu_at, if_pos rfl]
    have hT1 : ztT M1 T len := ⟨by rw [i1 1 (by decide)]; exact hE.tm.1, l300, by rw [o1 32 (by decide)]; exact hE.tm.2.2⟩
    have hk1 : zTk M1 T len p := by unfold zTk; rw [i1 4 (by decide), i1 5 (by decide), i1 6 (by decide), i1 7 (by decide)]; exact hE.tk
    have after : ∀ s0 : Int32, (s0 = 0 ↔ I w = none) → zEx (zCall (d + 109)) 6 false 0 zc_Reader_readClause F 32 [.ref 31, .ref tx, .null] [.int s0] (X, b, zLay, K, B, M1) := by
      intro s0 hs0
      have op : I w = none → ∀ l2 : Nat, l2 ≤ 1 → (l2 = 0 ↔ ztL w = 3) → zCall (d + 109) zm_Text_open [.ref tx, .int (nI (3 + w))] (X, (0, 0), zLay, K, B, M1) (zGo (d + 109) 6 false 0 zc_Reader_readClause F 71 [.ref 31, .ref tx, .int (nI l2)] [] b) := by
        intro hI l2 hl2 hl2L
        refine zb_Text_open_0 (d := d + 108) (3 + w) hH0.2.2.1 g1 g2 (by rw [o1 tx (by omega)]; exact hE.sz) (by omega) ?_
        rw [show 3 + w - 3 = w by omega]
        generalize hM2 : zu M1 frc w (nI c.length) = M2
        have o2 : ∀ c, c ≠ frc → M2 c = M1 c := fun c hc => by rw [← hM2, zu_oc hc]
        have hT2 : ztT M2 T len := ⟨by rw [o2 31 (by omega)]; exact hT1.1, l300, by rw [o2 32 (by omega)]; exact hT1.2.2⟩
        refine zb_Reader_readClause_71 l2 ?_
        refine sp_adv (d := d + 103) hH0.1 hT2 (by rw [o2 31 (by omega)]; exact hk1.2.2.2) s.2 (fun M3 a3 k3 => ?_)
        have hC : ztC M3 T len tx stc w (ztnx T len p) c := ⟨ztT_f a3 hT2, k3, s.2, by rw [a3.2 2 (by decide) (by decide) (by decide) (by decide), o2 31 (by omega), i1 2 (by decide)]; exact hE.fl, ⟨by rw [a3.2 8 (by decide) (by decide) (by decide) (by decide), o2 31 (by omega)]; exact i8, hw, by rw [a3.2 3 (by decide) (by decide) (by decide) (by decide), o2 31 (by omega), i1 3 (by decide)]; exact hE.fa⟩, by rw [a3.1 tx (by omega), o2 tx (by omega), o1 tx (by omega)]; exact hE.sz, hE.l3, by rw [a3.1 stc (by omega), o2 stc (by omega), o1 stc (by omega)]; exact hE.cd⟩
        have fr3 : ∀ c, c ≠ 31 → c ≠ frc → M3 c = M c := fun c h1 h2 => (a3.1 c h1).trans ((o2 c h2).trans (o1 c h1))
        have m3w : ∀ x, M3 frc x = if x = w then nI c.length else M frc x := fun x => by rw [a3.1 frc (by omega), ← hM2, zu_at, o1 frc (by omega)]
        have rest : ∀ o4 M4, zDt T len w (ztL w) 0 (ztnx T len p) c o4 → ztP M4 T len tx stc w o4 → ztF tx stc M3 M4 → zEx (zCall (d + 109)) 6 false 0 zc_Reader_readClause F 90 [.ref 31, .ref tx, .int (nI l2)] [] (X, b, zLay, K, B, M4) := by
          intro o4 M4 D4 P4 F4
          cases o4 using zO.cs with
          | bad f a =>
            obtain ⟨h1, ⟨q, h2, h2'⟩, h3, h4, h5, h6, z, h7, h8⟩ := P4
            have f0 : ¬ (nI f = (0 : Int32)) := fun q => by
              have := (nI_eq (b := 0) (by omega) (by omega)).mp q
              omega
            refine zb_Reader_readClause_90 (cl := 3 + w) l2 h6.1 (by omega) hH0.2.2.1 ?_
            refine zb_Text_close_0 (d := d + 108) (3 + w) hH0.2.2.1 g3 g4 h8 (by omega) ?_
            rw [show 3 + w - 3 = w by omega]
            generalize hM5 : zu M4 toc w (nI z) = M5
            have o5 : ∀ c, c ≠ toc → M5 c = M4 c := fun c hc => by rw [← hM5, zu_oc hc]
            have hT5 : ztT M5 T len := ⟨by rw [o5 31 (by omega)]; exact h1.1, l300, by rw [o5 32 (by omega)]; exact h1.2.2⟩
            have hq := hT q h2'
            have fin : ∀ M6, zLf M5 M6 → zTk M6 T len (ztnx T len q) → zEx (zCall (d + 109)) 6 false 0 zc_Reader_readClause F 108 [.ref 31, .ref tx, .int (nI l2)] [] (X, b, zLay, K, B, M6) := fun M6 a6 k6 => zb_Reader_readClause_108 l2 (kb f a M6 (ztD.cb hw hkw hI D4) ⟨by rw [a6.2 2 (by decide) (by decide) (by decide) (by decide), o5 31 (by omega)]; exact h3, h4, by rw [a6.2 3 (by decide) (by decide) (by decide) (by decide), o5 31 (by omega)]; exact h5, _, k6, hq.2.2.2.1⟩ (fun c c1 c2 c3 c4 c5 => by rw [a6.1 c c1, o5 c c5, F4 c c1 c2 c3]; exact fr3 c c1 c4))
            refine zb_Reader_readClauseB_98 (kd := ztk T len q) (s := ztst T len q) l2 (by rw [o5 31 (by omega)]; exact h2.1) hq.2.2.2.2.1 (by rw [o5 31 (by omega)]; exact h2.2.2.1) (by rw [o5 31 (by omega)]; exact h3) f0 (fun _ => ?_) (fun _ _ => ?_) (fun _ y => absurd y f0)
            · exact sp_adv (d := d + 103) hH0.1 hT5 (by rw [o5 31 (by omega)]; exact h2.2.2.2) hq.2.2.2.1 (fun M6 a6 k6 => fin M6 a6 k6)
            · exact sp_adv (d := d + 103) hH0.1 hT5 (by rw [o5 31 (by omega)]; exact h2.2.2.2) hq.2.2.2.1 (fun M6 a6 k6 => fin M6 a6 k6)
          | ok p1 c1 =>
            have ll := zDv_len hT D4 p1 c1 rfl s.2
            have hp1 := hT p1 ll.2
            obtain ⟨h1, h2, h3, h4, h5, h6, h7, h8⟩ := id P4
            refine zb_Reader_readClause_90 (cl := 3 + w) l2 h5.1 (by omega) hH0.2.2.1 ?_
            refine zb_Text_close_0 (d := d + 108) (3 + w) hH0.2.2.1 g3 g4 h6 (by omega) ?_
            rw [show 3 + w - 3 = w by omega]
            generalize hM5 : zu M4 toc w (nI c1.length) = M5
            have o5 : ∀ c, c ≠ toc → M5 c = M4 c := fun c hc => by rw [← hM5, zu_oc hc]
            have hT5 : ztT M5 T len := ⟨by rw [o5 31 (by omega)]; exact h1.1, l300, by rw [o5 32 (by omega)]; exact h1.2.2⟩
            have fr5 : ∀ c, c ≠ 31 → c ≠ tx → c ≠ stc → c ≠ frc → c ≠ toc → M5 c = M c := fun c d1 d2 d3 d4 d5 => (o5 c d5).trans ((F4 c d1 d2 d3).trans (fr3 c d1 d4))
            have ge : c.length ≤ c1.length := by
              obtain ⟨e, he, -⟩ := zDv_ty D4 p1 c1 rfl (by omega)
              rw [he, List.length_append]; omega
            refine zb_Reader_readClause_98 (kd := ztk T len p1) (s := ztst T len p1) l2 (by rw [o5 31 (by omega)]; exact h2.1) hp1.2.2.2.2.1 (by rw [o5 31 (by omega)]; exact h2.2.2.1) (by rw [o5 31 (by omega)]; exact h4) (fun y => ?_) (fun y => ?_)
            · have s1 := zTok_s hT ll.2 (by omega)
              refine sp_adv (d := d + 103) hH0.1 hT5 (by rw [o5 31 (by omega)]; exact h2.2.2.2) s1.2 (fun M6 a6 k6 => ?_)
              refine zb_Reader_readClause_108 l2 (ko w p1 c1 M6 hw hkw hI D4 y ⟨ztT_f a6 hT5, k6, s1.2, by rw [a6.2 2 (by decide) (by decide) (by decide) (by decide), o5 31 (by omega)]; exact h4, by rw [a6.2 3 (by decide) (by decide) (by decide) (by decide), o5 31 (by omega)]; exact h5.2.2, by rw [a6.1 tx (by omega), o5 tx (by omega)]; exact h6, h7, by rw [a6.1 stc (by omega), o5 stc (by omega)]; exact h8, fun x hx => ?_, by have := hE.ls; omega⟩ (fun c d1 d2 d3 d4 d5 => by rw [a6.1 c d1]; exact fr5 c d1 d2 d3 d4 d5))
              have mf : M6 frc x = if x = w then nI c.length else M frc x := by rw [a6.1 frc (by omega), o5 frc (by omega), F4 frc (by omega) (by omega) (by omega)]; exact m3w x
              have mt : M6 toc x = if x = w then nI c1.length else M toc x := by rw [a6.1 toc (by omega), ← hM5, zu_at, F4 toc (by omega) (by omega) (by omega), fr3 toc (by omega) (by omega)]
              rw [mf, mt]
              unfold ztup
              by_cases yx : x = w
              · rw [if_pos yx, if_pos yx, if_pos yx]
                exact Or.inr ⟨c.length, c1.length - c.length, k, rfl, rfl, by rw [Nat.add_sub_cancel' ge], hE.l3⟩
              · rw [if_neg yx, if_neg yx, if_neg yx]
                exact hE.io x hx
            · generalize hM6 : (zu (zu M5 31 2 1) 31 3 (nI (ztst T len p1))) = M6
              have o6 : ∀ c, c ≠ 31 → M6 c = M5 c := fun c hc => by rw [← hM6, zu_oc hc, zu_oc hc]
              have i6 : ∀ i, i ≠ 2 → i ≠ 3 → M6 31 i = M5 31 i := fun i d1 d2 => by rw [← hM6, zu_at, if_neg d2, zu_at, if_neg d1]
              refine sp_adv (d := d + 103) hH0.1 ⟨by rw [i6 1 (by decide) (by decide)]; exact hT5.1, l300, by rw [o6 32 (by decide)]; exact hT5.2.2⟩ (by rw [i6 7 (by decide) (by decide), o5 31 (by omega)]; exact h2.2.2.2) hp1.2.2.2.1 (fun M7 a7 k7 => ?_)
              exact zb_Reader_readClause_108 l2 (kb 1 (ztst T len p1) M7 (ztD.cs hw hkw hI D4 y) ⟨by rw [a7.2 2 (by decide) (by decide) (by decide) (by decide), ← hM6, zu_at, if_neg (by decide), zu_at, if_pos rfl]; rfl, by omega, by rw [a7.2 3 (by decide) (by decide) (by decide) (by decide), ← hM6, zu_at, if_pos rfl], _, k7, hp1.2.2.2.1⟩ (fun c d1 d2 d3 d4 d5 => by rw [a7.1 c d1, o6 c d1]; exact fr5 c d1 d2 d3 d4 d5))
        have tops := pr_top (X := X) (K := K) (B := B) (T := T) (len := len) (w := w) hH0
        refine zb_Reader_readClause_75 l2 hl2 (fun y => ?_) (fun y => ?_)
        · have yl := hl2L.mp y
          refine tops.1 (d + 109) _ _ M3 (ztnx T len p) c (by omega) hC (by have := hE.ls; omega) (fun o4 M4 D4 P4 F4 => ?_)
          exact rest o4 M4 (by rw [yl]; exact D4) P4 F4
        · have yl : ztL w = 0 := by
            unfold ztL at hl2L ⊢
            split
            · rfl
            · rename_i q
              rw [if_neg q] at hl2L
              exact absurd (hl2L.mpr rfl) y
          refine tops.2 (d + 109) _ _ M3 (ztnx T len p) c (by omega) hC (by have := hE.ls; omega) (fun o4 M4 D4 P4 F4 => ?_)
          exact rest o4 M4 (by rw [yl]; exact D4) P4 F4
      have lw : (w = 0 → ztL w = 0) ∧ (w = 1 → ztL w = 3) ∧ (w = 2 → ztL w = 0) ∧ (w = 3 → ztL w = 3) := by
        refine ⟨fun q => by rw [q]; rfl, fun q => by rw [q]; rfl, fun q => by rw [q]; rfl, fun q => by rw [q]; rfl⟩
      refine zb_Reader_readClause_32 (kd := 3 + w) (s := ztst T len p) (cl := 3 + w) s0 (by rw [i1 4 (by decide), ← hkw]; exact hE.tk.1) (by omega) (by rw [i1 6 (by decide)]; exact hE.tk.2.2.1) (by rw [i1 2 (by decide)]; exact hE.fl) i8 (by omega) hH0.2.2.1 (fun y y2 => ?_) (fun y y2 y3 => ?_) (fun y y2 y3 => ?_) (fun y => ?_)
      · exact op (hs0.mp y) 1 (by omega) (by omega)
      · exact op (hs0.mp y) 0 (by omega) (by omega)
      · exact op (hs0.mp y) 1 (by omega) (by omega)
      · exact bad0 4 4 M1 rfl (by omega) (ztD.was hw hkw (fun q => y (hs0.mpr q))) o1 i1
    refine zb_Text_has_0 (d := d + 108) (tx := tx) (fr := frc) (w := w) (x := M frc w) hH0.2.2.1 g1 g2 hw (by rw [o1 frc (by omega)]) (fun y => ?_) (fun y => ?_)
    · refine after _ ⟨fun _ => ?_, fun _ => rfl⟩
      rcases hE.io w hw with q | ⟨b1, n1, q1, e1, e2, e3, e4⟩
      · exact q.1
      · rw [e2] at y
        exact absurd y (zn1 (by omega))
    · refine after _ ⟨fun q => absurd q (by decide), fun q => ?_⟩
      rcases hE.io w hw with r | ⟨b1, n1, q1, e1, e2, e3, e4⟩
      · exact absurd r.2 y
      · rw [q] at e1; cases e1
end INT
