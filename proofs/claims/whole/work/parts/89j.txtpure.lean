/-! ===== reading a text: what is read (no machine) ===== -/
def ztlv (k : Nat) : Nat := match k with
  | 14 => 0 | 15 => 1 | 17 => 2 | 18 => 2 | 19 => 2 | 20 => 2 | 21 => 2 | 22 => 2 | 23 => 3 | 24 => 3 | 25 => 4 | 26 => 4 | _ => 9
abbrev zO : Type := (Nat × List (Nat × Nat)) ⊕ (Nat × Nat)
abbrev zO.ok (p : Nat) (c : List (Nat × Nat)) : zO := Sum.inl (p, c)
abbrev zO.bad (f a : Nat) : zO := Sum.inr (f, a)
theorem zO.cs {motive : zO → Prop} (bad : ∀ f a, motive (zO.bad f a)) (ok : ∀ p c, motive (zO.ok p c)) (o : zO) : motive o := by
  rcases o with ⟨p, c⟩ | ⟨f, a⟩
  · exact ok p c
  · exact bad f a
def zadd (o : zO) (x : Nat × Nat) : zO := match o with
  | Sum.inl (p, c) => .ok p (c ++ [x])
  | Sum.inr (f, a) => .bad f a
def zJl (L : Nat) : Prop := L = 0 ∨ L = 1 ∨ L = 3 ∨ L = 4
def zDv (tk st nx nu : Nat → Nat) (w : Nat) (i0 : Nat) (i1 : Nat) (i2 : Nat) (i3 : List (Nat × Nat)) (i4 : zO) : Prop := ∀ P : Nat → Nat → Nat → List (Nat × Nat) → zO → Prop, (∀ {L dp p : Nat} {c : List (Nat × Nat)} {f a : Nat}, zJl L → P (L + 1) dp p c (.bad f a) → P L dp p c (.bad f a)) → (∀ {L dp p p1 : Nat} {c c1 : List (Nat × Nat)} {o : zO}, zJl L → P (L + 1) dp p c (.ok p1 c1) → P (10 + L) dp p1 c1 o → P L dp p c o) → (∀ {L dp p : Nat} {c : List (Nat × Nat)}, zJl L → ztlv (tk p) ≠ L → P (10 + L) dp p c (.ok p c)) → (∀ {L dp p : Nat} {c : List (Nat × Nat)} {f a : Nat}, zJl L → ztlv (tk p) = L → P (L + 1) dp (nx p) c (.bad f a) → P (10 + L) dp p c (.bad f a)) → (∀ {L dp p p1 : Nat} {c c1 : List (Nat × Nat)} {o : zO}, zJl L → ztlv (tk p) = L → P (L + 1) dp (nx p) c (.ok p1 c1) → P (10 + L) dp p1 (c1 ++ [(tk p, 0)]) o → P (10 + L) dp p c o) → (∀ {dp p : Nat} {c : List (Nat × Nat)}, tk p = 16 → 8 ≤ dp → P 2 dp p c (.bad 3 (st p))) → (∀ {dp p : Nat} {c : List (Nat × Nat)} {o : zO}, tk p = 16 → dp < 8 → P 2 (dp + 1) (nx p) c o → P 2 dp p c (zadd o (16, 0))) → (∀ {dp p : Nat} {c : List (Nat × Nat)} {f a : Nat}, tk p ≠ 16 → P 3 dp p c (.bad f a) → P 2 dp p c (.bad f a)) → (∀ {dp p p1 : Nat} {c c1 : List (Nat × Nat)}, tk p ≠ 16 → P 3 dp p c (.ok p1 c1) → ztlv (tk p1) ≠ 2 → P 2 dp p c (.bad 1 (st p1))) → (∀ {dp p p1 : Nat} {c c1 : List (Nat × Nat)} {o : zO}, tk p ≠ 16 → P 3 dp p c (.ok p1 c1) → ztlv (tk p1) = 2 → P 3 dp (nx p1) c1 o → P 2 dp p c (zadd o (tk p1, 0))) → (∀ {dp p : Nat} {c : List (Nat × Nat)}, tk p = 24 ∨ tk p = 27 → 8 ≤ dp → P 5 dp p c (.bad 3 (st p))) → (∀ {dp p : Nat} {c : List (Nat × Nat)} {o : zO}, tk p = 24 → dp < 8 → P 5 (dp + 1) (nx p) c o → P 5 dp p c (zadd o (30, 0))) → (∀ {dp p : Nat} {c : List (Nat × Nat)} {f a : Nat}, tk p = 27 → dp < 8 → P 3 (dp + 1) (nx p) c (.bad f a) → P 5 dp p c (.bad f a)) → (∀ {dp p p1 : Nat} {c c1 : List (Nat × Nat)}, tk p = 27 → dp < 8 → P 3 (dp + 1) (nx p) c (.ok p1 c1) → tk p1 ≠ 28 → P 5 dp p c (.bad 1 (st p1))) → (∀ {dp p p1 : Nat} {c c1 : List (Nat × Nat)}, tk p = 27 → dp < 8 → P 3 (dp + 1) (nx p) c (.ok p1 c1) → tk p1 = 28 → P 5 dp p c (.ok (nx p1) c1)) → (∀ {dp p : Nat} {c : List (Nat × Nat)}, tk p = 2 → 9999 < nu p → P 5 dp p c (.bad 2 (st p))) → (∀ {dp p : Nat} {c : List (Nat × Nat)}, tk p = 2 → nu p ≤ 9999 → P 5 dp p c (.ok (nx p) (c ++ [(2, nu p)]))) → (∀ {dp p : Nat} {c : List (Nat × Nat)}, 7 ≤ tk p → tk p ≤ 13 → (zmsk w).testBit (tk p - 7) = false → P 5 dp p c (.bad 5 (st p))) → (∀ {dp p : Nat} {c : List (Nat × Nat)}, 7 ≤ tk p → tk p ≤ 13 → (zmsk w).testBit (tk p - 7) = true → P 5 dp p c (.ok (nx p) (c ++ [(tk p, 0)]))) → (∀ {dp p : Nat} {c : List (Nat × Nat)}, tk p ≠ 2 → ¬ (7 ≤ tk p ∧ tk p ≤ 13) → tk p ≠ 24 → tk p ≠ 27 → P 5 dp p c (.bad 1 (st p))) → P i0 i1 i2 i3 i4
theorem zDv.jb {tk st nx nu : Nat → Nat} {w : Nat} {L dp p : Nat} {c : List (Nat × Nat)} {f a : Nat} (h0 : zJl L) (h1 : zDv tk st nx nu w (L + 1) dp p c (.bad f a)) : zDv tk st nx nu w L dp p c (.bad f a) := fun P r_jb r_jo r_ls r_lb r_lo r_n8 r_nt r_ab r_ax r_ao r_m8 r_mo r_pb r_px r_po r_nb r_nk r_wb r_wk r_el => r_jb h0 (h1 P r_jb r_jo r_ls r_lb r_lo r_n8 r_nt r_ab r_ax r_ao r_m8 r_mo r_pb r_px r_po r_nb r_nk r_wb r_wk r_el)
theorem zDv.jo {tk st nx nu : Nat → Nat} {w : Nat} {L dp p p1 : Nat} {c c1 : List (Nat × Nat)} {o : zO} (h0 : zJl L) (h1 : zDv tk st nx nu w (L + 1) dp p c (.ok p1 c1)) (h2 : zDv tk st nx nu w (10 + L) dp p1 c1 o) : zDv tk st nx nu w L dp p c o := fun P r_jb r_jo r_ls r_lb r_lo r_n8 r_nt r_ab r_ax r_ao r_m8 r_mo r_pb r_px r_po r_nb r_nk r_wb r_wk r_el => r_jo h0 (h1 P r_jb r_jo r_ls r_lb r_lo r_n8 r_nt r_ab r_ax r_ao r_m8 r_mo r_pb r_px r_po r_nb r_nk r_wb r_wk r_el) (h2 P r_jb r_jo r_ls r_lb r_lo r_n8 r_nt r_ab r_ax r_ao r_m8 r_mo r_pb r_px r_po r_nb r_nk r_wb r_wk r_el)
theorem zDv.ls {tk st nx nu : Nat → Nat} {w : Nat} {L dp p : Nat} {c : List (Nat × Nat)} (h0 : zJl L) (h1 : ztlv (tk p) ≠ L) : zDv tk st nx nu w (10 + L) dp p c (.ok p c) := fun P r_jb r_jo r_ls r_lb r_lo r_n8 r_nt r_ab r_ax r_ao r_m8 r_mo r_pb r_px r_po r_nb r_nk r_wb r_wk r_el => r_ls h0 h1
theorem zDv.lb {tk st nx nu : Nat → Nat} {w : Nat} {L dp p : Nat} {c : List (Nat × Nat)} {f a : Nat} (h0 : zJl L) (h1 : ztlv (tk p) = L) (h2 : zDv tk st nx nu w (L + 1) dp (nx p) c (.bad f a)) : zDv tk st nx nu w (10 + L) dp p c (.bad f a) := fun P r_jb r_jo r_ls r_lb r_lo r_n8 r_nt r_ab r_ax r_ao r_m8 r_mo r_pb r_px r_po r_nb r_nk r_wb r_wk r_el => r_lb h0 h1 (h2 P r_jb r_jo r_ls r_lb r_lo r_n8 r_nt r_ab r_ax r_ao r_m8 r_mo r_pb r_px r_po r_nb r_nk r_wb r_wk r_el)
theorem zDv.lo {tk st nx nu : Nat → Nat} {w : Nat} {L dp p p1 : Nat} {c c1 : List (Nat × Nat)} {o : zO} (h0 : zJl L) (h1 : ztlv (tk p) = L) (h2 : zDv tk st nx nu w (L + 1) dp (nx p) c (.ok p1 c1)) (h3 : zDv tk st nx nu w (10 + L) dp p1 (c1 ++ [(tk p, 0)]) o) : zDv tk st nx nu w (10 + L) dp p c o := fun P r_jb r_jo r_ls r_lb r_lo r_n8 r_nt r_ab r_ax r_ao r_m8 r_mo r_pb r_px r_po r_nb r_nk r_wb r_wk r_el => r_lo h0 h1 (h2 P r_jb r_jo r_ls r_lb r_lo r_n8 r_nt r_ab r_ax r_ao r_m8 r_mo r_pb r_px r_po r_nb r_nk r_wb r_wk r_el) (h3 P r_jb r_jo r_ls r_lb r_lo r_n8 r_nt r_ab r_ax r_ao r_m8 r_mo r_pb r_px r_po r_nb r_nk r_wb r_wk r_el)
theorem zDv.n8 {tk st nx nu : Nat → Nat} {w : Nat} {dp p : Nat} {c : List (Nat × Nat)} (h0 : tk p = 16) (h1 : 8 ≤ dp) : zDv tk st nx nu w 2 dp p c (.bad 3 (st p)) := fun P r_jb r_jo r_ls r_lb r_lo r_n8 r_nt r_ab r_ax r_ao r_m8 r_mo r_pb r_px r_po r_nb r_nk r_wb r_wk r_el => r_n8 h0 h1
theorem zDv.nt {tk st nx nu : Nat → Nat} {w : Nat} {dp p : Nat} {c : List (Nat × Nat)} {o : zO} (h0 : tk p = 16) (h1 : dp < 8) (h2 : zDv tk st nx nu w 2 (dp + 1) (nx p) c o) : zDv tk st nx nu w 2 dp p c (zadd o (16, 0)) := fun P r_jb r_jo r_ls r_lb r_lo r_n8 r_nt r_ab r_ax r_ao r_m8 r_mo r_pb r_px r_po r_nb r_nk r_wb r_wk r_el => r_nt h0 h1 (h2 P r_jb r_jo r_ls r_lb r_lo r_n8 r_nt r_ab r_ax r_ao r_m8 r_mo r_pb r_px r_po r_nb r_nk r_wb r_wk r_el)
theorem zDv.ab {tk st nx nu : Nat → Nat} {w : Nat} {dp p : Nat} {c : List (Nat × Nat)} {f a : Nat} (h0 : tk p ≠ 16) (h1 : zDv tk st nx nu w 3 dp p c (.bad f a)) : zDv tk st nx nu w 2 dp p c (.bad f a) := fun P r_jb r_jo r_ls r_lb r_lo r_n8 r_nt r_ab r_ax r_ao r_m8 r_mo r_pb r_px r_po r_nb r_nk r_wb r_wk r_el => r_ab h0 (h1 P r_jb r_jo r_ls r_lb r_lo r_n8 r_nt r_ab r_ax r_ao r_m8 r_mo r_pb r_px r_po r_nb r_nk r_wb r_wk r_el)
theorem zDv.ax {tk st nx nu : Nat → Nat} {w : Nat} {dp p p1 : Nat} {c c1 : List (Nat × Nat)} (h0 : tk p ≠ 16) (h1 : zDv tk st nx nu w 3 dp p c (.ok p1 c1)) (h2 : ztlv (tk p1) ≠ 2) : zDv tk st nx nu w 2 dp p c (.bad 1 (st p1)) := fun P r_jb r_jo r_ls r_lb r_lo r_n8 r_nt r_ab r_ax r_ao r_m8 r_mo r_pb r_px r_po r_nb r_nk r_wb r_wk r_el => r_ax h0 (h1 P r_jb r_jo r_ls r_lb r_lo r_n8 r_nt r_ab r_ax r_ao r_m8 r_mo r_pb r_px r_po r_nb r_nk r_wb r_wk r_el) h2
theorem zDv.ao {tk st nx nu : Nat → Nat} {w : Nat} {dp p p1 : Nat} {c c1 : List (Nat × Nat)} {o : zO} (h0 : tk p ≠ 16) (h1 : zDv tk st nx nu w 3 dp p c (.ok p1 c1)) (h2 : ztlv (tk p1) = 2) (h3 : zDv tk st nx nu w 3 dp (nx p1) c1 o) : zDv tk st nx nu w 2 dp p c (zadd o (tk p1, 0)) := fun P r_jb r_jo r_ls r_lb r_lo r_n8 r_nt r_ab r_ax r_ao r_m8 r_mo r_pb r_px r_po r_nb r_nk r_wb r_wk r_el => r_ao h0 (h1 P r_jb r_jo r_ls r_lb r_lo r_n8 r_nt r_ab r_ax r_ao r_m8 r_mo r_pb r_px r_po r_nb r_nk r_wb r_wk r_el) h2 (h3 P r_jb r_jo r_ls r_lb r_lo r_n8 r_nt r_ab r_ax r_ao r_m8 r_mo r_pb r_px r_po r_nb r_nk r_wb r_wk r_el)
theorem zDv.m8 {tk st nx nu : Nat → Nat} {w : Nat} {dp p : Nat} {c : List (Nat × Nat)} (h0 : tk p = 24 ∨ tk p = 27) (h1 : 8 ≤ dp) : zDv tk st nx nu w 5 dp p c (.bad 3 (st p)) := fun P r_jb r_jo r_ls r_lb r_lo r_n8 r_nt r_ab r_ax r_ao r_m8 r_mo r_pb r_px r_po r_nb r_nk r_wb r_wk r_el => r_m8 h0 h1
theorem zDv.mo {tk st nx nu : Nat → Nat} {w : Nat} {dp p : Nat} {c : List (Nat × Nat)} {o : zO} (h0 : tk p = 24) (h1 : dp < 8) (h2 : zDv tk st nx nu w 5 (dp + 1) (nx p) c o) : zDv tk st nx nu w 5 dp p c (zadd o (30, 0)) := fun P r_jb r_jo r_ls r_lb r_lo r_n8 r_nt r_ab r_ax r_ao r_m8 r_mo r_pb r_px r_po r_nb r_nk r_wb r_wk r_el => r_mo h0 h1 (h2 P r_jb r_jo r_ls r_lb r_lo r_n8 r_nt r_ab r_ax r_ao r_m8 r_mo r_pb r_px r_po r_nb r_nk r_wb r_wk r_el)
theorem zDv.pb {tk st nx nu : Nat → Nat} {w : Nat} {dp p : Nat} {c : List (Nat × Nat)} {f a : Nat} (h0 : tk p = 27) (h1 : dp < 8) (h2 : zDv tk st nx nu w 3 (dp + 1) (nx p) c (.bad f a)) : zDv tk st nx nu w 5 dp p c (.bad f a) := fun P r_jb r_jo r_ls r_lb r_lo r_n8 r_nt r_ab r_ax r_ao r_m8 r_mo r_pb r_px r_po r_nb r_nk r_wb r_wk r_el => r_pb h0 h1 (h2 P r_jb r_jo r_ls r_lb r_lo r_n8 r_nt r_ab r_ax r_ao r_m8 r_mo r_pb r_px r_po r_nb r_nk r_wb r_wk r_el)
theorem zDv.px {tk st nx nu : Nat → Nat} {w : Nat} {dp p p1 : Nat} {c c1 : List (Nat × Nat)} (h0 : tk p = 27) (h1 : dp < 8) (h2 : zDv tk st nx nu w 3 (dp + 1) (nx p) c (.ok p1 c1)) (h3 : tk p1 ≠ 28) : zDv tk st nx nu w 5 dp p c (.bad 1 (st p1)) := fun P r_jb r_jo r_ls r_lb r_lo r_n8 r_nt r_ab r_ax r_ao r_m8 r_mo r_pb r_px r_po r_nb r_nk r_wb r_wk r_el => r_px h0 h1 (h2 P r_jb r_jo r_ls r_lb r_lo r_n8 r_nt r_ab r_ax r_ao r_m8 r_mo r_pb r_px r_po r_nb r_nk r_wb r_wk r_el) h3
theorem zDv.po {tk st nx nu : Nat → Nat} {w : Nat} {dp p p1 : Nat} {c c1 : List (Nat × Nat)} (h0 : tk p = 27) (h1 : dp < 8) (h2 : zDv tk st nx nu w 3 (dp + 1) (nx p) c (.ok p1 c1)) (h3 : tk p1 = 28) : zDv tk st nx nu w 5 dp p c (.ok (nx p1) c1) := fun P r_jb r_jo r_ls r_lb r_lo r_n8 r_nt r_ab r_ax r_ao r_m8 r_mo r_pb r_px r_po r_nb r_nk r_wb r_wk r_el => r_po h0 h1 (h2 P r_jb r_jo r_ls r_lb r_lo r_n8 r_nt r_ab r_ax r_ao r_m8 r_mo r_pb r_px r_po r_nb r_nk r_wb r_wk r_el) h3
theorem zDv.nb {tk st nx nu : Nat → Nat} {w : Nat} {dp p : Nat} {c : List (Nat × Nat)} (h0 : tk p = 2) (h1 : 9999 < nu p) : zDv tk st nx nu w 5 dp p c (.bad 2 (st p)) := fun P r_jb r_jo r_ls r_lb r_lo r_n8 r_nt r_ab r_ax r_ao r_m8 r_mo r_pb r_px r_po r_nb r_nk r_wb r_wk r_el => r_nb h0 h1
theorem zDv.nk {tk st nx nu : Nat → Nat} {w : Nat} {dp p : Nat} {c : List (Nat × Nat)} (h0 : tk p = 2) (h1 : nu p ≤ 9999) : zDv tk st nx nu w 5 dp p c (.ok (nx p) (c ++ [(2, nu p)])) := fun P r_jb r_jo r_ls r_lb r_lo r_n8 r_nt r_ab r_ax r_ao r_m8 r_mo r_pb r_px r_po r_nb r_nk r_wb r_wk r_el => r_nk h0 h1
theorem zDv.wb {tk st nx nu : Nat → Nat} {w : Nat} {dp p : Nat} {c : List (Nat × Nat)} (h0 : 7 ≤ tk p) (h1 : tk p ≤ 13) (h2 : (zmsk w).testBit (tk p - 7) = false) : zDv tk st nx nu w 5 dp p c (.bad 5 (st p)) := fun P r_jb r_jo r_ls r_lb r_lo r_n8 r_nt r_ab r_ax r_ao r_m8 r_mo r_pb r_px r_po r_nb r_nk r_wb r_wk r_el => r_wb h0 h1 h2
theorem zDv.wk {tk st nx nu : Nat → Nat} {w : Nat} {dp p : Nat} {c : List (Nat × Nat)} (h0 : 7 ≤ tk p) (h1 : tk p ≤ 13) (h2 : (zmsk w).testBit (tk p - 7) = true) : zDv tk st nx nu w 5 dp p c (.ok (nx p) (c ++ [(tk p, 0)])) := fun P r_jb r_jo r_ls r_lb r_lo r_n8 r_nt r_ab r_ax r_ao r_m8 r_mo r_pb r_px r_po r_nb r_nk r_wb r_wk r_el => r_wk h0 h1 h2
theorem zDv.el {tk st nx nu : Nat → Nat} {w : Nat} {dp p : Nat} {c : List (Nat × Nat)} (h0 : tk p ≠ 2) (h1 : ¬ (7 ≤ tk p ∧ tk p ≤ 13)) (h2 : tk p ≠ 24) (h3 : tk p ≠ 27) : zDv tk st nx nu w 5 dp p c (.bad 1 (st p)) := fun P r_jb r_jo r_ls r_lb r_lo r_n8 r_nt r_ab r_ax r_ao r_m8 r_mo r_pb r_px r_po r_nb r_nk r_wb r_wk r_el => r_el h0 h1 h2 h3
theorem zDv.ind {tk st nx nu : Nat → Nat} {w : Nat} {motive : ∀ (i0 : Nat) (i1 : Nat) (i2 : Nat) (i3 : List (Nat × Nat)) (i4 : zO), zDv tk st nx nu w i0 i1 i2 i3 i4 → Prop} (jb : ∀ {L dp p : Nat} {c : List (Nat × Nat)} {f a : Nat} (h0 : zJl L) (h1 : zDv tk st nx nu w (L + 1) dp p c (.bad f a)), motive (L + 1) dp p c (.bad f a) h1 → motive L dp p c (.bad f a) (zDv.jb h0 h1)) (jo : ∀ {L dp p p1 : Nat} {c c1 : List (Nat × Nat)} {o : zO} (h0 : zJl L) (h1 : zDv tk st nx nu w (L + 1) dp p c (.ok p1 c1)) (h2 : zDv tk st nx nu w (10 + L) dp p1 c1 o), motive (L + 1) dp p c (.ok p1 c1) h1 → motive (10 + L) dp p1 c1 o h2 → motive L dp p c o (zDv.jo h0 h1 h2)) (ls : ∀ {L dp p : Nat} {c : List (Nat × Nat)} (h0 : zJl L) (h1 : ztlv (tk p) ≠ L), motive (10 + L) dp p c (.ok p c) (zDv.ls h0 h1)) (lb : ∀ {L dp p : Nat} {c : List (Nat × Nat)} {f a : Nat} (h0 : zJl L) (h1 : ztlv (tk p) = L) (h2 : zDv tk st nx nu w (L + 1) dp (nx p) c (.bad f a)), motive (L + 1) dp (nx p) c (.bad f a) h2 → motive (10 + L) dp p c (.bad f a) (zDv.lb h0 h1 h2)) (lo : ∀ {L dp p p1 : Nat} {c c1 : List (Nat × Nat)} {o : zO} (h0 : zJl L) (h1 : ztlv (tk p) = L) (h2 : zDv tk st nx nu w (L + 1) dp (nx p) c (.ok p1 c1)) (h3 : zDv tk st nx nu w (10 + L) dp p1 (c1 ++ [(tk p, 0)]) o), motive (L + 1) dp (nx p) c (.ok p1 c1) h2 → motive (10 + L) dp p1 (c1 ++ [(tk p, 0)]) o h3 → motive (10 + L) dp p c o (zDv.lo h0 h1 h2 h3)) (n8 : ∀ {dp p : Nat} {c : List (Nat × Nat)} (h0 : tk p = 16) (h1 : 8 ≤ dp), motive 2 dp p c (.bad 3 (st p)) (zDv.n8 h0 h1)) (nt : ∀ {dp p : Nat} {c : List (Nat × Nat)} {o : zO} (h0 : tk p = 16) (h1 : dp < 8) (h2 : zDv tk st nx nu w 2 (dp + 1) (nx p) c o), motive 2 (dp + 1) (nx p) c o h2 → motive 2 dp p c (zadd o (16, 0)) (zDv.nt h0 h1 h2)) (ab : ∀ {dp p : Nat} {c : List (Nat × Nat)} {f a : Nat} (h0 : tk p ≠ 16) (h1 : zDv tk st nx nu w 3 dp p c (.bad f a)), motive 3 dp p c (.bad f a) h1 → motive 2 dp p c (.bad f a) (zDv.ab h0 h1)) (ax : ∀ {dp p p1 : Nat} {c c1 : List (Nat × Nat)} (h0 : tk p ≠ 16) (h1 : zDv tk st nx nu w 3 dp p c (.ok p1 c1)) (h2 : ztlv (tk p1) ≠ 2), motive 3 dp p c (.ok p1 c1) h1 → motive 2 dp p c (.bad 1 (st p1)) (zDv.ax h0 h1 h2)) (ao : ∀ {dp p p1 : Nat} {c c1 : List (Nat × Nat)} {o : zO} (h0 : tk p ≠ 16) (h1 : zDv tk st nx nu w 3 dp p c (.ok p1 c1)) (h2 : ztlv (tk p1) = 2) (h3 : zDv tk st nx nu w 3 dp (nx p1) c1 o), motive 3 dp p c (.ok p1 c1) h1 → motive 3 dp (nx p1) c1 o h3 → motive 2 dp p c (zadd o (tk p1, 0)) (zDv.ao h0 h1 h2 h3)) (m8 : ∀ {dp p : Nat} {c : List (Nat × Nat)} (h0 : tk p = 24 ∨ tk p = 27) (h1 : 8 ≤ dp), motive 5 dp p c (.bad 3 (st p)) (zDv.m8 h0 h1)) (mo : ∀ {dp p : Nat} {c : List (Nat × Nat)} {o : zO} (h0 : tk p = 24) (h1 : dp < 8) (h2 : zDv tk st nx nu w 5 (dp + 1) (nx p) c o), motive 5 (dp + 1) (nx p) c o h2 → motive 5 dp p c (zadd o (30, 0)) (zDv.mo h0 h1 h2)) (pb : ∀ {dp p : Nat} {c : List (Nat × Nat)} {f a : Nat} (h0 : tk p = 27) (h1 : dp < 8) (h2 : zDv tk st nx nu w 3 (dp + 1) (nx p) c (.bad f a)), motive 3 (dp + 1) (nx p) c (.bad f a) h2 → motive 5 dp p c (.bad f a) (zDv.pb h0 h1 h2)) (px : ∀ {dp p p1 : Nat} {c c1 : List (Nat × Nat)} (h0 : tk p = 27) (h1 : dp < 8) (h2 : zDv tk st nx nu w 3 (dp + 1) (nx p) c (.ok p1 c1)) (h3 : tk p1 ≠ 28), motive 3 (dp + 1) (nx p) c (.ok p1 c1) h2 → motive 5 dp p c (.bad 1 (st p1)) (zDv.px h0 h1 h2 h3)) (po : ∀ {dp p p1 : Nat} {c c1 : List (Nat × Nat)} (h0 : tk p = 27) (h1 : dp < 8) (h2 : zDv tk st nx nu w 3 (dp + 1) (nx p) c (.ok p1 c1)) (h3 : tk p1 = 28), motive 3 (dp + 1) (nx p) c (.ok p1 c1) h2 → motive 5 dp p c (.ok (nx p1) c1) (zDv.po h0 h1 h2 h3)) (nb : ∀ {dp p : Nat} {c : List (Nat × Nat)} (h0 : tk p = 2) (h1 : 9999 < nu p), motive 5 dp p c (.bad 2 (st p)) (zDv.nb h0 h1)) (nk : ∀ {dp p : Nat} {c : List (Nat × Nat)} (h0 : tk p = 2) (h1 : nu p ≤ 9999), motive 5 dp p c (.ok (nx p) (c ++ [(2, nu p)])) (zDv.nk h0 h1)) (wb : ∀ {dp p : Nat} {c : List (Nat × Nat)} (h0 : 7 ≤ tk p) (h1 : tk p ≤ 13) (h2 : (zmsk w).testBit (tk p - 7) = false), motive 5 dp p c (.bad 5 (st p)) (zDv.wb h0 h1 h2)) (wk : ∀ {dp p : Nat} {c : List (Nat × Nat)} (h0 : 7 ≤ tk p) (h1 : tk p ≤ 13) (h2 : (zmsk w).testBit (tk p - 7) = true), motive 5 dp p c (.ok (nx p) (c ++ [(tk p, 0)])) (zDv.wk h0 h1 h2)) (el : ∀ {dp p : Nat} {c : List (Nat × Nat)} (h0 : tk p ≠ 2) (h1 : ¬ (7 ≤ tk p ∧ tk p ≤ 13)) (h2 : tk p ≠ 24) (h3 : tk p ≠ 27), motive 5 dp p c (.bad 1 (st p)) (zDv.el h0 h1 h2 h3)) {i0 : Nat} {i1 : Nat} {i2 : Nat} {i3 : List (Nat × Nat)} {i4 : zO} (D : zDv tk st nx nu w i0 i1 i2 i3 i4) : motive i0 i1 i2 i3 i4 D := by
  obtain ⟨D2, g⟩ := D (fun i0 i1 i2 i3 i4 => ∃ D : zDv tk st nx nu w i0 i1 i2 i3 i4, motive i0 i1 i2 i3 i4 D)
    (by
      intro _ _ _ _ _ _ g0 g1
      obtain ⟨d1, m1⟩ := g1
      exact ⟨_, jb g0 d1 m1⟩)
    (by
      intro _ _ _ _ _ _ _ g0 g1 g2
      obtain ⟨d1, m1⟩ := g1
      obtain ⟨d2, m2⟩ := g2
      exact ⟨_, jo g0 d1 d2 m1 m2⟩)
    (by
      intro _ _ _ _ g0 g1
      exact ⟨_, ls g0 g1 ⟩)
    (by
      intro _ _ _ _ _ _ g0 g1 g2
      obtain ⟨d2, m2⟩ := g2
      exact ⟨_, lb g0 g1 d2 m2⟩)
    (by
      intro _ _ _ _ _ _ _ g0 g1 g2 g3
      obtain ⟨d2, m2⟩ := g2
      obtain ⟨d3, m3⟩ := g3
      exact ⟨_, lo g0 g1 d2 d3 m2 m3⟩)
    (by
      intro _ _ _ g0 g1
      exact ⟨_, n8 g0 g1 ⟩)
    (by
      intro _ _ _ _ g0 g1 g2
      obtain ⟨d2, m2⟩ := g2
      exact ⟨_, nt g0 g1 d2 m2⟩)
    (by
      intro _ _ _ _ _ g0 g1
      obtain ⟨d1, m1⟩ := g1
      exact ⟨_, ab g0 d1 m1⟩)
    (by
      intro _ _ _ _ _ g0 g1 g2
      obtain ⟨d1, m1⟩ := g1
      exact ⟨_, ax g0 d1 g2 m1⟩)
    (by
      intro _ _ _ _ _ _ g0 g1 g2 g3
      obtain ⟨d1, m1⟩ := g1
      obtain ⟨d3, m3⟩ := g3
      exact ⟨_, ao g0 d1 g2 d3 m1 m3⟩)
    (by
      intro _ _ _ g0 g1
      exact ⟨_, m8 g0 g1 ⟩)
    (by
      intro _ _ _ _ g0 g1 g2
      obtain ⟨d2, m2⟩ := g2
      exact ⟨_, mo g0 g1 d2 m2⟩)
    (by
      intro _ _ _ _ _ g0 g1 g2
      obtain ⟨d2, m2⟩ := g2
      exact ⟨_, pb g0 g1 d2 m2⟩)
    (by
      intro _ _ _ _ _ g0 g1 g2 g3
      obtain ⟨d2, m2⟩ := g2
      exact ⟨_, px g0 g1 d2 g3 m2⟩)
    (by
      intro _ _ _ _ _ g0 g1 g2 g3
      obtain ⟨d2, m2⟩ := g2
      exact ⟨_, po g0 g1 d2 g3 m2⟩)
    (by
      intro _ _ _ g0 g1
      exact ⟨_, nb g0 g1 ⟩)
    (by
      intro _ _ _ g0 g1
      exact ⟨_, nk g0 g1 ⟩)
    (by
      intro _ _ _ g0 g1 g2
      exact ⟨_, wb g0 g1 g2 ⟩)
    (by
      intro _ _ _ g0 g1 g2
      exact ⟨_, wk g0 g1 g2 ⟩)
    (by
      intro _ _ _ g0 g1 g2 g3
      exact ⟨_, el g0 g1 g2 g3 ⟩)
  exact g
/-- what is known of tokens -/
def zTok (len : Nat) (tk st nx nu : Nat → Nat) : Prop := ∀ p, p ≤ len → p ≤ st p ∧ st p ≤ len ∧ (tk p ≠ 0 → st p < nx p) ∧ nx p ≤ len ∧ tk p ≤ 29 ∧ nu p ≤ 10000 ∧ st p ≤ nx p
section TXP
variable {tk st nx nu : Nat → Nat} {w len : Nat}
theorem ztlv_n0 {k L : Nat} (h : ztlv k = L) (hL : L ≤ 4) : k ≠ 0 := by
  intro q
  subst q
  have : ztlv 0 = 9 := rfl
  omega
theorem zTok_s (h : zTok len tk st nx nu) {p : Nat} (hp : p ≤ len) (hk : tk p ≠ 0) : st p + 1 ≤ st (nx p) ∧ nx p ≤ len := by
  have a := h p hp
  have b := h (nx p) a.2.2.2.1
  have := a.2.2.1 hk
  omega
theorem zDv_len (h : zTok len tk st nx nu) {L dp p : Nat} {c : List (Nat × Nat)} {o : zO} (D : zDv tk st nx nu w L dp p c o) : ∀ p1 c1, o = .ok p1 c1 → p ≤ len → c1.length + st p ≤ c.length + st p1 ∧ p1 ≤ len := by
  induction D using zDv.ind with
  | jb => intro p1 c1 e; cases e
  | jo _ _ _ i1 i2 =>
    intro p1 c1 e hp
    have a := i1 _ _ rfl hp
    have b := i2 _ _ e a.2
    omega
  | ls => intro p1 c1 e hp; cases e; omega
  | lb => intro p1 c1 e; cases e
  | lo hL hl _ _ i1 i2 =>
    intro p1 c1 e hp
    have s := zTok_s h hp (ztlv_n0 hl (by unfold zJl at hL; omega))
    have a := i1 _ _ rfl s.2
    have b := i2 _ _ e a.2
    simp only [List.length_append, List.length_cons, List.length_nil] at b
    omega
  | n8 => intro p1 c1 e; cases e
  | @nt dp p c o hk _ D i1 =>
    intro p1 c1 e hp
    have s := zTok_s h hp (by omega)
    cases o using zO.cs with
    | bad f a => cases e
    | ok q1 d1 =>
      have a := i1 _ _ rfl s.2
      cases e
      simp only [List.length_append, List.length_cons, List.length_nil]
      omega
  | ab => intro p1 c1 e; cases e
  | ax => intro p1 c1 e; cases e
  | @ao dp p q c d o hk _ hl _ i1 i2 =>
    intro p1 c1 e hp
    have a := i1 _ _ rfl hp
    have s := zTok_s h a.2 (ztlv_n0 hl (by omega))
    cases o using zO.cs with
    | bad f a => cases e
    | ok q1 d1 =>
      have b := i2 _ _ rfl s.2
      cases e
      simp only [List.length_append, List.length_cons, List.length_nil]
      omega
  | m8 => intro p1 c1 e; cases e
  | @mo dp p c o hk _ D i1 =>
    intro p1 c1 e hp
    have s := zTok_s h hp (by omega)
    cases o using zO.cs with
    | bad f a => cases e
    | ok q1 d1 =>
      have a := i1 _ _ rfl s.2
      cases e
      simp only [List.length_append, List.length_cons, List.length_nil]
      omega
  | pb => intro p1 c1 e; cases e
  | px => intro p1 c1 e; cases e
  | po hk _ _ hk2 i1 =>
    intro p1 c1 e hp
    have s := zTok_s h hp (by omega)
    have a := i1 _ _ rfl s.2
    have s2 := zTok_s h a.2 (by omega)
    cases e
    omega
  | nb => intro p1 c1 e; cases e
  | nk hk _ =>
    intro p1 c1 e hp
    have s := zTok_s h hp (by omega)
    cases e
    simp only [List.length_append, List.length_cons, List.length_nil]
    omega
  | wb => intro p1 c1 e; cases e
  | wk hk _ _ =>
    intro p1 c1 e hp
    have s := zTok_s h hp (by omega)
    cases e
    simp only [List.length_append, List.length_cons, List.length_nil]
    omega
  | el => intro p1 c1 e; cases e
/-- what follows a part isn't one of its operators -/
def zXe (L k0 k1 : Nat) : Prop := match L with
  | 4 => ztlv k1 ≠ 4
  | 14 => ztlv k1 ≠ 4
  | 3 => ztlv k1 ≠ 3 ∧ ztlv k1 ≠ 4
  | 13 => ztlv k0 ≠ 4 → ztlv k1 ≠ 3 ∧ ztlv k1 ≠ 4
  | 1 => ztlv k1 ≠ 1
  | 11 => ztlv k1 ≠ 1
  | 0 => ztlv k1 ≠ 0 ∧ ztlv k1 ≠ 1
  | 10 => ztlv k0 ≠ 1 → ztlv k1 ≠ 0 ∧ ztlv k1 ≠ 1
  | _ => True
theorem zDv_ex {L dp p : Nat} {c : List (Nat × Nat)} {o : zO} (D : zDv tk st nx nu w L dp p c o) : ∀ p1 c1, o = .ok p1 c1 → zXe L (tk p) (tk p1) := by
  induction D using zDv.ind with
  | jb => intro p1 c1 e; cases e
  | jo hL _ _ i1 i2 =>
    intro p1 c1 e
    have a := i1 _ _ rfl
    have b := i2 _ _ e
    rcases hL with rfl | rfl | rfl | rfl
    · exact b a
    · exact b
    · exact b a
    · exact b
  | ls hL hl =>
    intro p1 c1 e
    cases e
    rcases hL with rfl | rfl | rfl | rfl
    · exact fun q => ⟨hl, q⟩
    · exact hl
    · exact fun q => ⟨hl, q⟩
    · exact hl
  | lb => intro p1 c1 e; cases e
  | lo hL hl _ _ i1 i2 =>
    intro p1 c1 e
    have a := i1 _ _ rfl
    have b := i2 _ _ e
    rcases hL with rfl | rfl | rfl | rfl
    · exact fun _ => b a
    · exact b
    · exact fun _ => b a
    · exact b
  | n8 => intro p1 c1 e; cases e
  | nt => intro p1 c1 e; exact trivial
  | ab => intro p1 c1 e; cases e
  | ax => intro p1 c1 e; cases e
  | ao => intro p1 c1 e; exact trivial
  | m8 => intro p1 c1 e; cases e
  | mo => intro p1 c1 e; exact trivial
  | pb => intro p1 c1 e; cases e
  | px => intro p1 c1 e; cases e
  | po => intro p1 c1 e; exact trivial
  | nb => intro p1 c1 e; cases e
  | nk => intro p1 c1 e; exact trivial
  | wb => intro p1 c1 e; cases e
  | wk => intro p1 c1 e; exact trivial
  | el => intro p1 c1 e; cases e
/-- types -/
theorem zty_app {m : Nat} : ∀ (a b : List (Nat × Nat)) (s s1 : List Bool), zty m a s = some s1 → zty m (a ++ b) s = zty m b s1 := by
  intro a
  induction a with
  | nil => intro b s s1 h; cases h; rfl
  | cons t a ih =>
    intro b s s1 h
    unfold zty at h
    show (match zty1 m t s with
      | some s' => zty m (a ++ b) s'
      | none => none) = zty m b s1
    cases e : zty1 m t s with
    | none => rw [e] at h; cases h
    | some s' => rw [e] at h; exact ih b s' s1 h
theorem zty_one {m : Nat} {t : Nat × Nat} {s s1 : List Bool} (h : zty1 m t s = some s1) : zty m [t] s = some s1 := by
  unfold zty
  rw [h]
  rfl
def zbL (L : Nat) : Bool := decide (L ≤ 2)
theorem zty_op {m L k : Nat} {s : List Bool} (hL : zJl L) (hk : ztlv k = L) : zty m [(k, 0)] (zbL (L + 1) :: zbL (L + 1) :: s) = some (zbL L :: s) := by
  apply zty_one
  unfold ztlv at hk
  unfold zJl at hL
  split at hk <;> first | (exfalso; omega) | (subst hk; rfl)
theorem zty_cmp {m k : Nat} {s : List Bool} (hk : ztlv k = 2) : zty m [(k, 0)] (false :: false :: s) = some (true :: s) := by
  apply zty_one
  unfold ztlv at hk
  split at hk <;> first | (exfalso; omega) | rfl
theorem zty_not {m : Nat} {s : List Bool} : zty m [(16, 0)] (true :: s) = some (true :: s) := by
  apply zty_one
  cases s with
  | nil => rfl
  | cons x s => cases x <;> rfl
theorem zty_neg {m : Nat} {s : List Bool} : zty m [(30, 0)] (false :: s) = some (false :: s) := by
  apply zty_one
  cases s with
  | nil => rfl
  | cons x s => cases x <;> rfl
def zTyL (m L dp : Nat) (e : List (Nat × Nat)) : Prop := (L ≤ 5 → ∀ s : List Bool, s.length + 16 + (5 - L) ≤ 31 + 2 * dp → zty m e s = some (zbL L :: s)) ∧ (10 ≤ L → ∀ s : List Bool, s.length + 16 + (15 - L) ≤ 31 + 2 * dp → zty m e (zbL (L - 10) :: s) = some (zbL (L - 10) :: s))
theorem zDv_ty {L dp p : Nat} {c : List (Nat × Nat)} {o : zO} (D : zDv tk st nx nu w L dp p c o) : ∀ p1 c1, o = .ok p1 c1 → dp ≤ 8 → ∃ e, c1 = c ++ e ∧ zTyL (zmsk w) L dp e := by
  induction D using zDv.ind with
  | jb => intro p1 c1 e; cases e
  | @jo L dp p q c d o hL _ _ i1 i2 =>
    intro p1 c1 e hd
    obtain ⟨e1, rfl, t1, -⟩ := i1 _ _ rfl hd
    obtain ⟨e2, rfl, -, t2⟩ := i2 _ _ e hd
    refine ⟨e1 ++ e2, List.append_assoc _ _ _, fun h5 s hs => ?_, fun h5 => ?_⟩
    · have hL5 : L + 1 ≤ 5 := by unfold zJl at hL; omega
      have a := t1 hL5 s (by omega)
      rw [zty_app _ _ _ _ a]
      have hb : zbL (L + 1) = zbL L ∨ L = 2 := by
        unfold zJl at hL
        rcases hL with q | q | q | q <;> (subst q; first | exact Or.inl rfl | exact Or.inr rfl)
      rcases hb with hb | hb
      · have b := t2 (by omega) s (by omega)
        rw [show 10 + L - 10 = L by omega] at b
        rw [hb]
        exact b
      · unfold zJl at hL; omega
    · unfold zJl at hL; omega
  | ls hL hl =>
    intro p1 c1 e hd
    cases e
    refine ⟨[], (List.append_nil _).symm, fun h5 => ?_, fun h5 s hs => rfl⟩
    omega
  | lb => intro p1 c1 e; cases e
  | @lo L dp p q c d o hL hl _ _ i1 i2 =>
    intro p1 c1 e hd
    obtain ⟨e1, rfl, t1, -⟩ := i1 _ _ rfl hd
    obtain ⟨e2, rfl, -, t2⟩ := i2 _ _ e hd
    refine ⟨e1 ++ ([(tk p, 0)] ++ e2), by simp only [List.append_assoc], fun h5 => ?_, fun h5 s hs => ?_⟩
    · omega
    · have hL5 : L + 1 ≤ 5 := by unfold zJl at hL; omega
      rw [show 10 + L - 10 = L by omega]
      have hb : zbL (L + 1) = zbL L := by
        unfold zJl at hL
        rcases hL with q | q | q | q <;> (subst q; rfl)
      have a := t1 hL5 (zbL L :: s) (by simp only [List.length_cons]; omega)
      rw [zty_app _ _ _ _ a]
      have o := zty_op (m := zmsk w) (s := s) hL hl
      rw [hb] at o ⊢
      rw [zty_app _ _ _ _ o]
      have b := t2 (by omega) s (by omega)
      rw [show 10 + L - 10 = L by omega] at b
      exact b
  | n8 => intro p1 c1 e; cases e
  | @nt dp p c o hk h8 D i1 =>
    intro p1 c1 e hd
    cases o using zO.cs with
    | bad f a => cases e
    | ok q1 d1 =>
      obtain ⟨e1, rfl, t1, -⟩ := i1 _ _ rfl (by omega)
      cases e
      refine ⟨e1 ++ [(16, 0)], List.append_assoc _ _ _, fun h5 s hs => ?_, fun h5 => ?_⟩
      · have a := t1 (by omega) s (by omega)
        rw [zty_app _ _ _ _ a]
        exact zty_not
      · omega
  | ab => intro p1 c1 e; cases e
  | ax => intro p1 c1 e; cases e
  | @ao dp p q c d o hk _ hl _ i1 i2 =>
    intro p1 c1 e hd
    cases o using zO.cs with
    | bad f a => cases e
    | ok q1 d1 =>
      obtain ⟨e1, rfl, t1, -⟩ := i1 _ _ rfl hd
      obtain ⟨e2, rfl, t2, -⟩ := i2 _ _ rfl hd
      cases e
      refine ⟨e1 ++ (e2 ++ [(tk q, 0)]), by simp only [List.append_assoc], fun h5 s hs => ?_, fun h5 => ?_⟩
      · have a := t1 (by omega) s (by omega)
        rw [zty_app _ _ _ _ a]
        have b := t2 (by omega) (zbL 3 :: s) (by simp only [List.length_cons]; omega)
        rw [zty_app _ _ _ _ b]
        exact zty_cmp hl
      · omega
  | m8 => intro p1 c1 e; cases e
  | @mo dp p c o hk h8 D i1 =>
    intro p1 c1 e hd
    cases o using zO.cs with
    | bad f a => cases e
    | ok q1 d1 =>
      obtain ⟨e1, rfl, t1, -⟩ := i1 _ _ rfl (by omega)
      cases e
      refine ⟨e1 ++ [(30, 0)], List.append_assoc _ _ _, fun h5 s hs => ?_, fun h5 => ?_⟩
      · have a := t1 (by omega) s (by omega)
        rw [zty_app _ _ _ _ a]
        exact zty_neg
      · omega
  | pb => intro p1 c1 e; cases e
  | px => intro p1 c1 e; cases e
  | po hk h8 _ hk2 i1 =>
    intro p1 c1 e hd
    obtain ⟨e1, rfl, t1, -⟩ := i1 _ _ rfl (by omega)
    cases e
    exact ⟨e1, rfl, fun h5 s hs => t1 (by omega) s (by omega), fun h5 => by omega⟩
  | nb => intro p1 c1 e; cases e
  | nk hk h9 =>
    intro p1 c1 e hd
    cases e
    refine ⟨_, rfl, fun h5 s hs => ?_, fun h5 => by omega⟩
    apply zty_one
    unfold zty1
    rw [if_pos rfl, if_pos ⟨h9, by omega⟩]
    rfl
  | wb => intro p1 c1 e; cases e
  | wk h1 h2 h3 =>
    intro p1 c1 e hd
    cases e
    refine ⟨_, rfl, fun h5 s hs => ?_, fun h5 => by omega⟩
    apply zty_one
    unfold zty1
    rw [if_neg (by simp only; omega), if_pos ⟨h1, h2⟩, if_pos ⟨h3, rfl, by omega⟩]
    rfl
  | el => intro p1 c1 e; cases e
end TXP
