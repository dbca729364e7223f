/-! ===== tied ===== -/
theorem zld_s {rc : Nat → Nat → Nat} {al : Nat → Nat} {f d : Nat} (h : f ≤ d) : zld rc al f (d + 1 - f) = al (d + 1) &&& rc (d + 1) (zld rc al f (d - f)) := by
  rw [show d + 1 - f = (d - f) + 1 by omega]
  show al (f + (d - f) + 1) &&& rc (f + (d - f) + 1) _ = _
  rw [show f + (d - f) + 1 = d + 1 by omega]
theorem zbk_s {rc : Nat → Nat → Nat} {al : Nat → Nat} {g d : Nat} (h : d < g) : zbk rc al g (g - d) = al d &&& rc (d + 1) (zbk rc al g (g - (d + 1))) := by
  rw [show g - d = (g - (d + 1)) + 1 by omega]
  show al (g - (g - (d + 1) + 1)) &&& rc (g - (g - (d + 1))) _ = _
  rw [show g - (g - (d + 1) + 1) = d by omega, show g - (g - (d + 1)) = d + 1 by omega]
def zts (rc : Nat → Nat → Nat) (a : Nat → Nat) (s0 fr : Nat) : Nat → Nat
  | 0 => s0
  | j + 1 => a (fr + j + 1) &&& rc (fr + j + 1) (zts rc a s0 fr j)
def ztc (rc : Nat → Nat → Nat) (a : Nat → Nat) (s0 fr : Nat) : Nat → Nat
  | 0 => s0
  | j + 1 => rc (fr + j + 1) (ztc rc a s0 fr j) &&& a (fr + j + 1)
theorem ztie {np pc : Nat} {D : Nat → Nat → Nat → Nat} (hD : ∀ d p q, D d p q = D d q p) {al1 al2 : Nat → Nat} {f1 g1 f2 g2 fr to : Nat} (h1 : f1 ≤ fr) (h2 : f2 ≤ fr) (t1 : to ≤ g1) (t2 : to ≤ g2) {R : Nat → Nat → Nat} (hR : R = fun d S => zrc np pc (D d) S) {L1 L2 B1 B2 : Nat → Nat} (e1 : ∀ d, L1 d = zld R al1 f1 (d - f1)) (e2 : ∀ d, L2 d = zld R al2 f2 (d - f2)) (e3 : ∀ d, B1 d = zbk R al1 g1 (g1 - d)) (e4 : ∀ d, B2 d = zbk R al2 g2 (g2 - d)) (j : Nat) (hj : fr + j ≤ to) (p : Nat) :
    ((zts R (fun d => al2 d &&& al1 d) (L2 fr &&& L1 fr) fr j).testBit p = true → (L1 (fr + j)).testBit p = true ∧ (L2 (fr + j)).testBit p = true) ∧
    (((zts R (fun d => al2 d &&& al1 d) (L2 fr &&& L1 fr) fr j).testBit p = true ∧ (B1 (fr + j)).testBit p = true ∧ (B2 (fr + j)).testBit p = true) ↔ (ztc R (fun d => (L1 d &&& B1 d) &&& (L2 d &&& B2 d)) ((L1 fr &&& B1 fr) &&& (L2 fr &&& B2 fr)) fr j).testBit p = true) := by
  induction j generalizing p with
  | zero =>
    show ((L2 fr &&& L1 fr).testBit p = true → (L1 (fr + 0)).testBit p = true ∧ (L2 (fr + 0)).testBit p = true) ∧ (((L2 fr &&& L1 fr).testBit p = true ∧ (B1 (fr + 0)).testBit p = true ∧ (B2 (fr + 0)).testBit p = true) ↔ ((L1 fr &&& B1 fr) &&& (L2 fr &&& B2 fr)).testBit p = true)
    rw [Nat.add_zero]
    simp only [Nat.testBit_and, Bool.and_eq_true]
    exact ⟨fun q => ⟨q.2, q.1⟩, fun q => ⟨⟨q.1.2, q.2.1⟩, q.1.1, q.2.2⟩, fun q => ⟨⟨q.2.1, q.1.1⟩, q.1.2, q.2.2⟩⟩
  | succ j ih =>
    have ih := fun p => ih (by omega) p
    have l1 : L1 (fr + j + 1) = al1 (fr + j + 1) &&& R (fr + j + 1) (L1 (fr + j)) := by rw [e1, e1]; exact zld_s (by omega)
    have l2 : L2 (fr + j + 1) = al2 (fr + j + 1) &&& R (fr + j + 1) (L2 (fr + j)) := by rw [e2, e2]; exact zld_s (by omega)
    have b1 : B1 (fr + j) = al1 (fr + j) &&& R (fr + j + 1) (B1 (fr + j + 1)) := by rw [e3, e3]; exact zbk_s (by omega)
    have b2 : B2 (fr + j) = al2 (fr + j) &&& R (fr + j + 1) (B2 (fr + j + 1)) := by rw [e4, e4]; exact zbk_s (by omega)
    have s1 : ∀ p, (L1 (fr + j)).testBit p = true → (al1 (fr + j)).testBit p = true := fun p q => by
      rw [e1] at q
      have := zld_sub R al1 f1 (fr + j - f1) p q
      rw [show f1 + (fr + j - f1) = fr + j by omega] at this
      exact this
    have s2 : ∀ p, (L2 (fr + j)).testBit p = true → (al2 (fr + j)).testBit p = true := fun p q => by
      rw [e2] at q
      have := zld_sub R al2 f2 (fr + j - f2) p q
      rw [show f2 + (fr + j - f2) = fr + j by omega] at this
      exact this
    have bR : ∀ S p, (R (fr + j + 1) S).testBit p = true ↔ p < np ∧ ∃ q, q < np ∧ S.testBit q = true ∧ D (fr + j + 1) q p ≤ pc := by
      intro S p
      rw [hR]
      exact zrc_bit
    show ((((al2 (fr + j + 1) &&& al1 (fr + j + 1)) &&& R (fr + j + 1) (zts R (fun d => al2 d &&& al1 d) (L2 fr &&& L1 fr) fr j)).testBit p = true → (L1 (fr + j + 1)).testBit p = true ∧ (L2 (fr + j + 1)).testBit p = true) ∧ ((((al2 (fr + j + 1) &&& al1 (fr + j + 1)) &&& R (fr + j + 1) (zts R (fun d => al2 d &&& al1 d) (L2 fr &&& L1 fr) fr j)).testBit p = true ∧ (B1 (fr + j + 1)).testBit p = true ∧ (B2 (fr + j + 1)).testBit p = true) ↔ (R (fr + j + 1) (ztc R (fun d => (L1 d &&& B1 d) &&& (L2 d &&& B2 d)) ((L1 fr &&& B1 fr) &&& (L2 fr &&& B2 fr)) fr j) &&& ((L1 (fr + j + 1) &&& B1 (fr + j + 1)) &&& (L2 (fr + j + 1) &&& B2 (fr + j + 1)))).testBit p = true))
    have sub : ((al2 (fr + j + 1) &&& al1 (fr + j + 1)) &&& R (fr + j + 1) (zts R (fun d => al2 d &&& al1 d) (L2 fr &&& L1 fr) fr j)).testBit p = true → (L1 (fr + j + 1)).testBit p = true ∧ (L2 (fr + j + 1)).testBit p = true := by
      intro w
      simp only [Nat.testBit_and, Bool.and_eq_true, bR] at w
      obtain ⟨⟨w1, w2⟩, w3, q, w4, w5, w6⟩ := w
      obtain ⟨i1, -⟩ := ih q
      have i2 := i1 w5
      rw [l1, l2]
      simp only [Nat.testBit_and, Bool.and_eq_true, bR]
      exact ⟨⟨w2, w3, q, w4, i2.1, w6⟩, w1, w3, q, w4, i2.2, w6⟩
    refine ⟨sub, fun w => ?_, fun w => ?_⟩
    · have w0 := sub w.1
      obtain ⟨wa, wb, wc⟩ := w
      simp only [Nat.testBit_and, Bool.and_eq_true, bR] at wa
      obtain ⟨⟨w1, w2⟩, w3, q, w4, w5, w6⟩ := wa
      simp only [Nat.testBit_and, Bool.and_eq_true, bR]
      obtain ⟨i1, i2⟩ := ih q
      have i3 := i1 w5
      refine ⟨⟨w3, q, w4, i2.mp ⟨w5, ?_, ?_⟩, w6⟩, ⟨w0.1, wb⟩, w0.2, wc⟩
      · rw [b1]
        simp only [Nat.testBit_and, Bool.and_eq_true, bR]
        exact ⟨s1 q i3.1, w4, p, w3, wb, by rw [hD]; exact w6⟩
      · rw [b2]
        simp only [Nat.testBit_and, Bool.and_eq_true, bR]
        exact ⟨s2 q i3.2, w4, p, w3, wc, by rw [hD]; exact w6⟩
    · simp only [Nat.testBit_and, Bool.and_eq_true, bR] at w
      obtain ⟨⟨w3, q, w4, w5, w6⟩, ⟨wa, wb⟩, wc, wd⟩ := w
      obtain ⟨i1, i2⟩ := ih q
      have i3 := i2.mpr w5
      refine ⟨?_, wb, wd⟩
      rw [l1] at wa
      rw [l2] at wc
      simp only [Nat.testBit_and, Bool.and_eq_true] at wa wc
      simp only [Nat.testBit_and, Bool.and_eq_true, bR]
      exact ⟨⟨wc.1, wa.1⟩, w3, q, w4, i3.1, w6⟩
theorem zne0_iff {a b : Nat} (h : ∀ p, a.testBit p = true ↔ b.testBit p = true) : a = b := Nat.eq_of_testBit_eq (fun p => zbool (h p))
theorem ztc_lt {np pc : Nat} {D : Nat → Nat → Nat → Nat} {a : Nat → Nat} {s0 fr : Nat} (h : s0 < 2 ^ np) (j : Nat) : ztc (fun d S => zrc np pc (D d) S) a s0 fr j < 2 ^ np := by
  cases j with
  | zero => exact h
  | succ j => exact zand_lt (zrc_lt _ _ _ _)
theorem zts_lt {np pc : Nat} {D : Nat → Nat → Nat → Nat} {a : Nat → Nat} {s0 fr : Nat} (h : s0 < 2 ^ np) (j : Nat) : zts (fun d S => zrc np pc (D d) S) a s0 fr j < 2 ^ np := by
  cases j with
  | zero => exact h
  | succ j => exact zand_lt' (zrc_lt _ _ _ _)
/-- the class's facts, with the last day that the reference takes -/
theorem zJc_n {M M1 : Nat → Nat → Int32} {n n' : Nat → Nat} {bt k : Nat} (h : zIn M n n') (j : zJc (M 72) M M1 bt k 59 (n 0) (n 1) (n 2) (n 3) (n 5) (zDD (M 72) n)) : M1 41 1 = zfI (zfi (M 72) bt k 60 (n 5)) ∧ M1 41 2 = zlI (zla (M 72) bt k 60 (n 5)) ∧ M1 41 3 = zbi (zpos (M 72) bt k 60 (n 0) (n 5) (n 3) (zDD (M 72) n)) ∧ (∀ d, d < 60 → M1 43 d = nI (zmy (M 72) bt k 60 (n 0) (n 5) (n 3) (zDD (M 72) n) d)) ∧ (∀ d, d < 60 → M1 42 d = zav (M 72) (n 0) bt k 60 (n 5) d) ∧ zKx (M 72) M1 (n 0) (n 1) (n 2) (n 3) (n 5) (zDD (M 72) n) := by
  have hSo := (zIn_sn h).2.2.2.2
  obtain ⟨u1, u2, u3, u4⟩ := zu_same (bt := bt) (k := k) hSo (show 59 ≤ 59 by omega) (show 59 ≤ 60 by omega)
  have u6 := zpos_u (bt := bt) (k := k) (pc := n 3) (D := zDD (M 72) n) hSo (show 59 ≤ 59 by omega) (show 59 ≤ 60 by omega)
  obtain ⟨-, -, -, -, y1, y2, y5, hX, y3, y4⟩ := j
  rw [u3] at y1
  rw [u4] at y2
  rw [u6] at y3
  refine ⟨y1, y2, y3, fun d hd => ?_, fun d hd => ?_, hX⟩
  · rw [y4 d hd, zpl_my hX.2.2.2.2.1 hX.2.2.2.2.2.2.2.2.1, zmy_u hSo (by omega) (show 59 ≤ 60 by omega)]
  · rw [y5 d hd]
    unfold zav
    rw [u1, u2]
theorem zJcO_n {M M1 : Nat → Nat → Int32} {n n' : Nat → Nat} {bt k : Nat} (h : zIn M n n') (j : zJcO (M 72) M M1 bt k 59 (n 0) (n 1) (n 2) (n 3) (n 5) (zDD (M 72) n)) : M1 46 1 = zfI (zfi (M 72) bt k 60 (n 5)) ∧ M1 46 2 = zlI (zla (M 72) bt k 60 (n 5)) ∧ M1 46 3 = zbi (zpos (M 72) bt k 60 (n 0) (n 5) (n 3) (zDD (M 72) n)) ∧ (∀ d, d < 60 → M1 48 d = nI (zmy (M 72) bt k 60 (n 0) (n 5) (n 3) (zDD (M 72) n) d)) ∧ (∀ d, d < 60 → M1 47 d = zav (M 72) (n 0) bt k 60 (n 5) d) ∧ zKx (M 72) M1 (n 0) (n 1) (n 2) (n 3) (n 5) (zDD (M 72) n) := by
  have hSo := (zIn_sn h).2.2.2.2
  obtain ⟨u1, u2, u3, u4⟩ := zu_same (bt := bt) (k := k) hSo (show 59 ≤ 59 by omega) (show 59 ≤ 60 by omega)
  have u6 := zpos_u (bt := bt) (k := k) (pc := n 3) (D := zDD (M 72) n) hSo (show 59 ≤ 59 by omega) (show 59 ≤ 60 by omega)
  obtain ⟨-, -, -, -, y1, y2, y5, hX, y3, y4⟩ := j
  rw [u3] at y1
  rw [u4] at y2
  rw [u6] at y3
  refine ⟨y1, y2, y3, fun d hd => ?_, fun d hd => ?_, hX⟩
  · rw [y4 d hd, zpl_my hX.2.2.2.2.1 hX.2.2.2.2.2.2.2.2.1, zmy_u hSo (by omega) (show 59 ≤ 60 by omega)]
  · rw [y5 d hd]
    unfold zav
    rw [u1, u2]
/-- first and last day of a boat that has journeys -/
theorem zpos_fg {A : Nat → Int32} {bt k u np m pc : Nat} {D : Nat → Nat → Nat → Nat} (hS : zSok A np m) (hp : zpos A bt k u np m pc D = true) : zfi A bt k u m < 60 ∧ zfi A bt k u m ≤ zla A bt k u m - 1 ∧ zla A bt k u m - 1 < 60 ∧ 1 ≤ zla A bt k u m ∧ zlI (zla A bt k u m) = nI (zla A bt k u m - 1) := by
  have fl := zfl (bt := bt) (k := k) (u := u) hS
  have h1 := (zpos_iff.mp hp).1
  have h2 := (fl.2.2.2.1 h1).1
  have h3 := fl.2.1
  refine ⟨h1, by omega, by omega, by omega, ?_⟩
  unfold zlI
  rw [if_neg (by omega)]
section TD
variable {d : Nat} {F : Option Value → zS → Prop} {X : zX} {b : Nat × Nat} {K : Nat → Nat → Option Nat} {B : Nat → Nat → Int64} {M : Nat → Nat → Int32}
theorem lp_tiedC {A : Nat → Int32} {np nw ns pc m o1 o2 k fr to : Nat} {D : Nat → Nat → Nat → Nat} {S1 S2 : Nat → Nat} (hK : zKok K) (hX : zKx A M np nw ns pc m D) (hS1 : ∀ e, e < 60 → M 43 e = nI (S1 e)) (hS2 : ∀ e, e < 60 → M 48 e = nI (S2 e)) (h5 : to < 60) (h0 : S1 fr &&& S2 fr < 2 ^ np) (hfr : fr ≤ to) (kk : F (some (.int (if ztc (fun d S => zrc np pc (D d) S) (fun d => S1 d &&& S2 d) (S1 fr &&& S2 fr) fr (to - fr) = 0 then 0 else 1))) (X, b, zLay, K, B, M)) : ∀ (q j : Nat), fr + j + q = to → zEx (zCall (d + 29)) 9 false 1 zc_Boats_tied F 124 [.ref 0, .int (nI o1), .int (nI o2), .int (nI k), .int (nI fr), .int (nI to), .int (nI (ztc (fun d S => zrc np pc (D d) S) (fun d => S1 d &&& S2 d) (S1 fr &&& S2 fr) fr j)), .int (nI (fr + j + 1))] [] (X, b, zLay, K, B, M) := by
  have hb : np ≤ 10 := hX.1.2.2.2.2.1.1
  have lt := fun j => zp1024 (ztc_lt (np := np) (pc := pc) (D := D) (a := fun d => S1 d &&& S2 d) (fr := fr) h0 j) hb
  intro q
  induction q with
  | zero =>
    intro j hj
    have hj : j = to - fr := by omega
    subst hj
    refine zb_Boats_tiedP_124 hK o1 o2 k fr to _ _ hX hS1 hS2 h5 (lt _) (by omega) (fun _ e => ?_) (fun _ e => ?_) (fun e => absurd e (by omega))
    · rw [if_pos e] at kk; exact kk
    · rw [if_neg e] at kk; exact kk
  | succ q ih =>
    intro j hj
    exact zb_Boats_tiedP_124 hK o1 o2 k fr to _ _ hX hS1 hS2 h5 (lt _) (by omega) (fun e _ => absurd e (by omega)) (fun e _ => absurd e (by omega)) (fun _ => ih (j + 1) (by omega))
theorem lp_tiedM {np pc m o1 o2 k fr to : Nat} {D : Nat → Nat → Nat → Nat} {A1 A2 B1 B2 : Nat → Nat} {s0 : Nat} (hK : zKok K) (hb : np ≤ 10) (hR : zRf87 M np m pc D) (hA2 : ∀ e, fr ≤ e ∧ e ≤ to → M 88 e = nI (A2 e)) (hA1 : ∀ e, fr ≤ e ∧ e ≤ to → M 94 e = nI (A1 e)) (hB2 : ∀ e, fr ≤ e ∧ e ≤ to → M 90 e = nI (B2 e)) (hB1 : ∀ e, fr ≤ e ∧ e ≤ to → M 96 e = nI (B1 e)) (h5 : to < 60) (h0 : s0 < 2 ^ np) (hfr : fr ≤ to) (kk : F (some (.int (if zts (fun d S => zrc np pc (D d) S) (fun d => A2 d &&& A1 d) s0 fr (to - fr) &&& B2 to &&& B1 to = 0 then 0 else 1))) (X, b, zLay, K, B, M)) : ∀ (q j : Nat), fr + j + q = to → zEx (zCall (d + 29)) 10 false 1 zc_Model_tied F 142 [.ref 71, .int (nI o1), .int (nI o2), .int (nI k), .int (nI fr), .int (nI to), .int (nI (zts (fun d S => zrc np pc (D d) S) (fun d => A2 d &&& A1 d) s0 fr j)), .int (nI (fr + j + 1))] [] (X, b, zLay, K, B, M) := by
  have lt := fun j => zp1024 (zts_lt (np := np) (pc := pc) (D := D) (a := fun d => A2 d &&& A1 d) (fr := fr) h0 j) hb
  intro q
  induction q with
  | zero =>
    intro j hj
    have hj : j = to - fr := by omega
    subst hj
    refine zb_Model_tiedQ_142 (lo := fr) (hi := to) hK o1 o2 k fr to _ _ hR hA2 hA1 hB2 hB1 h5 rfl (zand_lt10 (zand_lt10 (lt _))) (lt _) (by omega) (fun _ e => ?_) (fun _ e => ?_) (fun e => absurd e (by omega))
    · rw [if_neg e] at kk; exact kk
    · rw [if_pos e] at kk; exact kk
  | succ q ih =>
    intro j hj
    exact zb_Model_tiedQ_142 (lo := fr) (hi := to) hK o1 o2 k fr to _ _ hR hA2 hA1 hB2 hB1 h5 rfl (zand_lt10 (zand_lt10 (lt _))) (lt _) (by omega) (fun e _ => absurd e (by omega)) (fun e _ => absurd e (by omega)) (fun _ => ih (j + 1) (by omega))
theorem lp_keep {M0 : Nat → Nat → Int32} (hK : zKok K) (kk : ∀ M, (∀ c, c ≠ 94 → c ≠ 95 → c ≠ 96 → M c = M0 c) → (∀ i, i < 60 → M 94 i = M0 88 i ∧ M 95 i = M0 89 i ∧ M 96 i = M0 90 i) → F none (X, b, zLay, K, B, M)) : ∀ (m j : Nat) (M : Nat → Nat → Int32), j + m = 60 → (∀ c, c ≠ 94 → c ≠ 95 → c ≠ 96 → M c = M0 c) → (∀ i, i < j → M 94 i = M0 88 i ∧ M 95 i = M0 89 i ∧ M 96 i = M0 90 i) → zEx (zCall (d + 1)) 10 false 0 zc_Model_keepsOther F 2 [.ref 71, .int (nI j)] [] (X, b, zLay, K, B, M) := by
  intro m
  induction m with
  | zero =>
    intro j M hj h1 h2
    have hj : j = 60 := by omega
    subst hj
    exact zb_Model_keepsOther_2 hK 60 (by omega) (fun _ => kk M h1 h2) (fun e => absurd e (by omega))
  | succ m ih =>
    intro j M hj h1 h2
    refine zb_Model_keepsOther_2 hK j (by omega) (fun e => absurd e (by omega)) (fun _ => ih (j + 1) _ (by omega) (fun c g1 g2 g3 => ?_) (fun i hi => ?_))
    · rw [zu_oc g3, zu_oc g2, zu_oc g1]; exact h1 c g1 g2 g3
    · rw [zu_oc (show (94 : Nat) ≠ 96 by decide), zu_oc (show (94 : Nat) ≠ 95 by decide), zu_at, zu_oc (show (95 : Nat) ≠ 96 by decide), zu_at, zu_at, zu_oc (show (95 : Nat) ≠ 94 by decide), zu_oc (show (96 : Nat) ≠ 95 by decide), zu_oc (show (96 : Nat) ≠ 94 by decide)]
      by_cases e : i = j
      · rw [if_pos e, if_pos e, if_pos e, e, h1 88 (by decide) (by decide) (by decide), h1 89 (by decide) (by decide) (by decide), h1 90 (by decide) (by decide) (by decide)]
        exact ⟨rfl, rfl, rfl⟩
      · rw [if_neg e, if_neg e, if_neg e]; exact h2 i (by omega)
theorem sp_keep (hK : zKok K) (kk : ∀ M', (∀ c, c ≠ 94 → c ≠ 95 → c ≠ 96 → M' c = M c) → (∀ i, i < 60 → M' 94 i = M 88 i ∧ M' 95 i = M 89 i ∧ M' 96 i = M 90 i) → F none (X, b, zLay, K, B, M')) : zCall (d + 2) zm_Model_keepsOther [.ref 71] (X, b, zLay, K, B, M) F := by
  refine zb_Model_keepsOther_0 ?_
  exact lp_keep hK kk 60 0 M (by omega) (fun _ _ _ _ => rfl) (fun i hi => absurd hi (Nat.not_lt_zero i))
end TD
