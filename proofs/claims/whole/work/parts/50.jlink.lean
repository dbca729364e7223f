/-! ===== journeys out of the invariant ===== -/
/-- miles as meant -/
def zDD (A : Nat → Int32) (n : Nat → Nat) : Nat → Nat → Nat → Nat := fun dd => zD (zrd A) (n 1) (n 2) dd
theorem zIn_sn {M : Nat → Nat → Int32} {n n' : Nat → Nat} (h : zIn M n n') : zSn (M 72) (n 0) (n 5) := by
  obtain ⟨⟨⟨c0, c1, c2, c3, c4, c5, c6, c7⟩, b0, b1, b2, b3, b4, b5, b6, b7⟩, -, -, -, -, ⟨r0, r1, r2, r5, r6⟩, -⟩ := h
  have g : ∀ i, i < n 5 → ∃ b p d t, b < n 4 ∧ p < n 0 ∧ d ≤ t ∧ t < 60 ∧ M 72 (100 + 4 * i) = nI b ∧ M 72 (101 + 4 * i) = nI p ∧ M 72 (102 + 4 * i) = nI d ∧ M 72 (103 + 4 * i) = nI t ∧ zsn (M 72) 0 i = b ∧ zsn (M 72) 1 i = p ∧ zsn (M 72) 2 i = d ∧ zsn (M 72) 3 i = t := by
    intro i hi
    obtain ⟨-, -, -, -, b, p, d, t, x1, x2, x3, x4, x5, x6, x7, x8⟩ := r5 i hi
    refine ⟨b, p, d, t, x1, x2, x3, x4, x5, x6, x7, x8, ?_, ?_, ?_, ?_⟩
    · show (M 72 (100 + 0 + 4 * i)).toNatClampNeg = b
      rw [show 100 + 0 + 4 * i = 100 + 4 * i by omega, x5, nI_clamp (by omega)]
    · show (M 72 (100 + 1 + 4 * i)).toNatClampNeg = p
      rw [show 100 + 1 + 4 * i = 101 + 4 * i by omega, x6, nI_clamp (by omega)]
    · show (M 72 (100 + 2 + 4 * i)).toNatClampNeg = d
      rw [show 100 + 2 + 4 * i = 102 + 4 * i by omega, x7, nI_clamp (by omega)]
    · show (M 72 (100 + 3 + 4 * i)).toNatClampNeg = t
      rw [show 100 + 3 + 4 * i = 103 + 4 * i by omega, x8, nI_clamp (by omega)]
  refine ⟨c0, c5, ⟨b0, b5⟩, fun i hi => ?_, fun i hi => ?_⟩
  · obtain ⟨b, p, d, t, x1, x2, x3, x4, x5, x6, x7, x8, y1, y2, y3, y4⟩ := g i hi
    rw [y1, y2, y3, y4]
    exact ⟨x5, x6, x7, x8⟩
  · obtain ⟨b, p, d, t, x1, x2, x3, x4, x5, x6, x7, x8, y1, y2, y3, y4⟩ := g i hi
    rw [y1, y2, y3, y4]
    exact ⟨x2, by omega, x4, by omega⟩
theorem zcd_sc {M M1 : Nat → Nat → Int32} (hs : zSc M M1) : zcd M1 = zcd M := by
  funext c i
  unfold zcd
  by_cases hc : 3 ≤ c ∧ c ≤ 8
  · rw [if_pos hc, if_pos hc]
    have : zsc c = false := by
      have : c = 3 ∨ c = 4 ∨ c = 5 ∨ c = 6 ∨ c = 7 ∨ c = 8 := by omega
      rcases this with rfl | rfl | rfl | rfl | rfl | rfl <;> rfl
    rw [hs.1 c this (by omega) (by omega) (by omega) (by omega) (by omega) (by omega)]
  · rw [if_neg hc, if_neg hc]
theorem zIn_kx {M : Nat → Nat → Int32} {n n' : Nat → Nat} (h : zIn M n n') (hT : zTabOk M) : zKx (M 72) M (n 0) (n 1) (n 2) (n 3) (n 5) (zDD (M 72) n) := by
  have hC := zIn_ck h
  have hS := zIn_sn h
  have hw := zCn_w (zIn_cn h)
  obtain ⟨c1, c2, c3, c4⟩ := zCk_cl hC
  obtain ⟨⟨⟨-, -, -, -, -, z5, -, -⟩, -, -, -, -, -, b5, -⟩, -, -, ⟨q0, q1, q2, q3, q4, q5, q6, q7⟩, -, ⟨r0, r1, r2, r5, r6⟩, -⟩ := id h
  have tb : ∀ t dd, zTb M t dd → (∀ p q, p < n 0 → q < n 0 → M 11 (100 * t + 10 * p + q) = nI (min 9999 (zDD (M 72) n dd p q))) ∧ (∀ p, p < n 0 → M 12 (10 * t + p) = nI (zsb (fun q => Nat.ble (zDD (M 72) n dd p q) (n 3)) (n 0))) := by
    intro t dd k
    unfold zTb at k
    rw [c1, c2, c3, c4, zIn_D h] at k
    exact k
  refine ⟨hC, q5.trans z5, b5, fun i hi => ?_, hS.2.2.2.2, fun dd hd => ?_, fun p q hp hq => ?_, fun dd x y => (zD_base hw).2.2 x y, fun dd x y => (zD_base hw).2.1 x y, fun dd x y hx hlt => zD_bound hw (by decide) hx hlt, fun dd x => (zD_base hw).1 x⟩
  · obtain ⟨e1, e2, e3, e4, -⟩ := r5 i hi
    obtain ⟨x1, x2, x3, x4⟩ := hS.2.2.2.1 i hi
    exact ⟨e1.trans x1, e2.trans x2, e3.trans x3, e4.trans x4⟩
  · obtain ⟨t, ht, h9, htb⟩ := hT.2 dd hd
    exact ⟨t, ht, h9, (tb t dd htb).1, (tb t dd htb).2⟩
  · have := (tb 0 60 hT.1).1 p q hp hq
    rw [← this]
    congr 1
    omega
theorem zsc_41 {c : Nat} (h : zsc c = false) : ¬ (38 ≤ c ∧ c ≤ 54) ∧ ¬ (78 ≤ c ∧ c ≤ 96) := by
  unfold zsc at h
  rw [Bool.or_eq_false_iff] at h
  refine ⟨fun q => ?_, fun q => ?_⟩
  · rw [Nat.ble_eq_true_of_le q.1, Nat.ble_eq_true_of_le q.2] at h; exact absurd h.1 (by decide)
  · rw [Nat.ble_eq_true_of_le q.1, Nat.ble_eq_true_of_le q.2] at h; exact absurd h.2 (by decide)
section JL
variable {d : Nat} {F : Option Value → zS → Prop} {X : zX} {b : Nat × Nat} {K : Nat → Nat → Option Nat} {B : Nat → Nat → Int64} {M : Nat → Nat → Int32} {n n' : Nat → Nat} {bt k u : Nat}
theorem zJc_sc {A : Nat → Int32} {M1 : Nat → Nat → Int32} {np nw ns pc m : Nat} {D : Nat → Nat → Nat → Nat} (h : zJc A M M1 bt k u np nw ns pc m D) : zSc M M1 ∧ zTab M1 := by
  have e71 := h.1 71 (by decide) (by decide) (by decide) (by decide) (by decide) (by decide) (by decide) (by decide)
  refine ⟨⟨fun c hc a1 a2 a3 a4 a5 a6 => ?_, h.2.1, by rw [e71], by rw [e71], by rw [e71]⟩, Or.inr ⟨h.2.2.1, h.2.2.2.1⟩⟩
  have := (zsc_41 hc).1
  exact h.1 c a1 a2 a3 a4 a5 (by omega) (by omega) (by omega)
theorem zJcO_sc {A : Nat → Int32} {M1 : Nat → Nat → Int32} {np nw ns pc m : Nat} {D : Nat → Nat → Nat → Nat} (h : zJcO A M M1 bt k u np nw ns pc m D) : zSc M M1 ∧ zTab M1 := by
  have e71 := h.1 71 (by decide) (by decide) (by decide) (by decide) (by decide) (by decide) (by decide) (by decide)
  refine ⟨⟨fun c hc a1 a2 a3 a4 a5 a6 => ?_, h.2.1, by rw [e71], by rw [e71], by rw [e71]⟩, Or.inr ⟨h.2.2.1, h.2.2.2.1⟩⟩
  have := (zsc_41 hc).1
  exact h.1 c a1 a2 a3 a4 a5 (by omega) (by omega) (by omega)
theorem zJr_sc {M1 : Nat → Nat → Int32} {np m pc : Nat} {D : Nat → Nat → Nat → Nat} (h : zJr M M1 bt k u np m pc D) : zSc M M1 ∧ (zTab M → zTab M1) := by
  refine ⟨⟨fun c hc a1 a2 a3 a4 a5 a6 => ?_, fun i _ _ => ?_, h.2.1 3 (by decide) (by decide), h.2.1 4 (by decide) (by decide), h.2.1 5 (by decide) (by decide)⟩, zTab_w (fun c h1 h2 => h.1 c (by omega) (by omega) (by omega) (by omega) (by omega))⟩
  · have := (zsc_41 hc).2
    exact h.1 c a6 (by omega) (by omega) (by omega) (by omega)
  · rw [h.1 1 (by decide) (by decide) (by decide) (by decide) (by decide)]
theorem sp_tr (hK : zKok K) (h : zIn M n n') (ha : bt < 8 ∧ k < 60 ∧ u ≤ 60) (kk : ∀ M', zJc (M 72) M M' bt k u (n 0) (n 1) (n 2) (n 3) (n 5) (zDD (M 72) n) → F none (X, b, zLay, K, B, M')) : zCall (d + 9) zm_Boats_trace [.ref 0, .ref 41, .int (nI bt), .int (nI k), .int (nI u)] (X, b, zLay, K, B, M) F := by
  refine sp_trace hK (zIn_tab h) (zIn_ck h) (fun M1 f1 f2 f3 f4 => ?_) ha kk
  have e72 : M1 72 = M 72 := f1 72 (by decide) (by decide) (by decide) (by decide) (by decide)
  have := zIn_kx (zIn_scr h (zSc_fresh f1 f2) (Or.inr ⟨f3, f4⟩)) f4
  rw [e72] at this
  exact this
theorem sp_trO (hK : zKok K) (h : zIn M n n') (ha : bt < 8 ∧ k < 60 ∧ u ≤ 60) (kk : ∀ M', zJcO (M 72) M M' bt k u (n 0) (n 1) (n 2) (n 3) (n 5) (zDD (M 72) n) → F none (X, b, zLay, K, B, M')) : zCall (d + 9) zm_Boats_trace [.ref 0, .ref 46, .int (nI bt), .int (nI k), .int (nI u)] (X, b, zLay, K, B, M) F := by
  refine sp_traceO hK (zIn_tab h) (zIn_ck h) (fun M1 f1 f2 f3 f4 => ?_) ha kk
  have e72 : M1 72 = M 72 := f1 72 (by decide) (by decide) (by decide) (by decide) (by decide)
  have := zIn_kx (zIn_scr h (zSc_fresh f1 f2) (Or.inr ⟨f3, f4⟩)) f4
  rw [e72] at this
  exact this
theorem sp_mj (hK : zKok K) (h : zIn M n n') (ha : bt < 8 ∧ k < 60 ∧ u ≤ 60) (kk : ∀ M', zJr M M' bt k u (n 0) (n 5) (n 3) (zDD (M 72) n) → F (some (.int (zbi (zpos (M 72) bt k u (n 0) (n 5) (n 3) (zDD (M 72) n))))) (X, b, zLay, K, B, M')) : zCall (d + 9) zm_Model_journeys [.ref 71, .int (nI bt), .int (nI k), .int (nI u)] (X, b, zLay, K, B, M) F := by
  have hb := (zIn_ck h).2.2.2.2.1
  exact sp_Mjourneys hK (zIn_cn h) (zIn_sn h) h.1.1.2.2.2.1 (by omega) (fun _ => rfl) ha kk
end JL
/-- where a boat may be on a day, as meant -/
def zmy (A : Nat → Int32) (bt k u np m pc : Nat) (D : Nat → Nat → Nat → Nat) (d : Nat) : Nat := if zpos A bt k u np m pc D = true ∧ zfi A bt k u m ≤ d ∧ d < zla A bt k u m then zld (fun d S => zrc np pc (D d) S) (zal A np bt k u m) (zfi A bt k u m) (d - zfi A bt k u m) &&& zbk (fun d S => zrc np pc (D d) S) (zal A np bt k u m) (zla A bt k u m - 1) (zla A bt k u m - 1 - d) else 0
theorem zpos_iff {A : Nat → Int32} {bt k u np m pc : Nat} {D : Nat → Nat → Nat → Nat} : zpos A bt k u np m pc D = true ↔ zfi A bt k u m < 60 ∧ zld (fun d S => zrc np pc (D d) S) (zal A np bt k u m) (zfi A bt k u m) (zla A bt k u m - 1 - zfi A bt k u m) ≠ 0 := by
  unfold zpos
  rw [Bool.and_eq_true]
  constructor
  · rintro ⟨h1, h2⟩
    refine ⟨Nat.le_of_ble_eq_true h1, fun q => ?_⟩
    rw [q] at h2
    exact absurd h2 (by decide)
  · rintro ⟨h1, h2⟩
    exact ⟨zblt_t h1, by rw [zbeq_f h2]; rfl⟩
theorem zpl_my {A : Nat → Int32} {bt k u np m pc : Nat} {D : Nat → Nat → Nat → Nat} (hS : zSok A np m) (hD : ∀ d x y, D d x y = D d y x) (d : Nat) : zpl A bt k u np m pc D d = zmy A bt k u np m pc D d := by
  have fl := zfl (bt := bt) (k := k) (u := u) hS
  unfold zpl zmy
  by_cases h1 : zfi A bt k u m < 60 ∧ zfi A bt k u m ≤ d ∧ d < zla A bt k u m
  · rw [if_pos h1]
    by_cases h2 : zld (fun d S => zrc np pc (D d) S) (zal A np bt k u m) (zfi A bt k u m) (zla A bt k u m - 1 - zfi A bt k u m) = 0
    · rw [zfn_0 h2, if_neg (fun q => (zpos_iff.mp q.1).2 h2)]
    · rw [if_pos ⟨zpos_iff.mpr ⟨h1.1, h2⟩, h1.2.1, h1.2.2⟩, zfn_eq hD _ (by omega)]
      congr 2
      omega
  · rw [if_neg h1, if_neg (fun q => h1 ⟨(zpos_iff.mp q.1).1, q.2.1, q.2.2⟩)]
theorem zpos_u {A : Nat → Int32} {bt k u u' np m pc : Nat} {D : Nat → Nat → Nat → Nat} (h : zSok A np m) (hu : 59 ≤ u) (hu' : 59 ≤ u') : zpos A bt k u np m pc D = zpos A bt k u' np m pc D := by
  obtain ⟨e1, e2, e3, e4⟩ := zu_same (bt := bt) (k := k) h hu hu'
  have e5 : zal A np bt k u m = zal A np bt k u' m := funext e1
  unfold zpos
  rw [e3, e4, e5]
theorem zmy_u {A : Nat → Int32} {bt k u u' np m pc : Nat} {D : Nat → Nat → Nat → Nat} (h : zSok A np m) (hu : 59 ≤ u) (hu' : 59 ≤ u') (d : Nat) : zmy A bt k u np m pc D d = zmy A bt k u' np m pc D d := by
  obtain ⟨e1, e2, e3, e4⟩ := zu_same (bt := bt) (k := k) h hu hu'
  have e5 : zal A np bt k u m = zal A np bt k u' m := funext e1
  unfold zmy
  rw [zpos_u h hu hu', e3, e4, e5]
theorem zmy_lt {A : Nat → Int32} {bt k u np m pc : Nat} {D : Nat → Nat → Nat → Nat} (d : Nat) : zmy A bt k u np m pc D d < 2 ^ np := by
  unfold zmy
  split
  · exact zand_lt (zld_lt (fun e => zal_lt _ _ _ _ _ _ _) _ _)
  · exact zpos2 np
