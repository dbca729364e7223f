/-! ===== links: both sides' data out of the invariant; scratch ===== -/
theorem zIn_cn {M : Nat → Nat → Int32} {n n' : Nat → Nat} (h : zIn M n n') : zCn (M 72) (n 1) (n 2) := by
  obtain ⟨⟨⟨c0, c1, c2, c3, c4, c5, c6, c7⟩, b0, b1, b2, b3, b4, b5, b6, b7⟩, -, -, -, -, ⟨r0, r1, r2, r5, r6⟩, -⟩ := h
  refine ⟨c1, c2, ⟨b1, b2⟩, fun i hi => ?_, fun i hi => ?_⟩
  · obtain ⟨e1, e2, e3, p, q, m, x1, x2, x3, x4, x5, x6, x7, x8⟩ := r1 i hi
    have g3 : zrd (M 72) 3 i = p := by
      show (M 72 (17 + 3 + 3 * i)).toNatClampNeg = p
      rw [show 17 + 3 + 3 * i = 20 + 3 * i by omega, x6, nI_clamp (by omega)]
    have g4 : zrd (M 72) 4 i = q := by
      show (M 72 (17 + 4 + 3 * i)).toNatClampNeg = q
      rw [show 17 + 4 + 3 * i = 21 + 3 * i by omega, x7, nI_clamp (by omega)]
    have g5 : zrd (M 72) 5 i = m := by
      show (M 72 (17 + 5 + 3 * i)).toNatClampNeg = m
      rw [show 17 + 5 + 3 * i = 22 + 3 * i by omega, x8, nI_clamp (by omega)]
    rw [g3, g4, g5]
    exact ⟨x6, x7, x8, by omega, by omega, x3, x5⟩
  · obtain ⟨e1, e2, e3, p, q, m, x1, x2, x3, x4, x5, x6⟩ := r2 i hi
    have g3 : zrd (M 72) 6 i = p := by
      show (M 72 (64 + 6 + 3 * i)).toNatClampNeg = p
      rw [show 64 + 6 + 3 * i = 70 + 3 * i by omega, x4, nI_clamp (by omega)]
    have g4 : zrd (M 72) 7 i = q := by
      show (M 72 (64 + 7 + 3 * i)).toNatClampNeg = q
      rw [show 64 + 7 + 3 * i = 71 + 3 * i by omega, x5, nI_clamp (by omega)]
    have g5 : zrd (M 72) 8 i = m := by
      show (M 72 (64 + 8 + 3 * i)).toNatClampNeg = m
      rw [show 64 + 8 + 3 * i = 72 + 3 * i by omega, x6, nI_clamp (by omega)]
    rw [g3, g4, g5]
    exact ⟨x4, x5, x6, by omega, by omega, by omega⟩
theorem zIn_ck {M : Nat → Nat → Int32} {n n' : Nat → Nat} (h : zIn M n n') : zCk M (n 0) (n 1) (n 2) (n 3) := by
  obtain ⟨⟨⟨c0, c1, c2, c3, c4, c5, c6, c7⟩, b0, b1, b2, b3, b4, b5, b6, b7⟩, -, -, ⟨q0, q1, q2, q3, q4, q5, q6, q7⟩, -, ⟨r0, r1, r2, r5, r6⟩, -⟩ := h
  refine ⟨q0.trans c0, q1.trans c1, q2.trans c2, q3.trans c3, ⟨b0, b1, b2, b3⟩, fun i hi => ?_, fun i hi => ?_⟩
  · obtain ⟨e1, e2, e3, p, q, m, x1, x2, x3, x4, x5, x6, x7, x8⟩ := r1 i hi
    have g3 : zcd M 3 i = p := by
      show (M 3 i).toNatClampNeg = p
      rw [e1, x6, nI_clamp (by omega)]
    have g4 : zcd M 4 i = q := by
      show (M 4 i).toNatClampNeg = q
      rw [e2, x7, nI_clamp (by omega)]
    have g5 : zcd M 5 i = m := by
      show (M 5 i).toNatClampNeg = m
      rw [e3, x8, nI_clamp (by omega)]
    rw [g3, g4, g5]
    exact ⟨e1.trans x6, e2.trans x7, e3.trans x8, x1, x2, x3, x5⟩
  · obtain ⟨e1, e2, e3, p, q, m, x1, x2, x3, x4, x5, x6⟩ := r2 i hi
    have g3 : zcd M 6 i = p := by
      show (M 6 i).toNatClampNeg = p
      rw [e1, x4, nI_clamp (by omega)]
    have g4 : zcd M 7 i = q := by
      show (M 7 i).toNatClampNeg = q
      rw [e2, x5, nI_clamp (by omega)]
    have g5 : zcd M 8 i = m := by
      show (M 8 i).toNatClampNeg = m
      rw [e3, x6, nI_clamp (by omega)]
    rw [g3, g4, g5]
    exact ⟨e1.trans x4, e2.trans x5, e3.trans x6, x1, by omega, by omega⟩
/-- both sides' miles are the same -/
theorem zIn_D {M : Nat → Nat → Int32} {n n' : Nat → Nat} (h : zIn M n n') (dd : Nat) : zD (zcd M) (n 1) (n 2) dd = zD (zrd (M 72)) (n 1) (n 2) dd := by
  obtain ⟨-, -, -, -, -, ⟨r0, r1, r2, r5, r6⟩, -⟩ := h
  refine zD_same (fun c i h1 h2 hi => ?_) (fun c i h1 h2 hi => ?_) dd
  · obtain ⟨e1, e2, e3, -⟩ := r1 i hi
    have : c = 3 ∨ c = 4 ∨ c = 5 := by omega
    rcases this with rfl | rfl | rfl
    · show (M 3 i).toNatClampNeg = (M 72 (17 + 3 + 3 * i)).toNatClampNeg
      rw [e1, show 17 + 3 + 3 * i = 20 + 3 * i by omega]
    · show (M 4 i).toNatClampNeg = (M 72 (17 + 4 + 3 * i)).toNatClampNeg
      rw [e2, show 17 + 4 + 3 * i = 21 + 3 * i by omega]
    · show (M 5 i).toNatClampNeg = (M 72 (17 + 5 + 3 * i)).toNatClampNeg
      rw [e3, show 17 + 5 + 3 * i = 22 + 3 * i by omega]
  · obtain ⟨e1, e2, e3, -⟩ := r2 i hi
    have : c = 6 ∨ c = 7 ∨ c = 8 := by omega
    rcases this with rfl | rfl | rfl
    · show (M 6 i).toNatClampNeg = (M 72 (64 + 6 + 3 * i)).toNatClampNeg
      rw [e1, show 64 + 6 + 3 * i = 70 + 3 * i by omega]
    · show (M 7 i).toNatClampNeg = (M 72 (64 + 7 + 3 * i)).toNatClampNeg
      rw [e2, show 64 + 7 + 3 * i = 71 + 3 * i by omega]
    · show (M 8 i).toNatClampNeg = (M 72 (64 + 8 + 3 * i)).toNatClampNeg
      rw [e3, show 64 + 8 + 3 * i = 72 + 3 * i by omega]
/-- cells that a question may write: tables aside, none of the invariant's -/
def zsc (c : Nat) : Bool := (Nat.ble 38 c && Nat.ble c 54) || (Nat.ble 78 c && Nat.ble c 96)
/-- only scratch, tables, and fields of the reference that the invariant doesn't speak of have changed -/
def zSc (M M2 : Nat → Nat → Int32) : Prop := (∀ c, zsc c = false → c ≠ 1 → c ≠ 9 → c ≠ 10 → c ≠ 11 → c ≠ 12 → c ≠ 71 → M2 c = M c) ∧ (∀ i, i ≠ 11 → i ≠ 12 → M2 1 i = M 1 i) ∧ M2 71 3 = M 71 3 ∧ M2 71 4 = M 71 4 ∧ M2 71 5 = M 71 5
theorem zSc_rfl (M : Nat → Nat → Int32) : zSc M M := ⟨fun _ _ _ _ _ _ _ _ => rfl, fun _ _ _ => rfl, rfl, rfl, rfl⟩
theorem zSc_tr {M M2 M3 : Nat → Nat → Int32} (h : zSc M M2) (k : zSc M2 M3) : zSc M M3 := by
  obtain ⟨a1, a2, a3, a4, a5⟩ := h
  obtain ⟨b1, b2, b3, b4, b5⟩ := k
  exact ⟨fun c h1 h2 h3 h4 h5 h6 h7 => (b1 c h1 h2 h3 h4 h5 h6 h7).trans (a1 c h1 h2 h3 h4 h5 h6 h7), fun i h1 h2 => (b2 i h1 h2).trans (a2 i h1 h2), b3.trans a3, b4.trans a4, b5.trans a5⟩
theorem zIn_scr {M M2 : Nat → Nat → Int32} {n n' : Nat → Nat} (h : zIn M n n') (hs : zSc M M2) (hT : zTab M2) : zIn M2 n n' := by
  obtain ⟨s1, s2, s3, s4, s5⟩ := hs
  have e : ∀ c, zsc c = false → c ≠ 1 → c ≠ 9 → c ≠ 10 → c ≠ 11 → c ≠ 12 → c ≠ 71 → M2 c = M c := s1
  have e72 : M2 72 = M 72 := e 72 rfl (by decide) (by decide) (by decide) (by decide) (by decide) (by decide)
  have e73 : M2 73 = M 73 := e 73 rfl (by decide) (by decide) (by decide) (by decide) (by decide) (by decide)
  have es : ∀ k : Nat → Nat, zSame M M2 k := fun k => by
    unfold zSame
    rw [e 2 rfl (by decide) (by decide) (by decide) (by decide) (by decide) (by decide), e 3 rfl (by decide) (by decide) (by decide) (by decide) (by decide) (by decide), e 4 rfl (by decide) (by decide) (by decide) (by decide) (by decide) (by decide), e 5 rfl (by decide) (by decide) (by decide) (by decide) (by decide) (by decide), e 6 rfl (by decide) (by decide) (by decide) (by decide) (by decide) (by decide), e 7 rfl (by decide) (by decide) (by decide) (by decide) (by decide) (by decide), e 8 rfl (by decide) (by decide) (by decide) (by decide) (by decide) (by decide)]
    rw [e 14 rfl (by decide) (by decide) (by decide) (by decide) (by decide) (by decide), e 15 rfl (by decide) (by decide) (by decide) (by decide) (by decide) (by decide), e 16 rfl (by decide) (by decide) (by decide) (by decide) (by decide) (by decide), e 17 rfl (by decide) (by decide) (by decide) (by decide) (by decide) (by decide), e 18 rfl (by decide) (by decide) (by decide) (by decide) (by decide) (by decide), e 19 rfl (by decide) (by decide) (by decide) (by decide) (by decide) (by decide), e 20 rfl (by decide) (by decide) (by decide) (by decide) (by decide) (by decide), e 21 rfl (by decide) (by decide) (by decide) (by decide) (by decide) (by decide)]
    exact ⟨fun _ _ => rfl, fun _ _ => ⟨rfl, rfl, rfl⟩, fun _ _ => ⟨rfl, rfl, rfl⟩, fun _ _ => ⟨rfl, rfl, rfl, rfl⟩, fun _ _ => ⟨rfl, rfl, rfl, rfl⟩⟩
  obtain ⟨a1, a2, a3, a4, a5, a6, a7, a8, a9, a10, a11, a12, a13, a14⟩ := h
  refine ⟨by rw [e72]; exact a1, by rw [e73]; exact a2, a3, ?_, ?_, ?_, ?_, ?_, ?_, ?_, ?_, hT, ?_, ?_⟩
  · unfold zCc
    rw [e72, s2 1 (by decide) (by decide), s2 5 (by decide) (by decide), s2 9 (by decide) (by decide), s2 10 (by decide) (by decide), e 13 rfl (by decide) (by decide) (by decide) (by decide) (by decide) (by decide), e 0 rfl (by decide) (by decide) (by decide) (by decide) (by decide) (by decide)]
    exact a4
  · unfold zCi
    rw [e73, e 26 rfl (by decide) (by decide) (by decide) (by decide) (by decide) (by decide)]
    exact a5
  · rw [e72]; exact zRw_self a6 (es n) (fun _ _ => rfl)
  · rw [e73]; exact zRw_self a7 (es n') (fun _ _ => rfl)
  · rw [e72]; exact zLt_keep a8 (e 23 rfl (by decide) (by decide) (by decide) (by decide) (by decide) (by decide)) (e 24 rfl (by decide) (by decide) (by decide) (by decide) (by decide) (by decide)) (e 25 rfl (by decide) (by decide) (by decide) (by decide) (by decide) (by decide)) (fun _ _ _ => rfl) (Nat.le_refl _)
  · rw [e73]; exact zLt_keep a9 (e 28 rfl (by decide) (by decide) (by decide) (by decide) (by decide) (by decide)) (e 29 rfl (by decide) (by decide) (by decide) (by decide) (by decide) (by decide)) (e 30 rfl (by decide) (by decide) (by decide) (by decide) (by decide) (by decide)) (fun _ _ _ => rfl) (Nat.le_refl _)
  · unfold zTp
    rw [s3, e 31 rfl (by decide) (by decide) (by decide) (by decide) (by decide) (by decide), e 32 rfl (by decide) (by decide) (by decide) (by decide) (by decide) (by decide), e 74 rfl (by decide) (by decide) (by decide) (by decide) (by decide) (by decide)]
    exact a10
  · rw [s4, s5, e 31 rfl (by decide) (by decide) (by decide) (by decide) (by decide) (by decide)]
    exact a11
  · intro t ht
    refine zTx_same (fun c hc => e c ?_ (by omega) (by omega) (by omega) (by omega) (by omega) (by omega)) (a13 t ht)
    unfold zsc
    have : (Nat.ble 38 c && Nat.ble c 54) = false := by
      rw [Bool.and_eq_false_iff]
      right
      cases q : Nat.ble c 54
      · rfl
      · have := Nat.le_of_ble_eq_true q; omega
    rw [this, Bool.false_or, Bool.and_eq_false_iff]
    left
    cases q : Nat.ble 78 c
    · rfl
    · have := Nat.le_of_ble_eq_true q; omega
  · unfold zNr
    rw [e 34 rfl (by decide) (by decide) (by decide) (by decide) (by decide) (by decide)]
    exact a14
/-- tables laid by the class -/
theorem zSc_fresh {M M2 : Nat → Nat → Int32} (h1 : ∀ c, c ≠ 1 → c ≠ 9 → c ≠ 10 → c ≠ 11 → c ≠ 12 → M2 c = M c) (h2 : ∀ i, i ≠ 11 → i ≠ 12 → M2 1 i = M 1 i) : zSc M M2 := by
  have e71 := h1 71 (by decide) (by decide) (by decide) (by decide) (by decide)
  exact ⟨fun c _ a b c' d e _ => h1 c a b c' d e, h2, by rw [e71], by rw [e71], by rw [e71]⟩
/-- a scratch cell is written -/
theorem zSc_w {M M2 : Nat → Nat → Int32} (h : ∀ c, zsc c = false → M2 c = M c) : zSc M M2 := by
  have e1 := h 1 rfl
  have e71 := h 71 rfl
  exact ⟨fun c hc _ _ _ _ _ _ => h c hc, fun i _ _ => by rw [e1], by rw [e71], by rw [e71], by rw [e71]⟩
/-- tables stay right where only other cells have changed -/
theorem zTab_w {M M2 : Nat → Nat → Int32} (h : ∀ c, 1 ≤ c → c ≤ 12 → M2 c = M c) (k : zTab M) : zTab M2 := by
  rcases k with k | ⟨k, k2⟩
  · exact Or.inl (by rw [h 1 (by decide) (by decide)]; exact k)
  · exact Or.inr ⟨by rw [h 1 (by decide) (by decide)]; exact k, zTabOk_same h k2⟩
section LK
variable {d : Nat} {F : Option Value → zS → Prop} {X : zX} {b : Nat × Nat} {K : Nat → Nat → Option Nat} {B : Nat → Nat → Int64} {M0 : Nat → Nat → Int32} {nw ns : Nat}
theorem lp_all (hK : zKok K) (hC : zCn (M0 72) nw ns) (kk : ∀ M, (∀ c, c ≠ 87 → M c = M0 c) → (∀ dd, dd < 61 → zMr M dd (zD (zrd (M0 72)) nw ns dd)) → F none (X, b, zLay, K, B, M)) : ∀ (m k : Nat) (M : Nat → Nat → Int32), k + m = 61 → (∀ c, c ≠ 87 → M c = M0 c) → (∀ dd, dd < k → zMr M dd (zD (zrd (M0 72)) nw ns dd)) → zEx (zCall (d + 3)) 10 false 0 zc_Model_laysAllMiles F 2 [.ref 71, .int (nI k)] [] (X, b, zLay, K, B, M) := by
  intro m
  induction m with
  | zero =>
    intro k M hk hf hr
    have hk : k = 61 := by omega
    subst hk
    exact zb_Model_laysAllMiles_2 61 (by omega) (fun _ => kk M hf hr) (fun h => absurd h (by omega))
  | succ m ih =>
    intro k M hk hf hr
    have e72 : M 72 = M0 72 := hf 72 (by decide)
    refine zb_Model_laysAllMiles_2 k (by omega) (fun h => absurd h (by omega)) (fun _ => ?_)
    refine sp_laysMiles hK (by rw [e72]; exact hC) (by omega) (fun M' f1 r1 => ?_)
    refine zb_Model_laysAllMiles_13 k (by omega) ?_
    refine ih (k + 1) M' (by omega) (fun c hc => by rw [f1.1 c hc, hf c hc]) (fun dd hd => ?_)
    by_cases e : dd = k
    · subst e; rw [e72] at r1; exact r1
    · intro x y hx hy
      rw [f1.2 _ (by omega)]
      exact hr dd (by omega) x y hx hy
theorem sp_laysAll {M : Nat → Nat → Int32} (hK : zKok K) (hC : zCn (M 72) nw ns) (kk : ∀ M', (∀ c, c ≠ 87 → M' c = M c) → (∀ dd, dd < 61 → zMr M' dd (zD (zrd (M 72)) nw ns dd)) → F none (X, b, zLay, K, B, M')) : zCall (d + 4) zm_Model_laysAllMiles [.ref 71] (X, b, zLay, K, B, M) F := by
  refine zb_Model_laysAllMiles_0 ?_
  exact lp_all hK hC kk 61 0 M (by omega) (fun _ _ => rfl) (fun dd hd => absurd hd (by omega))
end LK
