/-! ===== pace, boat, end, fault, about, feed, image, back ===== -/
theorem zIn_cnt {M M2 : Nat → Nat → Int32} {n m n' : Nat → Nat} (h : zIn M n n') (hu : ∀ c, c ≠ 1 → c ≠ 13 → c ≠ 72 → M2 c = M c) (h72 : ∀ j, 10 ≤ j → M2 72 j = M 72 j) (hcs : zCs (M2 72) m) (hcc : zCc M2) (hm : m 0 = n 0 ∧ m 1 = n 1 ∧ m 2 = n 2 ∧ n 4 ≤ m 4 ∧ m 5 = n 5 ∧ m 6 = n 6 ∧ m 7 = n 7) (hT : zTab M2) : zIn M2 m n' := by
  obtain ⟨m0, m1, m2, m4, m5, m6, m7⟩ := hm
  have e : ∀ c, 2 ≤ c → c ≤ 12 → M2 c = M c := fun c h1 h2 => hu c (by omega) (by omega) (by omega)
  have e' : ∀ c, 14 ≤ c → c ≤ 21 → M2 c = M c := fun c h1 h2 => hu c (by omega) (by omega) (by omega)
  refine zIn_add h ⟨fun i _ => ?_, fun i _ => ?_, fun i _ => ?_, fun i _ => ?_, fun i _ => ?_⟩ (fun j hj => h72 j (by unfold zUsed at hj; omega)) (fun j h1 _ => h72 j (by omega)) hcs hcc ⟨by omega, by omega, by omega, m4, by omega, by omega, by omega⟩ (fun i h1 h2 => absurd h2 (by omega)) (fun i h1 h2 => absurd h2 (by omega)) (fun i h1 h2 => absurd h2 (by omega)) (fun i h1 h2 => absurd h2 (by omega)) (fun i h1 h2 => absurd h2 (by omega)) (fun c hc hc2 => hu c (by omega) (by omega) hc2) hT
  · rw [e 2 (by omega) (by omega)]
  · rw [e 3 (by omega) (by omega), e 4 (by omega) (by omega), e 5 (by omega) (by omega)]; exact ⟨rfl, rfl, rfl⟩
  · rw [e 6 (by omega) (by omega), e 7 (by omega) (by omega), e 8 (by omega) (by omega)]; exact ⟨rfl, rfl, rfl⟩
  · rw [e' 14 (by omega) (by omega), e' 15 (by omega) (by omega), e' 16 (by omega) (by omega), e' 17 (by omega) (by omega)]; exact ⟨rfl, rfl, rfl, rfl⟩
  · rw [e' 18 (by omega) (by omega), e' 19 (by omega) (by omega), e' 20 (by omega) (by omega), e' 21 (by omega) (by omega)]; exact ⟨rfl, rfl, rfl, rfl⟩
theorem zop_pace (X : zX) (a0 : Int32) : zOp zInv X zm_Boats_pace zm_Model_pace [.int a0] := by
  intro d K B M hI
  obtain ⟨hK, hSw, n, n', h⟩ := id hI
  obtain ⟨⟨⟨c0, c1, c2, c3, c4, c5, c6, c7⟩, b0, b1, b2, b3, b4, b5, b6, b7⟩, -, -, ⟨q0, q1, q2, q3, q4, q5, q6, q7⟩, -⟩ := id h
  have hT := zIn_tab h
  by_cases hv : 1 ≤ a0.toInt ∧ a0.toInt ≤ 60
  · obtain ⟨v, hv2, rfl⟩ := znat (x := a0) (n := 61) (by omega) (by omega) (by decide)
    rw [nI_toInt (by omega)] at hv
    have yes : ∀ M1 : Nat → Nat → Int32, (∀ c, c ≠ 1 → M1 c = M c) → (∀ i, i ≠ 10 → i ≠ 11 → M1 1 i = M 1 i) → M1 1 10 = nI v → zTab M1 → ∃ (x : Int32) (K1 : Nat → Nat → Option Nat) (B1 : Nat → Nat → Int64) (M2 : Nat → Nat → Int32), (some (Value.int 1) : Option Value) = some (.int x) ∧ ((X, (0, 0), zLay, K, B, M1) : zS) = (X, (0, 0), zLay, K1, B1, M2) ∧ zCall (d + 200) zm_Model_pace (.ref 71 :: [.int (nI v)]) (X, (0, 0), zLay, K1, B1, M2) (fun v' S2 => ∃ (K2 : Nat → Nat → Option Nat) (B2 : Nat → Nat → Int64) (M2 : Nat → Nat → Int32), v' = some (.int x) ∧ S2 = (X, (0, 0), zLay, K2, B2, M2) ∧ zInv K2 B2 M2) := by
      intro M1 f1 f2 f3 f4
      have g72 : ∀ j, M1 72 j = M 72 j := fun j => by rw [f1 72 (by decide)]
      have g13 : ∀ j, M1 13 j = M 13 j := fun j => by rw [f1 13 (by decide)]
      refine ⟨1, K, B, M1, rfl, rfl, zb_Model_paceZ_0 (d := d + 190) hK (nI v) (fun _ => ⟨K, B, zu M1 72 3 (nI v), rfl, rfl, hK, hSw, fun k => if k = 3 then v else n k, n', ?_⟩) (fun g => absurd ⟨nI_le (a := 1) (by omega) (by omega), nI_le (b := 60) (by omega) (by omega)⟩ g)⟩
      refine zIn_cnt h (fun c h1 h2 h3 => ?_) (fun j hj => ?_) ?_ ?_ ⟨rfl, rfl, rfl, Nat.le_refl _, rfl, rfl, rfl⟩ ?_
      · rw [← f1 c h1]; simp [zu, h3]
      · rw [zu_at, if_neg (by omega), g72]
      · exact ⟨⟨(g72 0).trans c0, (g72 1).trans c1, (g72 2).trans c2, rfl, (g72 4).trans c4, (g72 5).trans c5, (g72 6).trans c6, (g72 7).trans c7⟩, b0, b1, b2, ⟨by show 1 ≤ v; omega, by show v ≤ 60; omega⟩, b4, b5, b6, b7⟩
      · exact ⟨(f2 1 (by decide) (by decide)).trans (q0.trans (g72 0).symm), (f2 5 (by decide) (by decide)).trans (q1.trans (g72 1).symm), (f2 9 (by decide) (by decide)).trans (q2.trans (g72 2).symm), f3, (g13 0).trans (q4.trans (g72 4).symm), (g13 5).trans (q5.trans (g72 5).symm), (g13 10).trans (q6.trans (g72 6).symm), (congrFun (f1 0 (by decide)) 7).trans (q7.trans (g72 7).symm)⟩
      · exact zTab_w (fun c h1 h2 => by simp [zu]; omega) f4
    have w1 : ∀ x : Int32, (∀ c, c ≠ 1 → (zu (zu M 1 11 x) 1 10 (nI v)) c = M c) := fun x c hc => by simp [zu, hc]
    have w2 : ∀ x : Int32, (∀ i, i ≠ 10 → i ≠ 11 → (zu (zu M 1 11 x) 1 10 (nI v)) 1 i = M 1 i) := fun x i h1 h2 => by rw [zu_at, if_neg h1, zu_at, if_neg h2]
    refine zb_Boats_paceZ_0 (d := d + 190) hK (nI v) (fun g => ?_) (fun _ _ _ => yes _ (w1 1) (w2 1) rfl (Or.inl rfl)) (fun _ _ g3 g4 => yes _ (w1 0) (w2 0) rfl ?_) (fun _ _ _ _ => yes _ (w1 1) (w2 1) rfl (Or.inl rfl)) (fun _ g => ?_)
    · exfalso; simp only [zlt, zl1, nI_toInt (show v < 2 ^ 31 by omega)] at g; omega
    · have e : (zu (zu M 1 11 0) 1 10 (nI v)) = M := by
        funext c i
        by_cases hc : c = 1
        · subst hc
          rw [zu_at]
          by_cases hi : i = 10
          · rw [if_pos hi, hi, g4]
          · rw [if_neg hi, zu_at]
            by_cases hi : i = 11
            · rw [if_pos hi, hi, g3]
            · rw [if_neg hi]
        · rw [w1 0 c hc]
      rw [e]; exact hT
    · exfalso; simp only [zle, zl60, nI_toInt (show v < 2 ^ 31 by omega)] at g; omega
  · have hno : ∃ (x : Int32) (K1 : Nat → Nat → Option Nat) (B1 : Nat → Nat → Int64) (M2 : Nat → Nat → Int32), (some (Value.int 0) : Option Value) = some (.int x) ∧ ((X, (0, 0), zLay, K, B, M) : zS) = (X, (0, 0), zLay, K1, B1, M2) ∧ zCall (d + 200) zm_Model_pace (.ref 71 :: [.int a0]) (X, (0, 0), zLay, K1, B1, M2) (fun v' S2 => ∃ (K2 : Nat → Nat → Option Nat) (B2 : Nat → Nat → Int64) (M2 : Nat → Nat → Int32), v' = some (.int x) ∧ S2 = (X, (0, 0), zLay, K2, B2, M2) ∧ zInv K2 B2 M2) := by
      refine ⟨0, K, B, M, rfl, rfl, zb_Model_paceZ_0 (d := d + 190) hK a0 (fun g => ?_) (fun _ => ⟨K, B, M, rfl, rfl, hI⟩)⟩
      exfalso; simp only [zle, zl1, zl60] at g; omega
    refine zb_Boats_paceZ_0 (d := d + 190) hK a0 (fun _ => hno) (fun g1 g2 _ => ?_) (fun g1 g2 _ _ => ?_) (fun g1 g2 _ _ => ?_) (fun _ _ => hno)
    all_goals (exfalso; simp only [zle, zlt, zl1, zl60] at g1 g2; omega)
theorem zop_boat (X : zX) : zOp zInv X zm_Boats_boat zm_Model_boat [] := by
  intro d K B M hI
  obtain ⟨hK, hSw, n, n', h⟩ := id hI
  obtain ⟨⟨⟨c0, c1, c2, c3, c4, c5, c6, c7⟩, b0, b1, b2, b3, b4, b5, b6, b7⟩, -, -, ⟨q0, q1, q2, q3, q4, q5, q6, q7⟩, -⟩ := id h
  have hT := zIn_tab h
  have e4 : M 13 0 = nI (n 4) := q4.trans c4
  refine zb_Boats_boatZ_0 (d := d + 190) hK (fun g => ?_) (fun g => ?_)
  · have g' : n 4 < 8 := by rw [e4] at g; exact (nI_ltI (b := 8) (by omega) (by omega)).mp g
    refine ⟨M 13 0, K, B, _, rfl, rfl, ?_⟩
    refine zb_Model_boatZ_0 (d := d + 190) hK (fun _ => ⟨K, B, _, ?_, rfl, hK, hSw, fun k => if k = 4 then n 4 + 1 else n k, n', ?_⟩) (fun g2 => ?_)
    · show some (Value.int (M 72 4 + 1 - 1)) = some (Value.int (M 13 0))
      rw [c4, e4, nI_1, nI_pred]
    · refine zIn_cnt h (fun c h1 h2 h3 => ?_) (fun j hj => ?_) ?_ ?_ ⟨rfl, rfl, rfl, Nat.le_succ _, rfl, rfl, rfl⟩ ?_
      · simp [zu, h2, h3]
      · rw [zu_at, if_neg (by omega)]; rfl
      · refine ⟨⟨c0, c1, c2, c3, ?_, c5, c6, c7⟩, b0, b1, b2, b3, ?_, b5, b6, b7⟩
        · show M 72 4 + 1 = nI (n 4 + 1)
          rw [c4, nI_1]
        · show n 4 + 1 ≤ 8
          omega
      · refine ⟨q0, q1, q2, q3, ?_, q5, q6, q7⟩
        show M 13 0 + 1 = M 72 4 + 1
        rw [q4]
      · exact zTab_w (fun c h1 h2 => by have e1 : c ≠ 13 := by omega
                                        have e2 : c ≠ 72 := by omega
                                        simp [zu, e1, e2]) hT
    · exfalso
      have : (M 72 4) = 8 := g2
      rw [c4] at this
      have := (nI_eq (b := 8) (by omega) (by omega)).mp this
      omega
  · have g' : n 4 = 8 := by
      rw [e4] at g
      have : ¬ n 4 < 8 := fun q => g ((nI_ltI (b := 8) (by omega) (by omega)).mpr q)
      omega
    refine ⟨-1, K, B, M, rfl, rfl, zb_Model_boatZ_0 (d := d + 190) hK (fun g2 => ?_) (fun _ => ⟨K, B, M, rfl, rfl, hI⟩)⟩
    exact absurd (by rw [c4, g']; rfl) g2
/-- only the tape, the latest fault and what is read of texts has changed -/
theorem zIn_rd {M M2 : Nat → Nat → Int32} {n n' : Nat → Nat} (h : zIn M n n') (hu : ∀ c, c ≤ 30 ∨ c = 34 ∨ c = 72 ∨ c = 73 → M2 c = M c) (hp : zTp M2) (hf : M2 31 2 = M2 71 4 ∧ M2 31 3 = M2 71 5) (hx : ∀ t, t < n 7 → zTx M2 t) : zIn M2 n n' := by
  have e72 : M2 72 = M 72 := hu 72 (by decide)
  have e73 : M2 73 = M 73 := hu 73 (by decide)
  have es : ∀ k : Nat → Nat, zSame M M2 k := fun k => by
    unfold zSame
    rw [hu 2 (by decide), hu 3 (by decide), hu 4 (by decide), hu 5 (by decide), hu 6 (by decide), hu 7 (by decide), hu 8 (by decide)]
    rw [hu 14 (by decide), hu 15 (by decide), hu 16 (by decide), hu 17 (by decide), hu 18 (by decide), hu 19 (by decide), hu 20 (by decide), hu 21 (by decide)]
    exact ⟨fun _ _ => rfl, fun _ _ => ⟨rfl, rfl, rfl⟩, fun _ _ => ⟨rfl, rfl, rfl⟩, fun _ _ => ⟨rfl, rfl, rfl, rfl⟩, fun _ _ => ⟨rfl, rfl, rfl, rfl⟩⟩
  obtain ⟨a1, a2, a3, a4, a5, a6, a7, a8, a9, a10, a11, a12, a13, a14⟩ := h
  refine ⟨by rw [e72]; exact a1, by rw [e73]; exact a2, a3, ?_, ?_, ?_, ?_, ?_, ?_, hp, hf, ?_, hx, ?_⟩
  · unfold zCc
    rw [e72, hu 1 (by decide), hu 13 (by decide), hu 0 (by decide)]
    exact a4
  · unfold zCi
    rw [e73, hu 26 (by decide)]
    exact a5
  · rw [e72]; exact zRw_self a6 (es n) (fun _ _ => rfl)
  · rw [e73]; exact zRw_self a7 (es n') (fun _ _ => rfl)
  · rw [e72]; exact zLt_keep a8 (hu 23 (by decide)) (hu 24 (by decide)) (hu 25 (by decide)) (fun _ _ _ => rfl) (Nat.le_refl _)
  · rw [e73]; exact zLt_keep a9 (hu 28 (by decide)) (hu 29 (by decide)) (hu 30 (by decide)) (fun _ _ _ => rfl) (Nat.le_refl _)
  · exact zTab_w (fun c h1 h2 => hu c (by omega)) a12
  · unfold zNr
    rw [hu 34 (by decide)]
    exact a14
theorem zIn_tp {M : Nat → Nat → Int32} {n n' : Nat → Nat} (h : zIn M n n') : zTp M := h.2.2.2.2.2.2.2.2.2.1
theorem zIn_fa {M : Nat → Nat → Int32} {n n' : Nat → Nat} (h : zIn M n n') : M 31 2 = M 71 4 ∧ M 31 3 = M 71 5 := h.2.2.2.2.2.2.2.2.2.2.1
theorem zIn_tx {M : Nat → Nat → Int32} {n n' : Nat → Nat} (h : zIn M n n') : ∀ t, t < n 7 → zTx M t := h.2.2.2.2.2.2.2.2.2.2.2.2.1
theorem zop_end (X : zX) (a0 : Int32) : zOp zInv X zm_Boats_end zm_Model_end [.int a0] := by
  intro d K B M hI
  obtain ⟨hK, hSw, n, n', h⟩ := id hI
  obtain ⟨t, ht, t1, t2, t3⟩ := zIn_tp h
  have u1 : (M 31 1).toInt = t := by rw [t1, znI (by omega)]
  have u2 : (M 71 3).toInt = t := by rw [t2, znI (by omega)]
  have no : (¬ (0 ≤ a0.toInt ∧ a0.toInt ≤ t)) → ∃ (x : Int32) (K1 : Nat → Nat → Option Nat) (B1 : Nat → Nat → Int64) (M2 : Nat → Nat → Int32), (some (Value.int (-1)) : Option Value) = some (.int x) ∧ ((X, (0, 0), zLay, K, B, M) : zS) = (X, (0, 0), zLay, K1, B1, M2) ∧ zCall (d + 200) zm_Model_end (.ref 71 :: [.int a0]) (X, (0, 0), zLay, K1, B1, M2) (fun v' S2 => ∃ (K2 : Nat → Nat → Option Nat) (B2 : Nat → Nat → Int64) (M2 : Nat → Nat → Int32), v' = some (.int x) ∧ S2 = (X, (0, 0), zLay, K2, B2, M2) ∧ zInv K2 B2 M2) := fun hn =>
    ⟨-1, K, B, M, rfl, rfl, zb_Model_endZ_0 (d := d + 190) a0 (fun g => by exfalso; simp only [zle, zl0, u2] at g; omega) (fun _ => ⟨K, B, M, rfl, rfl, hI⟩)⟩
  refine zb_Boats_endZ_0 (d := d + 190) hK a0 (fun g => no ?_) (fun g1 g2 => ?_) (fun g1 g2 => no ?_)
  · simp only [zlt, zl0] at g; omega
  · simp only [zlt, zle, zl0, u1] at g1 g2
    obtain ⟨v, hv, rfl⟩ := znat (x := a0) (n := t + 1) (by omega) (by omega) (by omega)
    refine ⟨nI v, K, B, _, rfl, rfl, ?_⟩
    refine zb_Model_endZ_0 (d := d + 190) (nI v) (fun _ => ⟨K, B, _, rfl, rfl, hK, hSw, n, n', ?_⟩) (fun g => absurd ⟨nI_pos' (by omega), ?_⟩ g)
    · refine zIn_rd h (fun c hc => ?_) ⟨v, by omega, rfl, rfl, fun i hi => t3 i (by omega)⟩ (show M 31 2 = M 71 4 ∧ M 31 3 = M 71 5 from zIn_fa h) (fun t ht => zTx_same (fun c hc => ?_) (zIn_tx h t ht))
      · have h1 : c ≠ 31 := by omega
        have h2 : c ≠ 71 := by omega
        simp [zu, h1, h2]
      · have h1 : c ≠ 31 := by omega
        have h2 : c ≠ 71 := by omega
        simp [zu, h1, h2]
    · show nI v ≤ M 71 3
      rw [t2]; exact nI_le (by omega) (by omega)
  · simp only [zlt, zle, zl0, u1] at g1 g2; omega
theorem zop_fault (X : zX) (a0 : Int32) : zOp zInv X zm_Boats_fault zm_Model_fault [.int a0] := by
  refine zop_of (fun d K B M n n' hK hSw h => ?_)
  have hf := zIn_fa h
  have ans : ∀ K2 B2 (M2 : Nat → Nat → Int32), zKok K2 → zSw K2 → zIn M2 n n' → M2 71 4 = M 71 4 → M2 71 5 = M 71 5 → zAns X d zm_Model_fault (.ref 71 :: [.int a0]) K2 B2 M2 (if a0 = 0 then M 71 4 else if a0 = 1 then M 71 5 else -1) := by
    intro K2 B2 M2 hK2 hS2 h2 e1 e2
    refine zop_no hK2 hS2 (zIn_tab h2) (fun F kk => zb_Model_faultZ_0 (d := d + 190) a0 (fun g1 g2 => ?_) (fun g1 g2 => ?_) (fun g1 => ?_))
    · rw [if_neg g1, if_neg g2] at kk; exact kk
    · rw [if_neg g1, if_pos g2] at kk; rw [e2]; exact kk
    · rw [if_pos g1] at kk; rw [e1]; exact kk
  refine ⟨if a0 = 0 then M 71 4 else if a0 = 1 then M 71 5 else -1, zop_no hK hSw (zIn_tab h) (fun F kk => zb_Boats_faultZ_0 (d := d + 190) hK a0 (fun g1 => ?_) (fun g1 g2 => ?_) (fun g1 g2 => ?_)), fun K2 B2 M2 hK2 hS2 hs h2 => ans K2 B2 M2 hK2 hS2 h2 hs.2.2.2.1 hs.2.2.2.2⟩
  · rw [if_pos g1] at kk; rw [hf.1]; exact kk
  · rw [if_neg g1, if_pos g2] at kk; rw [hf.2]; exact kk
  · rw [if_neg g1, if_neg g2] at kk; exact kk
