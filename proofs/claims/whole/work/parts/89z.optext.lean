/-! ===== text: the operation ===== -/
theorem zIn_bump {M M2 : Nat → Nat → Int32} {n n' : Nat → Nat} (h : zIn M n n') (h4 : n 7 < 4) (hu : ∀ c, c ≠ 0 → c ≠ 72 → M2 c = M c) (h0 : M2 0 7 = nI (n 7 + 1)) (h7 : M2 72 7 = nI (n 7 + 1)) (h72 : ∀ j, j ≠ 7 → M2 72 j = M 72 j) (hx : zTx M2 (n 7)) : zIn M2 (fun k => if k = 7 then n 7 + 1 else n k) n' := by
  obtain ⟨a1, a2, a3, a4, a5, a6, a7, a8, a9, a10, a11, a12, a13, a14⟩ := h
  have e73 : M2 73 = M 73 := hu 73 (by decide) (by decide)
  have es : ∀ k : Nat → Nat, zSame M M2 k := fun k => by
    unfold zSame
    rw [hu 2 (by decide) (by decide), hu 3 (by decide) (by decide), hu 4 (by decide) (by decide), hu 5 (by decide) (by decide), hu 6 (by decide) (by decide), hu 7 (by decide) (by decide), hu 8 (by decide) (by decide)]
    rw [hu 14 (by decide) (by decide), hu 15 (by decide) (by decide), hu 16 (by decide) (by decide), hu 17 (by decide) (by decide), hu 18 (by decide) (by decide), hu 19 (by decide) (by decide), hu 20 (by decide) (by decide), hu 21 (by decide) (by decide)]
    exact ⟨fun _ _ => rfl, fun _ _ => ⟨rfl, rfl, rfl⟩, fun _ _ => ⟨rfl, rfl, rfl⟩, fun _ _ => ⟨rfl, rfl, rfl, rfl⟩, fun _ _ => ⟨rfl, rfl, rfl, rfl⟩⟩
  have hb := a1.2
  refine ⟨⟨⟨?_, ?_, ?_, ?_, ?_, ?_, ?_, h7⟩, hb.1, hb.2.1, hb.2.2.1, hb.2.2.2.1, hb.2.2.2.2.1, hb.2.2.2.2.2.1, hb.2.2.2.2.2.2.1, by show n 7 + 1 ≤ 4; omega⟩, by rw [e73]; exact a2, ?_, ?_, ?_, ?_, ?_, ?_, ?_, ?_, ?_, ?_, fun t ht => ?_, ?_⟩
  · rw [h72 0 (by decide)]; exact a1.1.1
  · rw [h72 1 (by decide)]; exact a1.1.2.1
  · rw [h72 2 (by decide)]; exact a1.1.2.2.1
  · rw [h72 3 (by decide)]; exact a1.1.2.2.2.1
  · rw [h72 4 (by decide)]; exact a1.1.2.2.2.2.1
  · rw [h72 5 (by decide)]; exact a1.1.2.2.2.2.2.1
  · rw [h72 6 (by decide)]; exact a1.1.2.2.2.2.2.2.1
  · obtain ⟨l0, l1, l2, l4, l5, l6, l7⟩ := a3
    exact ⟨l0, l1, l2, l4, l5, l6, Nat.le_succ_of_le l7⟩
  · unfold zCc at a4 ⊢
    rw [hu 1 (by decide) (by decide), hu 13 (by decide) (by decide), h72 0 (by decide), h72 1 (by decide), h72 2 (by decide), h72 3 (by decide), h72 4 (by decide), h72 5 (by decide), h72 6 (by decide), h0, h7]
    exact ⟨a4.1, a4.2.1, a4.2.2.1, a4.2.2.2.1, a4.2.2.2.2.1, a4.2.2.2.2.2.1, a4.2.2.2.2.2.2.1, rfl⟩
  · unfold zCi
    rw [e73, hu 26 (by decide) (by decide)]
    exact a5
  · exact zRw_self a6 (es n) (fun j hj => h72 j (by unfold zUsed at hj; omega))
  · rw [e73]; exact zRw_self a7 (es n') (fun _ _ => rfl)
  · exact zLt_keep a8 (hu 23 (by decide) (by decide)) (hu 24 (by decide) (by decide)) (hu 25 (by decide) (by decide)) (fun j _ _ => h72 j (by omega)) (Nat.le_succ _)
  · rw [e73]; exact zLt_keep a9 (hu 28 (by decide) (by decide)) (hu 29 (by decide) (by decide)) (hu 30 (by decide) (by decide)) (fun _ _ _ => rfl) (Nat.le_refl _)
  · unfold zTp
    rw [hu 31 (by decide) (by decide), hu 71 (by decide) (by decide), hu 32 (by decide) (by decide), hu 74 (by decide) (by decide)]
    exact a10
  · rw [hu 31 (by decide) (by decide), hu 71 (by decide) (by decide)]
    exact a11
  · exact zTab_w (fun c h1 h2 => hu c (by omega) (by omega)) a12
  · have ht : t < n 7 + 1 := ht
    by_cases q : t = n 7
    · rw [q]; exact hx
    · exact zTx_same (fun c hc => hu c (by omega) (by omega)) (a13 t (by omega))
  · unfold zNr
    rw [hu 34 (by decide) (by decide)]
    exact a14
section OTX
variable {d : Nat} {F : Option Value → zS → Prop} {X : zX} {b : Nat × Nat} {K : Nat → Nat → Option Nat} {B : Nat → Nat → Int64} {T : Nat → Nat} {len t : Nat}
theorem lp_271 {M0 : Nat → Nat → Int32} {no : Nat} (hK : zKok K) (ht : t < 4) (hno : M0 71 27 = nI no) (h4 : no ≤ 400) (h7 : M0 72 7 = nI t) (kk : ∀ M, (∀ c, c ≠ 76 → c ≠ 77 → M c = M0 c) → (∀ j, j < no → M 76 (400 * t + j) = M0 83 j ∧ M 77 (400 * t + j) = M0 84 j) → (∀ t' j, t' ≠ t → j < 400 → M 76 (400 * t' + j) = M0 76 (400 * t' + j) ∧ M 77 (400 * t' + j) = M0 77 (400 * t' + j)) → F (some (.int (nI t))) (X, b, zLay, K, B, (zu M 72 7 (nI (t + 1))))) : ∀ (q i : Nat) (M : Nat → Nat → Int32), i + q = no → (∀ c, c ≠ 76 → c ≠ 77 → M c = M0 c) → (∀ j, j < i → M 76 (400 * t + j) = M0 83 j ∧ M 77 (400 * t + j) = M0 84 j) → (∀ t' j, t' ≠ t → j < 400 → M 76 (400 * t' + j) = M0 76 (400 * t' + j) ∧ M 77 (400 * t' + j) = M0 77 (400 * t' + j)) → zEx (zCall (d + 20)) 10 false 1 zc_Model_text F 271 [.ref 71, .int (nI t), .int (nI i)] [] (X, b, zLay, K, B, M) := by
  intro q
  induction q with
  | zero =>
    intro i M hi u1 u2 u3
    have hi : i = no := by omega
    subst hi
    exact zb_Model_text_271 (n7 := t) (no := i) (ov := 0) (vv := 0) hK t i ht (Nat.le_refl _) (by rw [u1 71 (by decide) (by decide)]; exact hno) h4 (fun z => absurd z (by omega)) (fun z => absurd z (by omega)) (by rw [u1 72 (by decide) (by decide)]; exact h7) ht (fun _ => kk M u1 u2 u3) (fun z => absurd z (by omega))
  | succ q ih =>
    intro i M hi u1 u2 u3
    refine zb_Model_text_271 (n7 := t) (no := no) (ov := M0 83 i) (vv := M0 84 i) hK t i ht (by omega) (by rw [u1 71 (by decide) (by decide)]; exact hno) h4 (fun _ => by rw [u1 83 (by decide) (by decide)]) (fun _ => by rw [u1 84 (by decide) (by decide)]) (by rw [u1 72 (by decide) (by decide)]; exact h7) ht (fun z => absurd z (by omega)) (fun _ => ?_)
    refine ih (i + 1) _ (by omega) (fun c h1 h2 => by rw [zu_oc h2, zu_oc h1]; exact u1 c h1 h2) (fun j hj => ?_) (fun t' j h1 h2 => ?_)
    · rw [zu_oc (by decide), zu_at, zu_at, zu_oc (by decide)]
      by_cases y : j = i
      · rw [if_pos (by rw [y]), if_pos (by rw [y]), y]; exact ⟨rfl, rfl⟩
      · rw [if_neg (by omega), if_neg (by omega)]; exact u2 j (by omega)
    · rw [zu_oc (by decide), zu_at, if_neg (by omega), zu_at, if_neg (by omega), zu_oc (by decide)]
      exact u3 t' j h1 h2
theorem lp_222 {M0 : Nat → Nat → Int32} (hK : zKok K) (ht : t < 4) (kk : ∀ M, (∀ c, c ≠ 75 → M c = M0 c) → (∀ w, w < 4 → M 75 (4 * t + w) = if M0 82 w = -1 then -1 else nI (400 * t) + M0 82 w) → (∀ t' w, t' ≠ t → w < 4 → M 75 (4 * t' + w) = M0 75 (4 * t' + w)) → zEx (zCall (d + 20)) 10 false 1 zc_Model_text F 271 [.ref 71, .int (nI t), .int 0] [] (X, b, zLay, K, B, M)) : ∀ (q i : Nat) (M : Nat → Nat → Int32), i + q = 4 → (∀ c, c ≠ 75 → M c = M0 c) → (∀ w, w < i → M 75 (4 * t + w) = if M0 82 w = -1 then -1 else nI (400 * t) + M0 82 w) → (∀ t' w, t' ≠ t → w < 4 → M 75 (4 * t' + w) = M0 75 (4 * t' + w)) → zEx (zCall (d + 20)) 10 false 1 zc_Model_text F 222 [.ref 71, .int (nI t), .int (nI i)] [] (X, b, zLay, K, B, M) := by
  intro q
  induction q with
  | zero =>
    intro i M hi u1 u2 u3
    have hi : i = 4 := by omega
    subst hi
    exact zb_Model_text_222 (av := 0) hK t 4 ht (by omega) (fun z => absurd z (by omega)) (fun _ => kk M u1 u2 u3) (fun z => absurd z (by omega)) (fun z => absurd z (by omega))
  | succ q ih =>
    intro i M hi u1 u2 u3
    have go : ∀ v : Int32, v = (if M0 82 i = -1 then -1 else nI (400 * t) + M0 82 i) → zEx (zCall (d + 20)) 10 false 1 zc_Model_text F 222 [.ref 71, .int (nI t), .int (nI (i + 1))] [] (X, b, zLay, K, B, (zu M 75 (4 * t + i) v)) := by
      intro v hv
      refine ih (i + 1) _ (by omega) (fun c h1 => by rw [zu_oc h1]; exact u1 c h1) (fun w hw => ?_) (fun t' w h1 h2 => ?_)
      · rw [zu_at]
        by_cases y : w = i
        · rw [if_pos (by rw [y]), hv, y]
        · rw [if_neg (by omega)]; exact u2 w (by omega)
      · rw [zu_at, if_neg (by omega)]
        exact u3 t' w h1 h2
    exact zb_Model_text_222 (av := M0 82 i) hK t i ht (by omega) (fun _ => by rw [u1 82 (by decide)]) (fun z => absurd z (by omega)) (fun _ z => go _ (by rw [if_neg z])) (fun _ z => go _ (by rw [if_pos z]))
theorem lp_73 {M0 : Nat → Nat → Int32} (hK : zKok K) (kk : ∀ M, (∀ c, c ≠ 82 → M c = M0 c) → (∀ w, w < 4 → M 82 w = -1) → zCall (d + 20) zm_Model_next [.ref 71] (X, (0, 0), zLay, K, B, M) (zGo (d + 20) 10 false 1 zc_Model_text F 95 [.ref 71, .int (nI 4), .null] [] b)) : ∀ (q i : Nat) (M : Nat → Nat → Int32), i + q = 4 → (∀ c, c ≠ 82 → M c = M0 c) → (∀ w, w < i → M 82 w = -1) → zEx (zCall (d + 20)) 10 false 1 zc_Model_text F 73 [.ref 71, .int (nI i), .null] [] (X, b, zLay, K, B, M) := by
  intro q
  induction q with
  | zero =>
    intro i M hi u1 u2
    have hi : i = 4 := by omega
    subst hi
    exact zb_Model_text_73 hK 4 (by omega) (fun _ => kk M u1 u2) (fun z => absurd z (by omega))
  | succ q ih =>
    intro i M hi u1 u2
    refine zb_Model_text_73 hK i (by omega) (fun z => absurd z (by omega)) (fun _ => ?_)
    refine ih (i + 1) _ (by omega) (fun c h1 => by rw [zu_oc h1]; exact u1 c h1) (fun w hw => ?_)
    rw [zu_at]
    by_cases y : w = i
    · rw [if_pos y]
    · rw [if_neg y]; exact u2 w (by omega)
/-- the frame of the reference's text -/
def ztY (M0 M : Nat → Nat → Int32) : Prop := (∀ c, c ≠ 71 → ¬ (75 ≤ c ∧ c ≤ 84) → M c = M0 c) ∧ M 71 3 = 0
theorem sp_textM {M : Nat → Nat → Int32} {o : zO3} (hK : zKok K) (ht : t < 4) (h7 : M 72 7 = nI t) (hl : M 71 3 = nI len) (hl3 : len ≤ 300) (htp : ∀ i, i < len → M 74 i = zB8 (T i) ∧ T i < 256) (D : ztD T len 0 [] 0 (fun _ => none) o) (kb : ∀ f a M', o = .bad f a → (1 ≤ f ∧ f ≤ 5) → ztY M M' → (∀ c, 75 ≤ c → c ≤ 77 → M' c = M c) → M' 71 4 = nI f → M' 71 5 = nI a → F (some (.int (-1))) (X, b, zLay, K, B, M')) (ko : ∀ c k I M', o = .ok c k I → ztY M M' → M' 71 4 = 0 → M' 71 5 = -1 → (∀ w, w < 4 → (I w = none ∧ M' 75 (4 * t + w) = -1) ∨ ∃ b n q, I w = some (b, n, q) ∧ M' 75 (4 * t + w) = nI (400 * t + (q + b)) ∧ q + b + n < 400 ∧ M' 76 (400 * t + (q + b) + n) = 408 ∧ ∀ i, i < n → M' 76 (400 * t + (q + b) + i) = zrop (c.getD (b + i) (0, 0)) ∧ M' 77 (400 * t + (q + b) + i) = zrov (c.getD (b + i) (0, 0))) → (∀ t', t' ≠ t → (∀ w, w < 4 → M' 75 (4 * t' + w) = M 75 (4 * t' + w)) ∧ ∀ j, j < 400 → M' 76 (400 * t' + j) = M 76 (400 * t' + j) ∧ M' 77 (400 * t' + j) = M 77 (400 * t' + j)) → F (some (.int (nI t))) (X, b, zLay, K, B, (zu M' 72 7 (nI (t + 1))))) (hbad : ∀ f a, o = .bad f a → 1 ≤ f ∧ f ≤ 5) : zCall (d + 21) zm_Model_text [.ref 71] (X, b, zLay, K, B, M) F := by
  refine zb_Model_text_0 (n7 := t) (len := len) hK h7 (by omega) hl hl3 (fun _ => ?_) (fun z => absurd z (by omega))
  generalize hM1 : (zu (zu (zu (zu (zu (zu (zu (zu (zu (zu (zu M 71 9 (nI len)) 71 3 0) 71 10 0) 71 14 0) 71 15 (-1)) 71 16 0) 71 17 0) 71 20 0) 71 23 4) 71 24 0) 71 27 0) = M1
  have o1 : ∀ c, c ≠ 71 → M1 c = M c := fun c hc => by rw [← hM1]; repeat rw [zu_oc hc]
  have f3 : M1 71 3 = 0 := by rw [← hM1]; rfl
  have f9 : M1 71 9 = nI len := by rw [← hM1]; rfl
  have f10 : M1 71 10 = nI 0 := by rw [← hM1]; rfl
  have f14 : M1 71 14 = 0 := by rw [← hM1]; rfl
  have f15 : M1 71 15 = -1 := by rw [← hM1]; rfl
  have f16 : M1 71 16 = 0 := by rw [← hM1]; rfl
  have f17 : M1 71 17 = 0 := by rw [← hM1]; rfl
  have f20 : M1 71 20 = 0 := by rw [← hM1]; rfl
  have f23 : M1 71 23 = 4 := by rw [← hM1]; rfl
  have f27 : M1 71 27 = nI 0 := by rw [← hM1]; rfl
  refine lp_73 (M0 := M1) hK (fun M2 u1 u2 => ?_) 4 0 M1 rfl (fun _ _ => rfl) (fun w hw => absurd hw (Nat.not_lt_zero _))
  have tm2 : ztM M2 T len := ⟨by rw [u1 71 (by decide)]; exact f9, hl3, by rw [u1 74 (by decide), o1 74 (by decide)]; exact htp⟩
  refine sp_next (d := d + 14) (p := 0) hK tm2 (by rw [u1 71 (by decide)]; exact f10) (by omega) (fun M3 m3 t3 => ?_)
  have o3 : ∀ c, c ≠ 71 → c ≠ 82 → M3 c = M c := fun c h1 h2 => (m3.1 c h1).trans ((u1 c h2).trans (o1 c h1))
  have i3 : ∀ i, i < 10 ∨ 13 < i → M3 71 i = M1 71 i := fun i hi => by rw [m3.2 i hi, u1 71 (by decide)]
  show ztLp d F X b K B M3
  refine ztD_ref (M0 := M3) hK hl3 D ?_ M3 ⟨ztM_f m3 tm2, t3, Nat.zero_le _, by rw [i3 14 (by omega)]; exact f14, by rw [i3 16 (by omega)]; exact f16, by rw [i3 17 (by omega)]; exact f17, by rw [i3 20 (by omega)]; exact f20, by rw [i3 23 (by omega)]; exact f23, by rw [i3 27 (by omega)]; exact f27, rfl, Nat.zero_le _, fun w hw => Or.inl ⟨rfl, by rw [m3.1 82 (by decide)]; exact u2 w hw⟩, ⟨fun _ _ _ => rfl, fun _ _ _ _ _ _ _ => rfl⟩, by rw [i3 15 (by omega)]; exact f15⟩
  have yy : ∀ M4, ztX M3 M4 → (∀ c, c ≠ 71 → ¬ (78 ≤ c ∧ c ≤ 84) → M4 c = M c) ∧ M4 71 3 = 0 := fun M4 x4 => ⟨fun c h1 h2 => (x4.1 c h1 h2).trans (o3 c h1 (by omega)), by rw [x4.2 3 (by omega) (by decide) (by decide) (by decide) (by decide) (by decide), i3 3 (by omega)]; exact f3⟩
  cases o using zO3.cs with
  | bad f a =>
    have hf := hbad f a rfl
    intro M4 h14 h15 x4
    obtain ⟨y1, y2⟩ := yy M4 x4
    have f0 : ¬ (nI f = (0 : Int32)) := fun q => by
      have := (nI_eq (b := 0) (by omega) (by omega)).mp q
      omega
    have e187 : zEx (zCall (d + 20)) 10 false 1 zc_Model_text F 187 [.ref 71, .int (nI 4), .null] [] (X, b, zLay, K, B, M4) := by
      refine zb_Model_text_187 (n7 := t) hK 4 h14 h15 (by rw [y1 72 (by decide) (by decide)]; exact h7) ht (fun z => ?_) (fun _ => ?_)
      · have z : nI f ≤ nI 0 := z
        rw [nI_leI (by omega) (by omega)] at z
        omega
      · refine kb f a _ rfl hf ⟨fun c h1 h2 => by rw [zu_oc h1, zu_oc h1]; exact y1 c h1 (by omega), by rw [zu_at, if_neg (by decide), zu_at, if_neg (by decide)]; exact y2⟩ (fun c h1 h2 => by rw [zu_oc (by omega), zu_oc (by omega)]; exact y1 c (by omega) (by omega)) (by rw [zu_at, if_neg (by decide), zu_at, if_pos rfl]) (by rw [zu_at, if_pos rfl])
    exact zb_Model_textW_95 (so := M4 71 12) (st := M4 71 23) 4 h14 rfl rfl f0 (fun _ => e187) (fun z => absurd z f0) (fun z => absurd z f0) (fun z => absurd z f0) (fun z => absurd z f0) (fun z => absurd z f0) (fun z => absurd z f0) (fun z => absurd z f0) (fun z => absurd z f0) (fun z => absurd z f0) (fun z => absurd z f0) (fun z => absurd z f0)
  | ok c k I =>
    intro M4 p4 hU h0
    obtain ⟨y1, y2⟩ := yy M4 hU.fx
    have s0 := hU.rt.2.2.1 h0
    have hp4 := (ztok T (len := len) p4 hU.pl).2.1
    have ls := hU.ls
    have k4 := zcnt_le I
    rw [hU.k4] at k4
    have z75 : M4 75 = M 75 := y1 75 (by decide) (by decide)
    have z76 : M4 76 = M 76 := y1 76 (by decide) (by decide)
    have z77 : M4 77 = M 77 := y1 77 (by decide) (by decide)
    refine zb_Model_textS4_95 4 hU.wr hU.st rfl (fun _ => ?_) (fun z => absurd s0 z)
    refine zb_Model_text_187 (n7 := t) hK 4 hU.wr rfl (by rw [y1 72 (by decide) (by decide)]; exact h7) ht (fun _ => ?_) (fun z => absurd (by decide) z)
    generalize hM5 : (zu (zu M4 71 4 0) 71 5 (M4 71 15)) = M5
    have o5 : ∀ c, c ≠ 71 → M5 c = M4 c := fun c hc => by rw [← hM5, zu_oc hc, zu_oc hc]
    have i5 : ∀ i, i ≠ 4 → i ≠ 5 → M5 71 i = M4 71 i := fun i h1 h2 => by rw [← hM5, zu_at, if_neg h2, zu_at, if_neg h1]
    have i54 : M5 71 4 = 0 := by rw [← hM5]; rfl
    have i55 : M5 71 5 = M4 71 15 := by rw [← hM5]; rfl
    refine lp_222 (M0 := M5) hK ht (fun M6 v1 v2 v3 => ?_) 4 0 M5 rfl (fun _ _ => rfl) (fun w hw => absurd hw (Nat.not_lt_zero _)) (fun _ _ _ _ => rfl)
    refine lp_271 (M0 := M6) (no := k + c.length) hK ht (by rw [v1 71 (by decide), i5 27 (by decide) (by decide)]; exact hU.no) (by omega) (by rw [v1 72 (by decide), o5 72 (by decide), y1 72 (by decide) (by decide)]; exact h7) (fun M7 w1 w2 w3 => ?_) (k + c.length) 0 M6 (by omega) (fun _ _ _ => rfl) (fun j hj => absurd hj (Nat.not_lt_zero _)) (fun _ _ _ _ => ⟨rfl, rfl⟩)
    have m83 : ∀ j, j < k + c.length → M7 76 (400 * t + j) = M4 83 j ∧ M7 77 (400 * t + j) = M4 84 j := fun j hj => by
      rw [(w2 j hj).1, (w2 j hj).2, v1 83 (by decide), v1 84 (by decide), o5 83 (by decide), o5 84 (by decide)]
      exact ⟨rfl, rfl⟩
    refine ko c k I M7 rfl ⟨fun c' h1 h2 => by rw [w1 c' (by omega) (by omega), v1 c' (by omega), o5 c' h1]; exact y1 c' h1 (by omega), by rw [w1 71 (by decide) (by decide), v1 71 (by decide), i5 3 (by decide) (by decide)]; exact y2⟩ (by rw [w1 71 (by decide) (by decide), v1 71 (by decide)]; exact i54) (by rw [w1 71 (by decide) (by decide), v1 71 (by decide), i55]; exact hU.wa) (fun w hw => ?_) (fun t' h1 => ⟨fun w hw => ?_, fun j hj => ?_⟩)
    · rw [w1 75 (by decide) (by decide), v2 w hw, o5 82 (by decide)]
      rcases hU.io w hw with r | ⟨b1, n1, q1, e1, e2, e3, e4, e5, e6⟩
      · rw [if_pos r.2]
        exact Or.inl ⟨r.1, rfl⟩
      · rw [e2, if_neg (zn1 (by omega))]
        refine Or.inr ⟨b1, n1, q1, e1, ?_, by omega, ?_, fun i hi => ?_⟩
        · apply Int32.toInt_inj.mp
          rw [Int32.toInt_add, nI_toInt (by omega), nI_toInt (by omega), nI_toInt (by omega), Int.bmod_eq_of_le (by omega) (by omega)]
          omega
        · rw [show 400 * t + (q1 + b1) + n1 = 400 * t + (q1 + b1 + n1) by omega, (m83 _ (by omega)).1]
          exact e5
        · rw [show 400 * t + (q1 + b1) + i = 400 * t + (q1 + b1 + i) by omega, (m83 _ (by omega)).1, (m83 _ (by omega)).2]
          exact e6 i hi
    · rw [w1 75 (by decide) (by decide), v3 t' w h1 hw, o5 75 (by decide), z75]
    · rw [(w3 t' j h1 hj).1, (w3 t' j h1 hj).2, v1 76 (by decide), v1 77 (by decide), o5 76 (by decide), o5 77 (by decide), z76, z77]
      exact ⟨rfl, rfl⟩
end OTX
theorem zTx_at {M M2 : Nat → Nat → Int32} {t : Nat} (h1 : M2 (56 + 4 * t) = M (56 + 4 * t)) (h2 : M2 (57 + 4 * t) = M (57 + 4 * t)) (h3 : M2 (58 + 4 * t) = M (58 + 4 * t)) (h75 : ∀ w, w < 4 → M2 75 (4 * t + w) = M 75 (4 * t + w)) (h76 : ∀ j, j < 400 → M2 76 (400 * t + j) = M 76 (400 * t + j) ∧ M2 77 (400 * t + j) = M 77 (400 * t + j)) (k : zTx M t) : zTx M2 t := by
  obtain ⟨ht, k⟩ := k
  refine ⟨ht, fun w hw => ?_⟩
  rw [h1, h2, h3, h75 w hw]
  rcases k w hw with r | ⟨f, r, c, g1, g2, g3, g4, g5, g6, g7, g8⟩
  · exact Or.inl r
  · refine Or.inr ⟨f, r, c, g1, g2, g3, g4, g5, g6, ?_, fun i hi => ?_⟩
    · rw [show 400 * t + r + c.length = 400 * t + (r + c.length) by omega, (h76 _ g3).1, ← Nat.add_assoc]
      exact g7
    · rw [show 400 * t + r + i = 400 * t + (r + i) by omega, (h76 _ (by omega)).1, (h76 _ (by omega)).2, ← Nat.add_assoc]
      exact g8 i hi
theorem ztD_f {T : Nat → Nat} {len p k : Nat} {c : List (Nat × Nat)} {I : Nat → Option (Nat × Nat × Nat)} {f a : Nat} (hD : ∀ {w L dp p : Nat} {c : List (Nat × Nat)} {o : zO}, zDt T len w L dp p c o → ∀ f a, o = .bad f a → 1 ≤ f ∧ f ≤ 5) (D : ztD T len p c k I (.bad f a)) : 1 ≤ f ∧ f ≤ 5 := by
  generalize ho : zO3.bad f a = o at D
  induction D using ztD.ind with
  | fin => cases ho
  | noc => cases ho; omega
  | was => cases ho; omega
  | cb _ _ _ D1 => cases ho; exact hD D1 _ _ rfl
  | cs => cases ho; omega
  | go _ _ _ _ _ _ ih => exact ih ho
theorem zDt_f {T : Nat → Nat} {len w L dp p : Nat} {c : List (Nat × Nat)} {o : zO} (D : zDt T len w L dp p c o) : ∀ f a, o = .bad f a → 1 ≤ f ∧ f ≤ 5 := by
  have za : ∀ (o : zO) x f a, zadd o x = .bad f a → o = .bad f a := fun o x f a h => by
    cases o using zO.cs with
    | ok p c => cases h
    | bad g b => exact h
  induction D using zDv.ind with
  | jb _ _ ih => exact ih
  | jo _ _ _ _ i2 => exact i2
  | ls => intro f a e; cases e
  | lb _ _ _ ih => exact ih
  | lo _ _ _ _ _ i2 => exact i2
  | n8 => intro f a e; cases e; omega
  | nt _ _ _ ih => intro f a e; exact ih f a (za _ _ f a e)
  | ab _ _ ih => exact ih
  | ax => intro f a e; cases e; omega
  | ao _ _ _ _ _ i2 => intro f a e; exact i2 f a (za _ _ f a e)
  | m8 => intro f a e; cases e; omega
  | mo _ _ _ ih => intro f a e; exact ih f a (za _ _ f a e)
  | pb _ _ _ ih => exact ih
  | px => intro f a e; cases e; omega
  | po => intro f a e; cases e
  | nb => intro f a e; cases e; omega
  | nk => intro f a e; cases e
  | wb => intro f a e; cases e; omega
  | wk => intro f a e; cases e
  | el => intro f a e; cases e; omega
theorem zop_textX {X : zX} (hX1 : X 1001 = some (7, zknf)) : zOp zInv X zm_Boats_text zm_Model_text [] := by
  intro d K B M hI
  obtain ⟨hK, hSw, n, n', h⟩ := id hI
  have hb := h.1.2
  obtain ⟨⟨⟨c0, c1, c2, c3, c4, c5, c6, c7⟩, b0, b1, b2, b3, b4, b5, b6, b7⟩, -, -, ⟨q0, q1, q2, q3, q4, q5, q6, q7⟩, -⟩ := id h
  obtain ⟨len, l3, t1, t2, t3⟩ := zIn_tp h
  have e07 : M 0 7 = nI (n 7) := q7.trans c7
  by_cases h4 : n 7 < 4
  · have kt : zget zLay (55 + 4 * n 7) = some (.inl 8) ∧ (zlk2 zKtL (55 + 4 * n 7) 2 = some (56 + 4 * n 7) ∧ zlk2 zKtL (55 + 4 * n 7) 3 = some (57 + 4 * n 7) ∧ zlk2 zKtL (55 + 4 * n 7) 0 = some (58 + 4 * n 7)) ∧ (zget zLay (56 + 4 * n 7) = some (.inr (0, 4)) ∧ zget zLay (57 + 4 * n 7) = some (.inr (0, 4))) ∧ zget zLay (58 + 4 * n 7) = some (.inr (0, 300)) := by
      have z : n 7 = 0 ∨ n 7 = 1 ∨ n 7 = 2 ∨ n 7 = 3 := by omega
      rcases z with z | z | z | z <;> (rw [z]; exact ⟨rfl, ⟨rfl, rfl, rfl⟩, ⟨rfl, rfl⟩, rfl⟩)
    have hH : ztH5 X K (55 + 4 * n 7) (58 + 4 * n 7) (56 + 4 * n 7) (57 + 4 * n 7) := ⟨⟨hK, hX1, kt.1, hK _ _ _ kt.2.1.2.2, kt.2.2.2, by omega⟩, hK _ _ _ kt.2.1.1, kt.2.2.1.1, hK _ _ _ kt.2.1.2.1, kt.2.2.1.2, by omega⟩
    have hTx : ∀ i, i < len → (M 32 i = nI ((M 32 i).toNatClampNeg) ∧ M 74 i = zB8 ((M 32 i).toNatClampNeg)) ∧ (M 32 i).toNatClampNeg < 256 := fun i hi => by
      obtain ⟨x, hx, e1, e2⟩ := t3 i hi
      rw [e1, nI_clamp (by omega)]
      exact ⟨⟨rfl, e2⟩, hx⟩
    have hT0 : ztT M (fun i => (M 32 i).toNatClampNeg) len := ⟨t1, l3, fun i hi => ⟨(hTx i hi).1.1, (hTx i hi).2⟩⟩
    refine zb_Boats_text_0 (d := d + 80) (n7 := n 7) (tx := 55 + 4 * n 7) hK e07 (by omega) (fun _ => zK37 hK h4) (fun _ => kt.1) (fun z => absurd z (by omega)) (fun _ => ?_)
    refine sp_into (d := d + 88) hH hT0 (fun o M1 D P Fr => ?_)
    generalize hTn : (fun i => (M 32 i).toNatClampNeg) = T at D P
    have hTp : ∀ i, i < len → M 74 i = zB8 (T i) ∧ T i < 256 := fun i hi => by rw [← hTn]; exact ⟨(hTx i hi).1.2, (hTx i hi).2⟩
    have fr : ∀ c, c ≠ 31 → ¬ (55 ≤ c ∧ c ≤ 70) → M1 c = M c := fun c h1 h2 => Fr c h1 (by omega) (by omega) (by omega) (by omega)
    have frx : ∀ c, c ≠ 31 → ¬ (55 + 4 * n 7 ≤ c ∧ c ≤ 58 + 4 * n 7) → M1 c = M c := fun c h1 h2 => Fr c h1 (by omega) (by omega) (by omega) (by omega)
    cases o using zO3.cs with
    | bad f a =>
      have hf := ztD_f (fun D => zDt_f D) D
      refine zb_Boats_text_24 (d := d + 80) (n7 := n 7) 0 (by rw [zu_oc (by decide), fr 0 (by decide) (by decide)]; exact e07) h4 (fun z => absurd rfl z) (fun _ => ?_)
      refine ⟨-1, K, B, _, rfl, rfl, ?_⟩
      refine sp_textM (d := d + 179) (t := n 7) (T := T) (len := len) hK h4 (by rw [zu_oc (by decide), fr 72 (by decide) (by decide)]; exact c7) (by rw [zu_oc (by decide), fr 71 (by decide) (by decide)]; exact t2) l3 (by rw [zu_oc (by decide), fr 74 (by decide) (by decide)]; exact hTp) D (fun f2 a2 M2 e hf2 Y h75 h4' h5' => ?_) (fun c k I M2 e => by cases e) (fun f2 a2 e => by cases e; exact hf)
      cases e
      obtain ⟨y1, y2⟩ := Y
      have y31 : ∀ i, i ≠ 1 → M2 31 i = M1 31 i := fun i hi => by rw [y1 31 (by decide) (by decide), zu_at, if_neg hi]
      refine ⟨K, B, M2, rfl, rfl, hK, hSw, n, n', zIn_rd h (fun c hc => ?_) ⟨0, by omega, by rw [y1 31 (by decide) (by decide), zu_at, if_pos rfl]; rfl, y2, fun i hi => absurd hi (Nat.not_lt_zero _)⟩ ⟨by rw [y31 2 (by decide), h4']; exact P.1, by rw [y31 3 (by decide), h5']; exact P.2.2⟩ (fun t' ht' => ?_)⟩
      · rw [y1 c (by omega) (by omega), zu_oc (by omega)]
        exact fr c (by omega) (by omega)
      · have g : ∀ c, 55 ≤ c → c ≤ 70 → ¬ (55 + 4 * n 7 ≤ c ∧ c ≤ 58 + 4 * n 7) → M2 c = M c := fun c d1 d2 d3 => by rw [y1 c (by omega) (by omega), zu_oc (by omega)]; exact frx c (by omega) d3
        have g7 : ∀ c, 75 ≤ c → c ≤ 77 → M2 c = M c := fun c d1 d2 => by rw [h75 c d1 d2, zu_oc (by omega)]; exact fr c (by omega) (by omega)
        refine zTx_at (g _ (by omega) (by omega) (by omega)) (g _ (by omega) (by omega) (by omega)) (g _ (by omega) (by omega) (by omega)) (fun w _ => by rw [g7 75 (by decide) (by decide)]) (fun j _ => by rw [g7 76 (by decide) (by decide), g7 77 (by decide) (by decide)]; exact ⟨rfl, rfl⟩) (zIn_tx h t' ht')
    | ok c k I =>
      obtain ⟨p1, hE⟩ := P
      have hIk := ztD_ok D c k I rfl (fun w _ b n q e => by cases e)
      refine zb_Boats_text_24 (d := d + 80) (n7 := n 7) 1 (by rw [zu_oc (by decide), fr 0 (by decide) (by decide)]; exact e07) h4 (fun _ => ?_) (fun z => absurd z (by decide))
      refine ⟨nI (n 7), K, B, _, rfl, rfl, ?_⟩
      generalize hMx : (zu (zu M1 31 1 0) 0 7 (nI (n 7 + 1))) = Mx
      have ox : ∀ c, c ≠ 31 → c ≠ 0 → Mx c = M1 c := fun c h1 h2 => by rw [← hMx, zu_oc h2, zu_oc h1]
      have x31 : ∀ i, i ≠ 1 → Mx 31 i = M1 31 i := fun i hi => by rw [← hMx, zu_oc (by decide), zu_at, if_neg hi]
      have x311 : Mx 31 1 = 0 := by rw [← hMx, zu_oc (by decide), zu_at, if_pos rfl]
      have x07 : Mx 0 7 = nI (n 7 + 1) := by rw [← hMx, zu_at, if_pos rfl]
      refine sp_textM (d := d + 179) (t := n 7) (T := T) (len := len) hK h4 (by rw [ox 72 (by decide) (by decide), fr 72 (by decide) (by decide)]; exact c7) (by rw [ox 71 (by decide) (by decide), fr 71 (by decide) (by decide)]; exact t2) l3 (by rw [ox 74 (by decide) (by decide), fr 74 (by decide) (by decide)]; exact hTp) D (fun f2 a2 M2 e => by cases e) (fun c2 k2 I2 M2 e Y h4' h5' hio hot => ?_) (fun f2 a2 e => by cases e)
      cases e
      obtain ⟨y1, y2⟩ := Y
      refine ⟨K, B, _, rfl, rfl, hK, hSw, fun k => if k = 7 then n 7 + 1 else n k, n', ?_⟩
      generalize hMf : zu M2 72 7 (nI (n 7 + 1)) = Mf
      have of : ∀ c, c ≠ 72 → Mf c = M2 c := fun c hc => by rw [← hMf, zu_oc hc]
      have g : ∀ c, 55 ≤ c → c ≤ 70 → ¬ (55 + 4 * n 7 ≤ c ∧ c ≤ 58 + 4 * n 7) → Mf c = M c := fun c d1 d2 d3 => by rw [of c (by omega), y1 c (by omega) (by omega), ox c (by omega) (by omega)]; exact frx c (by omega) d3
      have gx : ∀ c, 55 ≤ c → c ≤ 70 → Mf c = M1 c := fun c d1 d2 => by rw [of c (by omega), y1 c (by omega) (by omega), ox c (by omega) (by omega)]
      have gl : ∀ c, c ≤ 30 ∨ c = 34 ∨ c = 73 → c ≠ 0 → Mf c = M c := fun c hc h0 => by rw [of c (by omega), y1 c (by omega) (by omega), ox c (by omega) h0]; exact fr c (by omega) (by omega)
      have g31 : ∀ i, i ≠ 1 → Mf 31 i = M1 31 i := fun i hi => by rw [of 31 (by decide), y1 31 (by decide) (by decide)]; exact x31 i hi
      have txt : zTx Mf (n 7) := by
        refine ⟨h4, fun w hw => ?_⟩
        rw [gx (56 + 4 * n 7) (by omega) (by omega), gx (57 + 4 * n 7) (by omega) (by omega), gx (58 + 4 * n 7) (by omega) (by omega), of 75 (by decide), of 76 (by decide), of 77 (by decide)]
        rcases hE.io w hw with ⟨r1, r2⟩ | ⟨b1, m1, s1, e1, e2, e3, e4⟩
        · rcases hio w hw with ⟨-, r4⟩ | ⟨b2, m2, s2, f1, -⟩
          · exact Or.inl ⟨r2, r4⟩
          · rw [r1] at f1; cases f1
        · rcases hio w hw with ⟨r3, -⟩ | ⟨b2, m2, s2, f1, f2, f3, f4, f5⟩
          · rw [e1] at r3; cases r3
          · rw [e1] at f1
            cases f1
            obtain ⟨k1, k2, k3⟩ := hIk w hw _ _ _ e1
            have lc : ((c.drop b1).take m1).length = m1 := by rw [List.length_take, List.length_drop]; omega
            have gd : ∀ i, i < m1 → ((c.drop b1).take m1).getD i (0, 0) = c.getD (b1 + i) (0, 0) := fun i hi => by
              simp [List.getD, List.getElem?_take, hi, List.getElem?_drop]
            have l300 := hE.l3
            refine Or.inr ⟨b1, s1 + b1, (c.drop b1).take m1, k3, by omega, by omega, e2, by rw [lc]; exact e3, f2, by rw [lc]; exact f4, fun i hi => ?_⟩
            rw [lc] at hi
            rw [gd i hi]
            exact ⟨hE.cd (b1 + i) (by omega), f5 i hi⟩
      generalize hMi : (fun c => if c = 0 then M 0 else if c = 72 then M 72 else Mf c) = Mi
      have i0 : Mi 0 = M 0 := by rw [← hMi]; rfl
      have i72 : Mi 72 = M 72 := by rw [← hMi]; rfl
      have io : ∀ c, c ≠ 0 → c ≠ 72 → Mf c = Mi c := fun c h1 h2 => by rw [← hMi]; simp [h1, h2]
      have hi : zIn Mi n n' := by
        refine zIn_rd h (fun c hc => ?_) ⟨0, by omega, ?_, ?_, fun i hi => absurd hi (Nat.not_lt_zero _)⟩ ⟨?_, ?_⟩ (fun t' ht' => ?_)
        · by_cases z0 : c = 0
          · rw [z0]; exact i0
          · by_cases z72 : c = 72
            · rw [z72]; exact i72
            · rw [← io c z0 z72]
              exact gl c (by omega) z0
        · rw [← io 31 (by decide) (by decide), of 31 (by decide), y1 31 (by decide) (by decide)]; exact x311
        · rw [← io 71 (by decide) (by decide), of 71 (by decide)]; exact y2
        · rw [← io 31 (by decide) (by decide), ← io 71 (by decide) (by decide), g31 2 (by decide), of 71 (by decide), h4']; exact hE.fl
        · rw [← io 31 (by decide) (by decide), ← io 71 (by decide) (by decide), g31 3 (by decide), of 71 (by decide), h5']; exact hE.fa
        · have ot := hot t' (by omega)
          have b75 : Mx 75 = M 75 := (ox 75 (by decide) (by decide)).trans (fr 75 (by decide) (by decide))
          have b76 : Mx 76 = M 76 := (ox 76 (by decide) (by decide)).trans (fr 76 (by decide) (by decide))
          have b77 : Mx 77 = M 77 := (ox 77 (by decide) (by decide)).trans (fr 77 (by decide) (by decide))
          refine zTx_at (by rw [← io _ (by omega) (by omega)]; exact g _ (by omega) (by omega) (by omega)) (by rw [← io _ (by omega) (by omega)]; exact g _ (by omega) (by omega) (by omega)) (by rw [← io _ (by omega) (by omega)]; exact g _ (by omega) (by omega) (by omega)) (fun w hw => by rw [← io 75 (by decide) (by decide), of 75 (by decide), ot.1 w hw, b75]) (fun j hj => by rw [← io 76 (by decide) (by decide), ← io 77 (by decide) (by decide), of 76 (by decide), of 77 (by decide), (ot.2 j hj).1, (ot.2 j hj).2, b76, b77]; exact ⟨rfl, rfl⟩) (zIn_tx h t' ht')
      refine zIn_bump hi h4 io (by rw [of 0 (by decide), y1 0 (by decide) (by decide)]; exact x07) (by rw [← hMf, zu_at, if_pos rfl]) (fun j hj => ?_) txt
      rw [i72, ← hMf, zu_at, if_neg hj, y1 72 (by decide) (by decide), ox 72 (by decide) (by decide), fr 72 (by decide) (by decide)]
  · have n4 : n 7 = 4 := by omega
    refine zb_Boats_text_0 (d := d + 80) (n7 := n 7) (tx := 55) hK e07 (by omega) (fun z => absurd z (by omega)) (fun z => absurd z (by omega)) (fun _ => ?_) (fun z => absurd z (by omega))
    refine ⟨-1, K, B, M, rfl, rfl, ?_⟩
    exact zb_Model_text_0 (d := d + 179) (n7 := n 7) (len := len) hK c7 (by omega) t2 l3 (fun z => absurd n4 z) (fun _ => ⟨K, B, M, rfl, rfl, hI⟩)
theorem zop_text (L : Nat) (xs : Nat → Int32) : zOp zInv (zX0 L xs) zm_Boats_text zm_Model_text [] := zop_textX rfl
