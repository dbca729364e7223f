/-! ===== journeys of the reference: what it lays ===== -/
/-- the reference's miles of all days, and what else its journeys rest on -/
def zRf87 (M : Nat → Nat → Int32) (np m pc : Nat) (D : Nat → Nat → Nat → Nat) : Prop := zSn (M 72) np m ∧ M 72 3 = nI pc ∧ pc ≤ 60 ∧ (∀ dd, dd < 61 → zMr M dd (D dd)) ∧ (∀ d x y, D d x y ≤ 100000) ∧ (∀ d x y, D d x y = D d y x)
theorem zRf87_same {M M2 : Nat → Nat → Int32} {np m pc : Nat} {D : Nat → Nat → Nat → Nat} (h : zRf87 M np m pc D) (h72 : M2 72 = M 72) (h87 : M2 87 = M 87) : zRf87 M2 np m pc D := by
  unfold zRf87 zMr at *
  rw [h72, h87]
  exact h
section JR
variable {d : Nat} {F : Option Value → zS → Prop} {X : zX} {b : Nat × Nat} {K : Nat → Nat → Option Nat} {B : Nat → Nat → Int64} {M : Nat → Nat → Int32} {np m pc : Nat} {D : Nat → Nat → Nat → Nat}
theorem zor_add (a x : Nat) (z : Bool) : (a ||| (bif z then x else 0)) ||| x = a ||| x := by
  cases z
  · simp
  · rw [cond_true, Nat.or_assoc, Nat.or_self]
theorem lp_rA20 (hK : zKok K) (hR : zRf87 M np m pc D) {S dd p : Nat} (hS : S < 1024) (hd : dd < 60) (hp : p < np) (kk : ∀ l6 : Value, l6.category = 1 → zEx (zCall d) 10 false 1 zc_Model_reaches F 6 [.ref 71, .int (nI S), .int (nI dd), .int 1, .int (nI (zsb (fun p => zany (fun q => S.testBit q && Nat.ble (D dd q p) pc) np) (p + 1))), .int (nI (p + 1)), l6] [] (X, b, zLay, K, B, M)) : ∀ (n j : Nat), j + n = np → zEx (zCall d) 10 false 1 zc_Model_reaches F 20 [.ref 71, .int (nI S), .int (nI dd), .int 1, .int (nI (zsb (fun p => zany (fun q => S.testBit q && Nat.ble (D dd q p) pc) np) p ||| (bif zany (fun q => S.testBit q && Nat.ble (D dd q p) pc) j then 2 ^ p else 0))), .int (nI p), .int (nI j)] [] (X, b, zLay, K, B, M) := by
  obtain ⟨hSn, h3, hpc, h87, hle, hsy⟩ := hR
  have hb := hSn.2.2.1
  intro n
  induction n with
  | zero =>
    intro j hj
    have hj : j = np := by omega
    subst hj
    exact zb_Model_reachesA_20 (v := 0) hK S dd _ p j hSn hb ⟨hS, hd⟩ h3 hpc hp (by omega) (fun h => absurd h (by omega)) (by omega) (fun _ => kk _ rfl) (fun h => absurd h (by omega)) (fun h => absurd h (by omega)) (fun h => absurd h (by omega))
  | succ n ih =>
    intro j hj
    have e := ih (j + 1) (by omega)
    have st : zany (fun q => S.testBit q && Nat.ble (D dd q p) pc) (j + 1) = (zany (fun q => S.testBit q && Nat.ble (D dd q p) pc) j || (S.testBit j && Nat.ble (D dd j p) pc)) := rfl
    rw [st] at e
    refine zb_Model_reachesA_20 (v := D dd j p) hK S dd _ p j hSn hb ⟨hS, hd⟩ h3 hpc hp (by omega) (fun _ => h87 dd (by omega) j p (by omega) (by omega)) (hle _ _ _) (fun h => absurd h (by omega)) (fun _ h => ?_) (fun _ h h2 => ?_) (fun _ h h2 => ?_)
    · rw [h, Bool.false_and, Bool.or_false] at e; exact e
    · have : Nat.ble (D dd j p) pc = false := by
        cases q : Nat.ble (D dd j p) pc
        · rfl
        · have := Nat.le_of_ble_eq_true q; omega
      rw [this, Bool.and_false, Bool.or_false] at e; exact e
    · rw [h, Nat.ble_eq_true_of_le h2, Bool.and_true, Bool.or_true, cond_true] at e
      rw [zor_add]
      exact e
theorem lp_rA6 (hK : zKok K) (hR : zRf87 M np m pc D) {S dd : Nat} (hS : S < 1024) (hd : dd < 60) (kk : F (some (.int (nI (zrc np pc (D dd) S)))) (X, b, zLay, K, B, M)) : ∀ (n p : Nat) (l6 : Value), l6.category = 1 → p + n = np → zEx (zCall d) 10 false 1 zc_Model_reaches F 6 [.ref 71, .int (nI S), .int (nI dd), .int 1, .int (nI (zsb (fun p => zany (fun q => S.testBit q && Nat.ble (D dd q p) pc) np) p)), .int (nI p), l6] [] (X, b, zLay, K, B, M) := by
  have hSn := hR.1
  have hb := hSn.2.2.1
  intro n
  induction n with
  | zero =>
    intro p l6 q6 hp
    have hp : p = np := by omega
    subst hp
    exact zb_Model_reachesA_6 (v := 0) hK S dd _ p l6 q6 hSn hb ⟨hS, hd⟩ hR.2.1 hR.2.2.1 (by omega) (fun _ => kk) (fun h => absurd h (by omega))
  | succ n ih =>
    intro p l6 q6 hp
    refine zb_Model_reachesA_6 (v := 0) hK S dd _ p l6 q6 hSn hb ⟨hS, hd⟩ hR.2.1 hR.2.2.1 (by omega) (fun h => absurd h (by omega)) (fun _ => ?_)
    have e := lp_rA20 (d := d) (F := F) (X := X) (b := b) (B := B) hK hR hS hd (show p < np by omega) (fun l6 q6 => ih (p + 1) l6 q6 (by omega)) np 0 (by omega)
    rw [show zany (fun q => S.testBit q && Nat.ble (D dd q p) pc) 0 = false from rfl, cond_false, Nat.or_zero] at e
    exact e
theorem sp_reachesA (hK : zKok K) (hR : zRf87 M np m pc D) {S dd : Nat} (hS : S < 1024) (hd : dd < 60) (kk : F (some (.int (nI (zrc np pc (D dd) S)))) (X, b, zLay, K, B, M)) : zCall (d + 1) zm_Model_reaches [.ref 71, .int (nI S), .int (nI dd), .int 1] (X, b, zLay, K, B, M) F := by
  refine zb_Model_reachesA_0 (v := 0) S dd hR.1 hR.1.2.2.1 ⟨hS, hd⟩ hR.2.1 hR.2.2.1 ?_
  exact lp_rA6 hK hR hS hd kk np 0 .null rfl (by omega)
theorem lp_rB20 (hK : zKok K) (hR : zRf87 M np m pc D) {S dd p : Nat} (hS : S < 1024) (hd : dd < 60) (hp : p < np) (kk : ∀ l6 : Value, l6.category = 1 → zEx (zCall d) 10 false 1 zc_Model_reaches F 6 [.ref 71, .int (nI S), .int (nI dd), .int 0, .int (nI (zsb (fun p => zany (fun q => S.testBit q && Nat.ble (D dd q p) pc) np) (p + 1))), .int (nI (p + 1)), l6] [] (X, b, zLay, K, B, M)) : ∀ (n j : Nat), j + n = np → zEx (zCall d) 10 false 1 zc_Model_reaches F 20 [.ref 71, .int (nI S), .int (nI dd), .int 0, .int (nI (zsb (fun p => zany (fun q => S.testBit q && Nat.ble (D dd q p) pc) np) p ||| (bif zany (fun q => S.testBit q && Nat.ble (D dd q p) pc) j then 2 ^ p else 0))), .int (nI p), .int (nI j)] [] (X, b, zLay, K, B, M) := by
  obtain ⟨hSn, h3, hpc, h87, hle, hsy⟩ := hR
  have hb := hSn.2.2.1
  intro n
  induction n with
  | zero =>
    intro j hj
    have hj : j = np := by omega
    subst hj
    exact zb_Model_reachesB_20 (v := 0) hK S dd _ p j hSn hb ⟨hS, hd⟩ h3 hpc hp (by omega) (fun h => absurd h (by omega)) (by omega) (fun _ => kk _ rfl) (fun h => absurd h (by omega)) (fun h => absurd h (by omega)) (fun h => absurd h (by omega))
  | succ n ih =>
    intro j hj
    have e := ih (j + 1) (by omega)
    have st : zany (fun q => S.testBit q && Nat.ble (D dd q p) pc) (j + 1) = (zany (fun q => S.testBit q && Nat.ble (D dd q p) pc) j || (S.testBit j && Nat.ble (D dd j p) pc)) := rfl
    rw [st] at e
    refine zb_Model_reachesB_20 (v := D dd j p) hK S dd _ p j hSn hb ⟨hS, hd⟩ h3 hpc hp (by omega) (fun _ => by rw [hsy]; exact h87 dd (by omega) p j (by omega) (by omega)) (hle _ _ _) (fun h => absurd h (by omega)) (fun _ h => ?_) (fun _ h h2 => ?_) (fun _ h h2 => ?_)
    · rw [h, Bool.false_and, Bool.or_false] at e; exact e
    · have : Nat.ble (D dd j p) pc = false := by
        cases q : Nat.ble (D dd j p) pc
        · rfl
        · have := Nat.le_of_ble_eq_true q; omega
      rw [this, Bool.and_false, Bool.or_false] at e; exact e
    · rw [h, Nat.ble_eq_true_of_le h2, Bool.and_true, Bool.or_true, cond_true] at e
      rw [zor_add]
      exact e
theorem lp_rB6 (hK : zKok K) (hR : zRf87 M np m pc D) {S dd : Nat} (hS : S < 1024) (hd : dd < 60) (kk : F (some (.int (nI (zrc np pc (D dd) S)))) (X, b, zLay, K, B, M)) : ∀ (n p : Nat) (l6 : Value), l6.category = 1 → p + n = np → zEx (zCall d) 10 false 1 zc_Model_reaches F 6 [.ref 71, .int (nI S), .int (nI dd), .int 0, .int (nI (zsb (fun p => zany (fun q => S.testBit q && Nat.ble (D dd q p) pc) np) p)), .int (nI p), l6] [] (X, b, zLay, K, B, M) := by
  have hSn := hR.1
  have hb := hSn.2.2.1
  intro n
  induction n with
  | zero =>
    intro p l6 q6 hp
    have hp : p = np := by omega
    subst hp
    exact zb_Model_reachesB_6 (v := 0) hK S dd _ p l6 q6 hSn hb ⟨hS, hd⟩ hR.2.1 hR.2.2.1 (by omega) (fun _ => kk) (fun h => absurd h (by omega))
  | succ n ih =>
    intro p l6 q6 hp
    refine zb_Model_reachesB_6 (v := 0) hK S dd _ p l6 q6 hSn hb ⟨hS, hd⟩ hR.2.1 hR.2.2.1 (by omega) (fun h => absurd h (by omega)) (fun _ => ?_)
    have e := lp_rB20 (d := d) (F := F) (X := X) (b := b) (B := B) hK hR hS hd (show p < np by omega) (fun l6 q6 => ih (p + 1) l6 q6 (by omega)) np 0 (by omega)
    rw [show zany (fun q => S.testBit q && Nat.ble (D dd q p) pc) 0 = false from rfl, cond_false, Nat.or_zero] at e
    exact e
theorem sp_reachesB (hK : zKok K) (hR : zRf87 M np m pc D) {S dd : Nat} (hS : S < 1024) (hd : dd < 60) (kk : F (some (.int (nI (zrc np pc (D dd) S)))) (X, b, zLay, K, B, M)) : zCall (d + 1) zm_Model_reaches [.ref 71, .int (nI S), .int (nI dd), .int 0] (X, b, zLay, K, B, M) F := by
  refine zb_Model_reachesB_0 (v := 0) S dd hR.1 hR.1.2.2.1 ⟨hS, hd⟩ hR.2.1 hR.2.2.1 ?_
  exact lp_rB6 hK hR hS hd kk np 0 .null rfl (by omega)
theorem zfI_60 {f : Nat} (h : f ≤ 60) : zfI f = -1 ↔ f = 60 := by
  unfold zfI
  by_cases e : f = 60
  · rw [if_pos e]; exact ⟨fun _ => e, fun _ => rfl⟩
  · rw [if_neg e]; exact ⟨fun q => absurd q (znn (by omega) (by decide)).1, fun q => absurd q e⟩
theorem zfI_n {f : Nat} (h : f < 60) : zfI f = nI f := by
  unfold zfI
  rw [if_neg (by omega)]
theorem zlI_le {l x : Nat} (h : l ≤ 60) (hx : x < 60) : nI x ≤ zlI l ↔ x + 1 ≤ l := by
  unfold zlI
  by_cases e : l = 0
  · rw [if_pos e]; exact ⟨fun q => absurd q (znn (by omega) (by decide)).2.2.1, fun q => by omega⟩
  · rw [if_neg e, nI_leI (by omega) (by omega)]; omega
theorem zlI_s (x : Nat) : zlI (x + 1) = nI x := by
  unfold zlI
  rw [if_neg (by omega)]; rfl
/-- what laysSeen has laid -/
def zLs (M0 M : Nat → Nat → Int32) (bt k u np m : Nat) : Prop := (∀ c, c ≠ 88 → c ≠ 71 → M c = M0 c) ∧ (∀ i, i ≠ 33 → i ≠ 34 → M 71 i = M0 71 i) ∧ M 71 33 = zfI (zfi (M0 72) bt k u m) ∧ M 71 34 = zlI (zla (M0 72) bt k u m) ∧ ∀ d, d < 60 → M 88 d = nI (zal (M0 72) np bt k u m d)
theorem lp_ls13 {M0 : Nat → Nat → Int32} (hK : zKok K) (hS : zSn (M0 72) np m) {bt k u : Nat} (ha : bt < 8 ∧ k < 60 ∧ u ≤ 60) (kk : ∀ M, (∀ c, c ≠ 88 → M c = M0 c) → (∀ d, d < 60 → M 88 d = nI (2 ^ np - 1)) → zEx (zCall d) 10 false 2 zc_Model_laysSeen F 46 [.ref 71, .int (nI bt), .int (nI k), .int (nI u), .int (nI 0), .null, .null] [] (X, b, zLay, K, B, M)) : ∀ (n j : Nat) (M : Nat → Nat → Int32), j + n = 60 → (∀ c, c ≠ 88 → M c = M0 c) → (∀ d, d < j → M 88 d = nI (2 ^ np - 1)) → zEx (zCall d) 10 false 2 zc_Model_laysSeen F 13 [.ref 71, .int (nI bt), .int (nI k), .int (nI u), .int (nI j), .null, .null] [] (X, b, zLay, K, B, M) := by
  have hb := hS.2.2.1
  have hpw : 1 ≤ 2 ^ np ∧ 2 ^ np ≤ 1024 := ⟨zpos2 np, Nat.pow_le_pow_right (n := 2) (by decide) (show np ≤ 10 by omega)⟩
  intro n
  induction n with
  | zero =>
    intro j M hj hf h8
    refine zb_Model_laysSeen_13 (v := 0) hK bt k u j (by rw [hf 72 (by decide)]; exact hS) hb ha hpw (by omega) (fun _ => kk M hf (fun d hd => h8 d (by omega))) (fun h => absurd h (by omega))
  | succ n ih =>
    intro j M hj hf h8
    refine zb_Model_laysSeen_13 (v := 0) hK bt k u j (by rw [hf 72 (by decide)]; exact hS) hb ha hpw (by omega) (fun h => absurd h (by omega)) (fun _ => ?_)
    refine ih (j + 1) _ (by omega) (fun c hc => by funext i; rw [zu_no (by omega), hf c hc]) (fun e he => ?_)
    by_cases q : e = j
    · subst q; rw [zu_yes]
    · rw [zu_no (by omega), h8 e (by omega)]
theorem lp_ls46 {M0 : Nat → Nat → Int32} (hK : zKok K) (hS : zSn (M0 72) np m) {bt k u : Nat} (ha : bt < 8 ∧ k < 60 ∧ u ≤ 60) (kk : ∀ M, zLs M0 M bt k u np m → F (some (.int (zbi (decide (zfi (M0 72) bt k u m < 60))))) (X, b, zLay, K, B, M)) : ∀ (n j : Nat) (M : Nat → Nat → Int32) (l5 l6 : Value), l5.category = 1 → l6.category = 1 → j + n = m → zLs M0 M bt k u np j → zEx (zCall d) 10 false 2 zc_Model_laysSeen F 46 [.ref 71, .int (nI bt), .int (nI k), .int (nI u), .int (nI j), l5, l6] [] (X, b, zLay, K, B, M) := by
  have hb := hS.2.2.1
  have hSo := hS.2.2.2.2
  intro n
  induction n with
  | zero =>
    intro j M l5 l6 q5 q6 hj hl
    have hj : j = m := by omega
    subst hj
    have fl := zfl (bt := bt) (k := k) (u := u) hSo
    have key := zfI_60 fl.1
    rw [← hl.2.2.1] at key
    refine zb_Model_laysSeen_46 (v := 0) hK bt k u j l5 l6 q5 q6 (by rw [hl.1 72 (by decide) (by decide)]; exact hS) hb ha (fun h => absurd h (by omega)) (by omega) (fun h => absurd h (by omega)) (fun _ h => ?_) (fun _ h => ?_) (fun h => absurd h (by omega)) (fun h => absurd h (by omega)) (fun h => absurd h (by omega)) (fun h => absurd h (by omega)) (fun h => absurd h (by omega)) (fun h => absurd h (by omega)) (fun h => absurd h (by omega)) (fun h => absurd h (by omega)) (fun h => absurd h (by omega))
    · have e := kk M hl
      rw [decide_eq_false (by have := key.mp h; omega)] at e
      exact e
    · have e := kk M hl
      rw [decide_eq_true (by have := fl.1; have : zfi (M0 72) bt k u j ≠ 60 := fun q => h (key.mpr q); omega)] at e
      exact e
  | succ n ih =>
    intro j M l5 l6 q5 q6 hj hl
    have e72 : M 72 = M0 72 := hl.1 72 (by decide) (by decide)
    obtain ⟨s1, s2, s3, s0⟩ := hSo j (by omega)
    obtain ⟨a1, a2, a3, a4, a5⟩ := hl
    have fl := zfl (bt := bt) (k := k) (u := u) (m := j) (fun i hi => hSo i (by omega))
    have ef : zfi (M0 72) bt k u (j + 1) = bif zsm (M0 72) bt k u j then min (zfi (M0 72) bt k u j) (zsn (M0 72) 2 j) else zfi (M0 72) bt k u j := rfl
    have el : zla (M0 72) bt k u (j + 1) = bif zsm (M0 72) bt k u j then max (zla (M0 72) bt k u j) (zsn (M0 72) 2 j + 1) else zla (M0 72) bt k u j := rfl
    have ea : ∀ e, zal (M0 72) np bt k u (j + 1) e = bif zsm (M0 72) bt k u j && Nat.beq (zsn (M0 72) 2 j) e then zal (M0 72) np bt k u j e &&& 2 ^ (zsn (M0 72) 1 j) else zal (M0 72) np bt k u j e := fun _ => rfl
    have no : zsm (M0 72) bt k u j = false → ∀ w5 w6 : Value, w5.category = 1 → w6.category = 1 → zEx (zCall d) 10 false 2 zc_Model_laysSeen F 46 [.ref 71, .int (nI bt), .int (nI k), .int (nI u), .int (nI (j + 1)), w5, w6] [] (X, b, zLay, K, B, M) := by
      intro hm w5 w6 h5 h6
      refine ih (j + 1) M w5 w6 h5 h6 (by omega) ⟨a1, a2, ?_, ?_, fun e he => ?_⟩
      · rw [a3, ef, hm, cond_false]
      · rw [a4, el, hm, cond_false]
      · rw [a5 e he, ea, hm, Bool.false_and, cond_false]
    have go : zsm (M0 72) bt k u j = true → ∀ (x33 x34 : Int32) (w5 w6 : Value), w5.category = 1 → w6.category = 1 → x33 = zfI (min (zfi (M0 72) bt k u j) (zsn (M0 72) 2 j)) → x34 = zlI (max (zla (M0 72) bt k u j) (zsn (M0 72) 2 j + 1)) → zEx (zCall d) 10 false 2 zc_Model_laysSeen F 46 [.ref 71, .int (nI bt), .int (nI k), .int (nI u), .int (nI (j + 1)), w5, w6] [] (X, b, zLay, K, B, (zu (zu (zu M 88 (zsn (M0 72) 2 j) (nI ((zal (M0 72) np bt k u j (zsn (M0 72) 2 j)) &&& (2 ^ (zsn (M0 72) 1 j))))) 71 33 x33) 71 34 x34)) := by
      intro hm x33 x34 w5 w6 h5 h6 e33 e34
      refine ih (j + 1) _ w5 w6 h5 h6 (by omega) ⟨fun c h1 h2 => ?_, fun i h1 h2 => ?_, ?_, ?_, fun e he => ?_⟩
      · funext i; rw [zu_no (by omega), zu_no (by omega), zu_no (by omega), a1 c h1 h2]
      · rw [zu_no (by omega), zu_no (by omega), zu_no (by omega), a2 i h1 h2]
      · rw [zu_no (by omega), zu_yes, e33, ef, hm, cond_true]
      · rw [zu_yes, e34, el, hm, cond_true]
      · rw [zu_no (by omega), zu_no (by omega), ea, hm, Bool.true_and]
        by_cases q : zsn (M0 72) 2 j = e
        · rw [q, zu_yes, Nat.beq_refl, cond_true]
        · have : Nat.beq (zsn (M0 72) 2 j) e = false := by
            cases z : Nat.beq (zsn (M0 72) 2 j) e
            · rfl
            · exact absurd (Nat.eq_of_beq_eq_true z) q
          rw [zu_no (by omega), this, cond_false, a5 e he]
    have yes : zsn (M0 72) 0 j = bt → zsn (M0 72) 3 j ≤ k → zsn (M0 72) 2 j ≤ u → zsm (M0 72) bt k u j = true := by
      intro h1 h2 h3
      unfold zsm
      rw [h1, Nat.beq_refl, Nat.ble_eq_true_of_le h2, Nat.ble_eq_true_of_le h3]; rfl
    have k60 := zfI_60 fl.1
    have kl := zlI_le (x := zsn (M0 72) 2 j) fl.2.1 s2
    have i3 := fl.2.2.1
    have fmin : ∀ f : Nat, f < 60 → ¬ zfI f = -1 := fun f hf q => by have := (zfI_60 (by omega)).mp q; omega
    refine zb_Model_laysSeen_46 (v := zal (M0 72) np bt k u j (zsn (M0 72) 2 j)) hK bt k u j l5 l6 q5 q6 (by rw [e72]; exact hS) hb ha ?_ (by omega) ?_ (fun h => absurd h (by omega)) (fun h => absurd h (by omega)) ?_ ?_ ?_ ?_ ?_ ?_ ?_ ?_ ?_
    · rw [e72]; exact fun _ => ⟨by omega, s2, s3, s0⟩
    · rw [e72]; exact fun _ => a5 _ s2
    · rw [e72]
      refine fun _ h => no ?_ _ _ rfl rfl
      unfold zsm
      have : Nat.beq (zsn (M0 72) 0 j) bt = false := by
        cases z : Nat.beq (zsn (M0 72) 0 j) bt
        · rfl
        · exact absurd (Nat.eq_of_beq_eq_true z) h
      rw [this]; rfl
    · rw [e72]
      refine fun _ _ h => no ?_ _ _ rfl rfl
      unfold zsm
      have : Nat.ble (zsn (M0 72) 3 j) k = false := by
        cases z : Nat.ble (zsn (M0 72) 3 j) k
        · rfl
        · have := Nat.le_of_ble_eq_true z; omega
      rw [this, Bool.false_and, Bool.and_false]
    · rw [e72]
      refine fun _ _ _ h => no ?_ _ _ rfl rfl
      unfold zsm
      have : Nat.ble (zsn (M0 72) 2 j) u = false := by
        cases z : Nat.ble (zsn (M0 72) 2 j) u
        · rfl
        · have := Nat.le_of_ble_eq_true z; omega
      rw [this, Bool.and_false, Bool.and_false]
    · rw [e72, a3, a4]
      refine fun _ h1 h2 h3 h4 h5 => go (yes h1 h2 h3) _ _ _ _ rfl rfl ?_ ?_
      · have := k60.mp h4
        have := kl.mp h5
        omega
      · have := kl.mp h5
        rw [Nat.max_eq_left (by omega)]
    · rw [e72, a3, a4]
      refine fun _ h1 h2 h3 h4 h5 => go (yes h1 h2 h3) _ _ _ _ rfl rfl ?_ ?_
      · have := k60.mp h4
        rw [Nat.min_eq_right (by omega), zfI_n s2]
      · have : ¬ zsn (M0 72) 2 j + 1 ≤ zla (M0 72) bt k u j := fun q => h5 (kl.mpr q)
        rw [Nat.max_eq_right (by omega), zlI_s]
    all_goals
      rw [e72, a3, a4]
      refine fun _ h1 h2 h3 h4 h6 h5 => go (yes h1 h2 h3) _ _ _ _ rfl rfl ?_ ?_
      · have hlt : zfi (M0 72) bt k u j < 60 := by
          have := fl.1
          have : zfi (M0 72) bt k u j ≠ 60 := fun q => h4 (k60.mpr q)
          omega
        rw [zfI_n hlt, nI_leI (by omega) (by omega)] at h6
        first
        | (rw [Nat.min_eq_left (by omega)]; done)
        | (rw [Nat.min_eq_right (by omega), zfI_n s2]; done)
      · first
        | (have := kl.mp h5; rw [Nat.max_eq_left (by omega)]; done)
        | (have : ¬ zsn (M0 72) 2 j + 1 ≤ zla (M0 72) bt k u j := fun q => h5 (kl.mpr q); rw [Nat.max_eq_right (by omega), zlI_s]; done)
theorem sp_laysSeen (hK : zKok K) (hS : zSn (M 72) np m) {bt k u : Nat} (ha : bt < 8 ∧ k < 60 ∧ u ≤ 60) (kk : ∀ M', zLs M M' bt k u np m → F (some (.int (zbi (decide (zfi (M 72) bt k u m < 60))))) (X, b, zLay, K, B, M')) : zCall (d + 1) zm_Model_laysSeen [.ref 71, .int (nI bt), .int (nI k), .int (nI u)] (X, b, zLay, K, B, M) F := by
  refine zb_Model_laysSeen_0 (v := 0) bt k u hS hS.2.2.1 ha ?_
  refine lp_ls13 (M0 := zu (zu M 71 33 (-1)) 71 34 (-1)) hK hS ha (fun M1 f1 h1 => ?_) 60 0 _ (by omega) (fun _ _ => rfl) (fun e he => absurd he (by omega))
  refine lp_ls46 (M0 := M) hK hS ha kk m 0 M1 .null .null rfl rfl (by omega) ⟨fun c h2 h3 => ?_, fun i h2 h3 => ?_, ?_, ?_, fun e he => h1 e he⟩
  · rw [f1 c h2]; funext i; rw [zu_no (by omega), zu_no (by omega)]
  · rw [f1 71 (by decide), zu_no (by omega), zu_no (by omega)]
  · rw [f1 71 (by decide), zu_no (by omega), zu_yes]; rfl
  · rw [f1 71 (by decide), zu_yes]; rfl
end JR
