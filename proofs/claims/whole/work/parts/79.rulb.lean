/-! ===== rules: blocks ===== -/
theorem zK37 {K : Nat → Nat → Option Nat} (hK : zKok K) {t : Nat} (ht : t < 4) : K 37 t = some (55 + 4 * t) := by
  have z : t = 0 ∨ t = 1 ∨ t = 2 ∨ t = 3 := by omega
  rcases z with rfl | rfl | rfl | rfl <;> exact hK 37 _ _ rfl
theorem zb_Boats_ruleTextN_0 {d : Nat} {F : Option Value → zS → Prop} {X : zX} {b : Nat × Nat} {K : Nat → Nat → Option Nat} {B : Nat → Nat → Int64} {M : Nat → Nat → Int32} (hK : zKok K)      
    (k1 : F (some (.ref 33)) (X, b, zLay, K, B, M)) :
    zCall (d + 1) zm_Boats_ruleText [.ref 0, .int (-1)] (X, b, zLay, K, B, M) F :=
  zc_of [.ref 0, .int (-1)] (rfl : zinfL[zm_Boats_ruleText]? = _) rfl rfl (
  zr_iload_n 1 rfl rfl rfl <| zr_if 4 rfl rfl (fun _ => zr_aload_n 22 rfl rfl rfl <| zr_getr 25 rfl rfl rfl rfl rfl (hK 0 5 33 rfl) <| zr_areturn rfl rfl k1) (fun h => absurd (show (-1 : Int32) < (0 : Int32) by decide) h))
theorem zb_Boats_ruleTextT_0 {d : Nat} {F : Option Value → zS → Prop} {X : zX} {b : Nat × Nat} {K : Nat → Nat → Option Nat} {B : Nat → Nat → Int64} {M : Nat → Nat → Int32} (hK : zKok K) {n7 : Nat}  (t : Nat)   (hc : M 0 7 = nI n7) (ht : t < n7) (h4 : n7 ≤ 4)
    (k1 : (t < 0) → F (some (.ref 33)) (X, b, zLay, K, B, M))
    (k2 : (0 ≤ t) → (n7 ≤ t) → F (some (.ref 33)) (X, b, zLay, K, B, M))
    (k3 : (0 ≤ t) → (t < n7) → F (some (.ref (55 + 4 * t))) (X, b, zLay, K, B, M)) :
    zCall (d + 1) zm_Boats_ruleText [.ref 0, .int (nI t)] (X, b, zLay, K, B, M) F :=
  zc_of [.ref 0, .int (nI t)] (rfl : zinfL[zm_Boats_ruleText]? = _) rfl rfl (
  zr_iload_n 1 rfl rfl rfl <| zr_if 4 rfl rfl (fun h0 => have cText1_0 : t < 0 := (nI_ltI (a := t) (b := 0) (by omega) (by omega)).mp h0; zr_aload_n 22 rfl rfl rfl <| zr_getr 25 rfl rfl rfl rfl rfl (hK 0 5 33 rfl) <| zr_areturn rfl rfl (k1 cText1_0)) (fun h0 => have cText1_0 : 0 ≤ t := Nat.not_lt.mp (fun q => h0 ((nI_ltI (a := t) (b := 0) (by omega) (by omega)).mpr q)); zr_iload_n 5 rfl rfl rfl <| zr_aload_n 6 rfl rfl rfl <| zr_geti 9 rfl rfl rfl rfl rfl <| zr_cast hc <| zr_ic 12 rfl rfl (fun h0 => have cText9_1 : n7 ≤ t := (nI_leI (a := n7) (b := t) (by omega) (by omega)).mp h0; zr_aload_n 22 rfl rfl rfl <| zr_getr 25 rfl rfl rfl rfl rfl (hK 0 5 33 rfl) <| zr_areturn rfl rfl (k2 cText1_0 cText9_1)) (fun h0 => have cText9_1 : t < n7 := Nat.not_le.mp (fun q => h0 ((nI_leI (a := n7) (b := t) (by omega) (by omega)).mpr q)); zr_aload_n 13 rfl rfl rfl <| zr_getr 16 rfl rfl rfl rfl rfl (hK 0 6 37 rfl) <| zr_iload_n 17 rfl rfl rfl <| zr_aaload 18 rfl rfl rfl (vp_in_nI (by omega) (by decide)) (by rw [nI_clamp (by omega)]; exact zK37 hK (by omega)) <| zr_goto rfl <| zr_areturn rfl rfl (k3 cText1_0 cText9_1))))
theorem zb_Text_has_0 {d : Nat} {F : Option Value → zS → Prop} {X : zX} {b : Nat × Nat} {K : Nat → Nat → Option Nat} {B : Nat → Nat → Int64} {M : Nat → Nat → Int32} {tx fr w : Nat} {x : Int32}     (hytx : zget zLay tx = some (.inl 8)) (hfr : K tx 2 = some fr) (hyfr : zget zLay fr = some (.inr (0, 4))) (hw : w < 4) (hx : M fr w = x)
    (k1 : (x = (-1 : Int32)) → F (some (.int 0)) (X, b, zLay, K, B, M))
    (k2 : (¬ x = (-1 : Int32)) → F (some (.int 1)) (X, b, zLay, K, B, M)) :
    zCall (d + 1) zm_Text_has [.ref tx, .int (nI (3 + w))] (X, b, zLay, K, B, M) F :=
  zc_of [.ref tx, .int (nI (3 + w))] (rfl : zinfL[zm_Text_has]? = _) rfl rfl (
  zr_aload_n 1 rfl rfl rfl <| zr_getr 4 rfl rfl rfl rfl hytx hfr <| zr_iload_n 5 rfl rfl rfl <| zr_iconst 6 rfl rfl <| zr_ibin 7 rfl rfl rfl <| zr_cast (zns (a := (3 + w)) (b := 3) (c := w) (by omega)) <| zr_ialoadN 8 w rfl rfl hyfr (by omega) rfl hx <| zr_iconst 9 rfl rfl <| zr_ic 12 rfl rfl (fun h0 => have cthas9_0 : x = (-1 : Int32) := h0; zr_iconst 17 rfl rfl <| zr_zreturn rfl rfl (Or.inl rfl) (k1 cthas9_0)) (fun h0 => have cthas9_0 : ¬ x = (-1 : Int32) := h0; zr_iconst 13 rfl rfl <| zr_goto rfl <| zr_zreturn rfl rfl (Or.inr rfl) (k2 cthas9_0)))
theorem zb_Model_hasClauseN_0 {d : Nat} {F : Option Value → zS → Prop} {X : zX} {b : Nat × Nat} {K : Nat → Nat → Option Nat} {B : Nat → Nat → Int64} {M : Nat → Nat → Int32}   (w : Nat)   
    (k1 : F (some (.int 0)) (X, b, zLay, K, B, M)) :
    zCall (d + 1) zm_Model_hasClause [.ref 71, .int (-1), .int (nI w)] (X, b, zLay, K, B, M) F :=
  zc_of [.ref 71, .int (-1), .int (nI w)] (rfl : zinfL[zm_Model_hasClause]? = _) rfl rfl (
  zr_iload_n 1 rfl rfl rfl <| zr_iconst 2 rfl rfl <| zr_ic 5 rfl rfl (fun _ => zr_iconst 24 rfl rfl <| zr_zreturn rfl rfl (Or.inl rfl) k1) (fun h => absurd (show (-1 : Int32) = (-1 : Int32) by decide) h))
theorem zb_Model_hasClauseT_0 {d : Nat} {F : Option Value → zS → Prop} {X : zX} {b : Nat × Nat} {K : Nat → Nat → Option Nat} {B : Nat → Nat → Int64} {M : Nat → Nat → Int32} (hK : zKok K) {x : Int32}  (t : Nat) (w : Nat)   (ht : t < 4) (hw : w < 4) (hx : M 75 (4 * t + w) = x)
    (k1 : (x = (-1 : Int32)) → F (some (.int 0)) (X, b, zLay, K, B, M))
    (k2 : (¬ x = (-1 : Int32)) → F (some (.int 1)) (X, b, zLay, K, B, M)) :
    zCall (d + 1) zm_Model_hasClause [.ref 71, .int (nI t), .int (nI w)] (X, b, zLay, K, B, M) F :=
  zc_of [.ref 71, .int (nI t), .int (nI w)] (rfl : zinfL[zm_Model_hasClause]? = _) rfl rfl (
  zr_iload_n 1 rfl rfl rfl <| zr_iconst 2 rfl rfl <| zr_ic 5 rfl rfl (fun h => absurd h (znn (n := t) (by omega) (c := -1) (by decide)).1) (fun _ => zr_aload_n 6 rfl rfl rfl <| zr_getr 9 rfl rfl rfl rfl rfl (hK 71 6 75 rfl) <| zr_iconst 10 rfl rfl <| zr_iload_n 11 rfl rfl rfl <| zr_ibin 12 rfl rfl rfl <| zr_cast (znm (a := 4) (b := t) (c := (4 * t)) (by omega)) <| zr_iload_n 13 rfl rfl rfl <| zr_ibin 14 rfl rfl rfl <| zr_cast (zna (a := (4 * t)) (b := w) (c := (4 * t + w)) (by omega)) <| zr_ialoadN 15 (4 * t + w) rfl rfl rfl (by omega) rfl hx <| zr_iconst 16 rfl rfl <| zr_ic 19 rfl rfl (fun h0 => have cause16_0 : x = (-1 : Int32) := h0; zr_iconst 24 rfl rfl <| zr_zreturn rfl rfl (Or.inl rfl) (k1 cause16_0)) (fun h0 => have cause16_0 : ¬ x = (-1 : Int32) := h0; zr_iconst 20 rfl rfl <| zr_goto rfl <| zr_zreturn rfl rfl (Or.inr rfl) (k2 cause16_0))))
theorem zb_Model_says_0 {d : Nat} {F : Option Value → zS → Prop} {X : zX} {b : Nat × Nat} {K : Nat → Nat → Option Nat} {B : Nat → Nat → Int64} {M : Nat → Nat → Int32} (hK : zKok K) {cv : Nat}  (t : Nat) (w : Nat)   (ht : t < 4) (hw : w < 4) (hx : M 75 (4 * t + w) = nI cv) (hcv : cv < 1600)
    (k1 : zCall (d + 5) zm_Model_saysOf [.ref 71, .int (nI cv)] (X, (0, 0), zLay, K, B, M) (zGo (d + 5) 10 false 3 zc_Model_says F 14 [.ref 71, .int (nI t), .int (nI w)] [] b)) :
    zCall (d + 6) zm_Model_says [.ref 71, .int (nI t), .int (nI w)] (X, b, zLay, K, B, M) F :=
  zc_of [.ref 71, .int (nI t), .int (nI w)] (rfl : zinfL[zm_Model_says]? = _) rfl rfl (
  zr_aload_n 1 rfl rfl rfl <| zr_aload_n 2 rfl rfl rfl <| zr_getr 5 rfl rfl rfl rfl rfl (hK 71 6 75 rfl) <| zr_iconst 6 rfl rfl <| zr_iload_n 7 rfl rfl rfl <| zr_ibin 8 rfl rfl rfl <| zr_cast (znm (a := 4) (b := t) (c := (4 * t)) (by omega)) <| zr_iload_n 9 rfl rfl rfl <| zr_ibin 10 rfl rfl rfl <| zr_cast (zna (a := (4 * t)) (b := w) (c := (4 * t + w)) (by omega)) <| zr_ialoadN 11 (4 * t + w) rfl rfl rfl (by omega) rfl hx <| zr_virt 14 rfl rfl rfl rfl rfl rfl rfl rfl <| k1)
theorem zb_Model_says_14 {d : Nat} {F : Option Value → zS → Prop} {X : zX} {b : Nat × Nat} {K : Nat → Nat → Option Nat} {B : Nat → Nat → Int64} {M : Nat → Nat → Int32}   (t : Nat) (w : Nat) (s0 : Int64)   
    (k1 : F (some (.long s0)) (X, b, zLay, K, B, M)) :
    zEx (zCall (d + 5)) 10 false 3 zc_Model_says F 14 [.ref 71, .int (nI t), .int (nI w)] [.long s0] (X, b, zLay, K, B, M) :=
  zr_lreturn rfl rfl k1
