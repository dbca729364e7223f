/-! ===== the reference's table of a day ===== -/
def zMf (M0 M : Nat → Nat → Int32) (dd : Nat) : Prop := (∀ c, c ≠ 87 → M c = M0 c) ∧ ∀ i, i < 100 * dd ∨ 100 * dd + 100 ≤ i → M 87 i = M0 87 i
theorem zMf_put {M0 M : Nat → Nat → Int32} {dd i : Nat} (h : zMf M0 M dd) (h1 : 100 * dd ≤ i) (h2 : i < 100 * dd + 100) (v : Int32) : zMf M0 (zu M 87 i v) dd := by
  refine ⟨fun c hc => ?_, fun k hk => ?_⟩
  · funext k
    rw [zu_no (by omega), h.1 c hc]
  · rw [zu_no (by omega), h.2 k hk]
def zMr (M : Nat → Nat → Int32) (dd : Nat) (r : Nat → Nat → Nat) : Prop := ∀ x y, x < 10 → y < 10 → M 87 (100 * dd + 10 * x + y) = nI (r x y)
section RM
variable {d : Nat} {F : Option Value → zS → Prop} {X : zX} {b : Nat × Nat} {K : Nat → Nat → Option Nat} {B : Nat → Nat → Int64} {M0 : Nat → Nat → Int32} {nw ns : Nat}
theorem lp_lm7 (hK : zKok K) (hC : zCn (M0 72) nw ns) {dd : Nat} (hd : dd < 61) (kk : ∀ M, zMf M0 M dd → zMr M dd (zW (zrd (M0 72)) ns dd 0) → zEx (zCall (d + 2)) 10 false 0 zc_Model_laysMiles F 47 [.ref 71, .int (nI dd), .int (nI (100 * dd)), .int (nI 0), .null, .null, .null] [] (X, b, zLay, K, B, M)) : ∀ (m k : Nat) (M : Nat → Nat → Int32), k + m = 100 → zMf M0 M dd → (∀ j, j < k → M 87 (100 * dd + j) = nI (if j / 10 = j % 10 then 0 else 100000)) → zEx (zCall (d + 2)) 10 false 0 zc_Model_laysMiles F 7 [.ref 71, .int (nI dd), .int (nI (100 * dd)), .int (nI k), .null, .null, .null] [] (X, b, zLay, K, B, M) := by
  have hb := hC.2.2.1
  intro m
  induction m with
  | zero =>
    intro k M hk hf hj
    have hC' : zCn (M 72) nw ns := by rw [hf.1 72 (by decide)]; exact hC
    refine zb_Model_laysMiles_7 (r := fun _ _ => 0) (v1 := 0) (v2 := 0) (v3 := 0) hK dd k hC' hb.1 hb.2 hd (by omega) (fun _ => ?_) (fun h => absurd h (by omega)) (fun h => absurd h (by omega))
    refine kk M hf (fun x y hx hy => ?_)
    rw [show 100 * dd + 10 * x + y = 100 * dd + (10 * x + y) by omega, hj (10 * x + y) (by omega), zW_0]
    have e1 : (10 * x + y) / 10 = x := by omega
    have e2 : (10 * x + y) % 10 = y := by omega
    rw [e1, e2]
  | succ m ih =>
    intro k M hk hf hj
    have hC' : zCn (M 72) nw ns := by rw [hf.1 72 (by decide)]; exact hC
    have step : ∀ v : Int32, v = nI (if k / 10 = k % 10 then 0 else 100000) → zEx (zCall (d + 2)) 10 false 0 zc_Model_laysMiles F 7 [.ref 71, .int (nI dd), .int (nI (100 * dd)), .int (nI (k + 1)), .null, .null, .null] [] (X, b, zLay, K, B, (zu M 87 (100 * dd + k) v)) := by
      intro v hv
      refine ih (k + 1) _ (by omega) (zMf_put hf (by omega) (by omega) v) (fun j hj2 => ?_)
      by_cases e : j = k
      · subst e; rw [zu_yes, hv]
      · rw [zu_no (by omega), hj j (by omega)]
    refine zb_Model_laysMiles_7 (r := fun _ _ => 0) (v1 := 0) (v2 := 0) (v3 := 0) hK dd k hC' hb.1 hb.2 hd (by omega) (fun h => absurd h (by omega)) (fun _ h => step _ (by rw [if_neg h]; rfl)) (fun _ h => step _ (by rw [if_pos h]; rfl))
theorem lp_lm47 (hK : zKok K) (hC : zCn (M0 72) nw ns) {dd : Nat} (hd : dd < 61) (kk : ∀ M (l4 l5 l6 : Value), l4.category = 1 → l5.category = 1 → l6.category = 1 → zMf M0 M dd → zMr M dd (zW (zrd (M0 72)) ns dd nw) → zEx (zCall (d + 2)) 10 false 0 zc_Model_laysMiles F 195 [.ref 71, .int (nI dd), .int (nI (100 * dd)), .int (nI 0), l4, l5, l6] [] (X, b, zLay, K, B, M)) : ∀ (m k : Nat) (M : Nat → Nat → Int32) (l4 l5 l6 : Value), l4.category = 1 → l5.category = 1 → l6.category = 1 → k + m = nw → zMf M0 M dd → zMr M dd (zW (zrd (M0 72)) ns dd k) → zEx (zCall (d + 2)) 10 false 0 zc_Model_laysMiles F 47 [.ref 71, .int (nI dd), .int (nI (100 * dd)), .int (nI k), l4, l5, l6] [] (X, b, zLay, K, B, M) := by
  have hb := hC.2.2.1
  intro m
  induction m with
  | zero =>
    intro k M l4 l5 l6 q4 q5 q6 hk hf hr
    have hC' : zCn (M 72) nw ns := by rw [hf.1 72 (by decide)]; exact hC
    have hk : k = nw := by omega
    subst hk
    exact zb_Model_laysMiles_47 (v1 := 0) (v2 := 0) (v3 := 0) hK dd k l4 l5 l6 q4 q5 q6 hC' hb.1 hb.2 hd (by omega) (fun h => absurd h (by omega)) hr (fun _ => kk M l4 l5 l6 q4 q5 q6 hf hr) (fun h => absurd h (by omega)) (fun h => absurd h (by omega)) (fun h => absurd h (by omega)) (fun h => absurd h (by omega)) (fun h => absurd h (by omega))
  | succ m ih =>
    intro k M l4 l5 l6 q4 q5 q6 hk hf hr
    have e72 : M 72 = M0 72 := hf.1 72 (by decide)
    have hC' : zCn (M 72) nw ns := by rw [e72]; exact hC
    obtain ⟨x1, x2, x3, x4, x5, x6, x7⟩ := hC.2.2.2.1 k (by omega)
    have hW := zW_base (s := ns) (d := dd) (zWok_le (zCn_w hC) (show k ≤ nw by omega))
    have hmin : ∀ v : Nat, zopn (zrd (M0 72)) ns dd k → v = min (zrd (M0 72) 5 k) (zW (zrd (M0 72)) ns dd k (zrd (M0 72) 3 k) (zrd (M0 72) 4 k)) → zEx (zCall (d + 2)) 10 false 0 zc_Model_laysMiles F 47 [.ref 71, .int (nI dd), .int (nI (100 * dd)), .int (nI (k + 1)), .int (nI (20 + 3 * k)), .int (nI (100 * dd + 10 * (zrd (M0 72) 3 k) + (zrd (M0 72) 4 k))), .int (nI (100 * dd + 10 * (zrd (M0 72) 4 k) + (zrd (M0 72) 3 k)))] [] (X, b, zLay, K, B, (zu (zu M 87 (100 * dd + 10 * (zrd (M0 72) 3 k) + (zrd (M0 72) 4 k)) (nI v)) 87 (100 * dd + 10 * (zrd (M0 72) 4 k) + (zrd (M0 72) 3 k)) (nI v))) := by
      intro v ho hv
      refine ih (k + 1) _ _ _ _ rfl rfl rfl (by omega) (zMf_put (zMf_put hf (by omega) (by omega) _) (by omega) (by omega) _) (fun x y hx hy => ?_)
      rw [zW_s ho]
      by_cases e1 : x = zrd (M0 72) 4 k ∧ y = zrd (M0 72) 3 k
      · rw [if_pos (Or.inl e1), e1.1, e1.2, zu_yes, hv]
      · by_cases e2 : x = zrd (M0 72) 3 k ∧ y = zrd (M0 72) 4 k
        · rw [if_pos (Or.inr e2), e2.1, e2.2, zu_no (by omega), zu_yes, hv]
        · rw [if_neg (by omega), zu_no (by omega), zu_no (by omega)]
          exact hr x y hx hy
    have hno : ∀ w5 w6 : Value, w5.category = 1 → w6.category = 1 → ¬ zopn (zrd (M0 72)) ns dd k → zEx (zCall (d + 2)) 10 false 0 zc_Model_laysMiles F 47 [.ref 71, .int (nI dd), .int (nI (100 * dd)), .int (nI (k + 1)), .int (nI (20 + 3 * k)), w5, w6] [] (X, b, zLay, K, B, M) := by
      intro w5 w6 h5 h6 ho
      refine ih (k + 1) _ _ _ _ rfl h5 h6 (by omega) hf (fun x y hx hy => ?_)
      rw [zW_n ho]
      exact hr x y hx hy
    have hr' := hr
    unfold zMr at hr'
    have hB := hW.2.2.1 (zrd (M0 72) 3 k) (zrd (M0 72) 4 k)
    refine zb_Model_laysMiles_47 (v1 := 0) (v2 := 0) (v3 := 0) (r := zW (zrd (M0 72)) ns dd k) hK dd k l4 l5 l6 q4 q5 q6 hC' hb.1 hb.2 hd (by omega) ?_ hr' (fun h => absurd h (by omega)) ?_ ?_ ?_ ?_ ?_
    · rw [e72]; exact fun _ => ⟨x4, x5, x7, hB⟩
    · rw [e72]; exact fun _ h1 h2 => hmin _ (Or.inl h1) (by omega)
    · rw [e72]; exact fun _ h1 h2 => hmin _ (Or.inl h1) (by omega)
    · rw [e72]; exact fun _ h1 h2 => hno l5 l6 q5 q6 (by rintro (z | z); exact h1 z; rw [z] at h2; cases h2)
    · rw [e72]; exact fun _ h1 h2 h3 => hmin _ (Or.inr (eq_false_of_ne_true h2)) (by omega)
    · rw [e72]; exact fun _ h1 h2 h3 => hmin _ (Or.inr (eq_false_of_ne_true h2)) (by omega)
theorem lp_lm204 (hK : zKok K) (hC : zCn (M0 72) nw ns) {dd : Nat} (hd : dd < 61) {via : Nat} (hv : via < 10) {r : Nat → Nat → Nat} (h0 : ∀ x, r x x = 0) (hle : ∀ x y, r x y ≤ 100000) (kk : ∀ M (l4 l5 l6 : Value), l4.category = 1 → l5.category = 1 → l6.category = 1 → zMf M0 M dd → zMr M dd (zFs via r) → zEx (zCall (d + 2)) 10 false 0 zc_Model_laysMiles F 195 [.ref 71, .int (nI dd), .int (nI (100 * dd)), .int (nI (via + 1)), l4, l5, l6] [] (X, b, zLay, K, B, M)) : ∀ (m k : Nat) (M : Nat → Nat → Int32) (l5 l6 : Value), l5.category = 1 → l6.category = 1 → k + m = 100 → zMf M0 M dd → (∀ x y, x < 10 → y < 10 → M 87 (100 * dd + 10 * x + y) = nI (if 10 * x + y < k then zFs via r x y else r x y)) → zEx (zCall (d + 2)) 10 false 0 zc_Model_laysMiles F 204 [.ref 71, .int (nI dd), .int (nI (100 * dd)), .int (nI via), .int (nI k), l5, l6] [] (X, b, zLay, K, B, M) := by
  have hb := hC.2.2.1
  intro m
  induction m with
  | zero =>
    intro k M l5 l6 q5 q6 hk hf hr
    have hC' : zCn (M 72) nw ns := by rw [hf.1 72 (by decide)]; exact hC
    have hk : k = 100 := by omega
    subst hk
    refine zb_Model_laysMiles_204 (r := r) (v1 := 0) (v2 := 0) (v3 := 0) hK dd via 100 l5 l6 q5 q6 hC' hb.1 hb.2 hd hv (by omega) (fun h => absurd h (by omega)) (fun h => absurd h (by omega)) (fun h => absurd h (by omega)) (by omega) (fun _ => ?_) (fun h => absurd h (by omega)) (fun h => absurd h (by omega))
    refine kk M _ _ _ rfl q5 q6 hf (fun x y hx hy => ?_)
    rw [hr x y hx hy, if_pos (by omega)]
  | succ m ih =>
    intro k M l5 l6 q5 q6 hk hf hr
    have hC' : zCn (M 72) nw ns := by rw [hf.1 72 (by decide)]; exact hC
    have e1 : M 87 (100 * dd + 10 * (k / 10) + via) = nI (r (k / 10) via) := by
      rw [hr (k / 10) via (by omega) hv, zFs_eq, h0 via]
      congr 1
      split <;> omega
    have e2 : M 87 (100 * dd + 10 * via + k % 10) = nI (r via (k % 10)) := by
      rw [hr via (k % 10) hv (by omega), zFs_eq, h0 via]
      congr 1
      split <;> omega
    have e3 : M 87 (100 * dd + k) = nI (r (k / 10) (k % 10)) := by
      have := hr (k / 10) (k % 10) (by omega) (by omega)
      rw [if_neg (by omega)] at this
      rw [← this]
      congr 1
      omega
    have go : ∀ (v : Nat) (w5 : Value), w5.category = 1 → v = zFs via r (k / 10) (k % 10) → zEx (zCall (d + 2)) 10 false 0 zc_Model_laysMiles F 204 [.ref 71, .int (nI dd), .int (nI (100 * dd)), .int (nI via), .int (nI (k + 1)), w5, l6] [] (X, b, zLay, K, B, (zu M 87 (100 * dd + k) (nI v))) := by
      intro v w5 h5 hvv
      refine ih (k + 1) _ _ _ h5 q6 (by omega) (zMf_put hf (by omega) (by omega) _) (fun x y hx hy => ?_)
      by_cases e : 10 * x + y = k
      · have ex : k / 10 = x := by omega
        have ey : k % 10 = y := by omega
        rw [show 100 * dd + 10 * x + y = 100 * dd + k by omega, zu_yes, if_pos (by omega), hvv, ex, ey]
      · rw [zu_no (by omega), hr x y hx hy]
        by_cases e2 : 10 * x + y < k
        · rw [if_pos e2, if_pos (by omega)]
        · rw [if_neg e2, if_neg (by omega)]
    refine zb_Model_laysMiles_204 (r := r) (v1 := r (k / 10) via) (v2 := r via (k % 10)) (v3 := r (k / 10) (k % 10)) hK dd via k l5 l6 q5 q6 hC' hb.1 hb.2 hd hv (by omega) (fun _ => e1) (fun _ => e2) (fun _ => e3) ⟨hle _ _, hle _ _, hle _ _⟩ (fun h => absurd h (by omega)) (fun _ h => go _ _ rfl ?_) (fun _ h => go _ _ rfl ?_)
    · rw [zFs_eq]; omega
    · rw [zFs_eq]; omega
theorem lp_lm195 (hK : zKok K) (hC : zCn (M0 72) nw ns) {dd : Nat} (hd : dd < 61) (kk : ∀ M, zMf M0 M dd → zMr M dd (zD (zrd (M0 72)) nw ns dd) → F none (X, b, zLay, K, B, M)) : ∀ (m k : Nat) (M : Nat → Nat → Int32) (l4 l5 l6 : Value), l4.category = 1 → l5.category = 1 → l6.category = 1 → k + m = 10 → zMf M0 M dd → zMr M dd (zFW (zW (zrd (M0 72)) ns dd nw) k) → zEx (zCall (d + 2)) 10 false 0 zc_Model_laysMiles F 195 [.ref 71, .int (nI dd), .int (nI (100 * dd)), .int (nI k), l4, l5, l6] [] (X, b, zLay, K, B, M) := by
  have hb := hC.2.2.1
  intro m
  induction m with
  | zero =>
    intro k M l4 l5 l6 q4 q5 q6 hk hf hr
    have hC' : zCn (M 72) nw ns := by rw [hf.1 72 (by decide)]; exact hC
    have hk : k = 10 := by omega
    subst hk
    exact zb_Model_laysMiles_195 (r := fun _ _ => 0) (v1 := 0) (v2 := 0) (v3 := 0) dd 10 l4 l5 l6 q4 q5 q6 hC' hb.1 hb.2 hd (by omega) (fun _ => kk M hf hr) (fun h => absurd h (by omega))
  | succ m ih =>
    intro k M l4 l5 l6 q4 q5 q6 hk hf hr
    have hC' : zCn (M 72) nw ns := by rw [hf.1 72 (by decide)]; exact hC
    have hW := zFW_base (zW_base (s := ns) (d := dd) (zCn_w hC)) k
    refine zb_Model_laysMiles_195 (r := fun _ _ => 0) (v1 := 0) (v2 := 0) (v3 := 0) dd k l4 l5 l6 q4 q5 q6 hC' hb.1 hb.2 hd (by omega) (fun h => absurd h (by omega)) (fun _ => ?_)
    refine lp_lm204 hK hC hd (by omega) hW.1 hW.2.2.1 (fun M' l4 l5 l6 q4 q5 q6 hf' hr' => ih (k + 1) M' l4 l5 l6 q4 q5 q6 (by omega) hf' hr') 100 0 M l5 l6 q5 q6 (by omega) hf (fun x y hx hy => ?_)
    rw [if_neg (by omega)]
    exact hr x y hx hy
theorem sp_laysMiles {M : Nat → Nat → Int32} (hK : zKok K) (hC : zCn (M 72) nw ns) {dd : Nat} (hd : dd < 61) (kk : ∀ M', zMf M M' dd → zMr M' dd (zD (zrd (M 72)) nw ns dd) → F none (X, b, zLay, K, B, M')) : zCall (d + 3) zm_Model_laysMiles [.ref 71, .int (nI dd)] (X, b, zLay, K, B, M) F := by
  have hb := hC.2.2.1
  refine zb_Model_laysMiles_0 (r := fun _ _ => 0) (v1 := 0) (v2 := 0) (v3 := 0) dd hC hb.1 hb.2 hd ?_
  refine lp_lm7 hK hC hd (fun M1 f1 r1 => ?_) 100 0 M (by omega) ⟨fun _ _ => rfl, fun _ _ => rfl⟩ (fun j hj => absurd hj (by omega))
  refine lp_lm47 hK hC hd (fun M2 l4 l5 l6 q4 q5 q6 f2 r2 => ?_) nw 0 M1 .null .null .null rfl rfl rfl (by omega) f1 r1
  exact lp_lm195 hK hC hd (fun M3 f3 r3 => kk M3 f3 r3) 10 0 M2 l4 l5 l6 q4 q5 q6 (by omega) f2 r2
end RM
