/-! ===== rows over natural numbers ===== -/
section ZN
variable {C : zC} {d own : Nat} {ini : Bool} {rt : Nat} {cd : List (List (Nat × zE))} {F : Option Value → zS → Prop} {pc : Nat} {ls : List Value} {st : List Value} {S : zS} {X : zX} {b : Nat × Nat} {y : zY} {K : Nat → Nat → Option Nat} {B : Nat → Nat → Int64} {M : Nat → Nat → Int32} {v : Int32} {t : Nat} {ts : List (Int32 × Nat)}
theorem zr_cast {x w : Int32} (h : x = w) (k : zEx C own ini rt cd F pc ls (.int w :: st) S) : zEx C own ini rt cd F pc ls (.int x :: st) S := by rw [h]; exact k
theorem zr_castL {x w : Int64} (h : x = w) (k : zEx C own ini rt cd F pc ls (.long w :: st) S) : zEx C own ini rt cd F pc ls (.long x :: st) S := by rw [h]; exact k
theorem zr_castM {M2 : Nat → Nat → Int32} (h : M = M2) (k : zEx C own ini rt cd F pc ls st (X, b, y, K, B, M2)) : zEx C own ini rt cd F pc ls st (X, b, y, K, B, M) := by rw [h]; exact k
theorem zna {a b c : Nat} (h : a + b = c) : nI a + nI b = nI c := by rw [nI_add, h]
theorem znm {a b c : Nat} (h : a * b = c) : nI a * nI b = nI c := by rw [pk_mul, h]
theorem zns {a b c : Nat} (h : b + c = a) : nI a - nI b = nI c := by rw [pk_sub (by omega)]; congr 1; omega
theorem znd {a b c : Nat} (ha : a < 2 ^ 31) (h0 : 0 < b) (hb : b < 2 ^ 31) (h : a / b = c) : nI a / nI b = nI c := by rw [pk_div ha h0 hb, h]
theorem znr {a b c : Nat} (ha : a < 2 ^ 31) (h0 : 0 < b) (hb : b < 2 ^ 31) (h : a % b = c) : nI a - nI a / nI b * nI b = nI c := by rw [pk_rem ha h0 hb, h]
theorem znmin {a b : Nat} (ha : a < 2 ^ 31) (hb : b < 2 ^ 31) : (if nI b < nI a then nI b else nI a) = nI (min a b) := by
  by_cases h : b < a
  · rw [if_pos ((nI_ltI hb ha).mpr h), Nat.min_eq_right (by omega)]
  · rw [if_neg (fun k => h ((nI_ltI hb ha).mp k)), Nat.min_eq_left (by omega)]
theorem znmax {a b : Nat} (ha : a < 2 ^ 31) (hb : b < 2 ^ 31) : (if nI a < nI b then nI b else nI a) = nI (max a b) := by
  by_cases h : a < b
  · rw [if_pos ((nI_ltI ha hb).mpr h), Nat.max_eq_right (by omega)]
  · rw [if_neg (fun k => h ((nI_ltI ha hb).mp k)), Nat.max_eq_left (by omega)]
theorem ztb0 {b : Bool} : nI b.toNat = 0 ↔ b = false := by cases b <;> decide
theorem ztb1 {b : Bool} : nI b.toNat = 1 ↔ b = true := by cases b <;> decide
theorem znn {n : Nat} (h : n < 2 ^ 31) {c : Int32} (hc : c.toInt < 0) : ¬ nI n = c ∧ ¬ nI n < c ∧ ¬ nI n ≤ c ∧ c < nI n ∧ c ≤ nI n ∧ ¬ c = nI n := by
  simp only [zlt, zle, zeq, nI_toInt h]
  omega
theorem zr_ialoadN {a n : Nat} {w : Int32} (pc' k : Nat) (hc : zlk2 cd (pc / 32) pc = some (.iaload, v, t, ts)) (hp : pc + 1 = pc') (hy : zget y a = some (.inr (0, n))) (hk : k < n) (hn : Nat.blt n 100000 = true) (hv : M a k = w) (kk : zEx (zCall d) own ini rt cd F pc' ls (.int w :: st) (X, b, y, K, B, M)) : zEx (zCall d) own ini rt cd F pc ls (.int (nI k) :: .ref a :: st) (X, b, y, K, B, M) := by
  have h2 := Nat.le_of_ble_eq_true hn
  refine zr_iaload pc' hc hp hy (vp_in_nI hk (by omega)) ?_
  rw [nI_clamp (by omega), hv]
  exact kk
theorem zr_baload1N {a n : Nat} {w : Int32} (pc' k : Nat) (hc : zlk2 cd (pc / 32) pc = some (.baload, v, t, ts)) (hp : pc + 1 = pc') (hy : zget y a = some (.inr (1, n))) (hk : k < n) (hn : Nat.blt n 100000 = true) (hv : M a k = w) (kk : zEx (zCall d) own ini rt cd F pc' ls (.int w :: st) (X, b, y, K, B, M)) : zEx (zCall d) own ini rt cd F pc ls (.int (nI k) :: .ref a :: st) (X, b, y, K, B, M) := by
  have h2 := Nat.le_of_ble_eq_true hn
  refine zr_baload1 pc' hc hp hy (vp_in_nI hk (by omega)) ?_
  rw [nI_clamp (by omega), hv]
  exact kk
theorem zr_baload2N {a n : Nat} {w : Int32} (pc' k : Nat) (hc : zlk2 cd (pc / 32) pc = some (.baload, v, t, ts)) (hp : pc + 1 = pc') (hy : zget y a = some (.inr (2, n))) (hk : k < n) (hn : Nat.blt n 100000 = true) (hv : M a k = w) (kk : zEx (zCall d) own ini rt cd F pc' ls (.int w :: st) (X, b, y, K, B, M)) : zEx (zCall d) own ini rt cd F pc ls (.int (nI k) :: .ref a :: st) (X, b, y, K, B, M) := by
  have h2 := Nat.le_of_ble_eq_true hn
  refine zr_baload2 pc' hc hp hy (vp_in_nI hk (by omega)) ?_
  rw [nI_clamp (by omega), hv]
  exact kk
theorem zr_laloadN {a n : Nat} {w : Int64} (pc' k : Nat) (hc : zlk2 cd (pc / 32) pc = some (.laload, v, t, ts)) (hp : pc + 1 = pc') (hy : zget y a = some (.inr (3, n))) (hk : k < n) (hn : Nat.blt n 100000 = true) (hv : B a k = w) (kk : zEx (zCall d) own ini rt cd F pc' ls (.long w :: st) (X, b, y, K, B, M)) : zEx (zCall d) own ini rt cd F pc ls (.int (nI k) :: .ref a :: st) (X, b, y, K, B, M) := by
  have h2 := Nat.le_of_ble_eq_true hn
  refine zr_laload pc' hc hp hy (vp_in_nI hk (by omega)) ?_
  rw [nI_clamp (by omega), hv]
  exact kk
theorem zr_iastoreN {a n : Nat} {x : Int32} (pc' k : Nat) (hc : zlk2 cd (pc / 32) pc = some (.iastore, v, t, ts)) (hp : pc + 1 = pc') (hy : zget y a = some (.inr (0, n))) (hk : k < n) (hn : Nat.blt n 100000 = true) (kk : zEx (zCall d) own ini rt cd F pc' ls st (X, b, y, K, B, zu M a k x)) : zEx (zCall d) own ini rt cd F pc ls (.int x :: .int (nI k) :: .ref a :: st) (X, b, y, K, B, M) := by
  have h2 := Nat.le_of_ble_eq_true hn
  refine zr_iastore pc' hc hp hy (vp_in_nI hk (by omega)) ?_
  rw [nI_clamp (by omega)]
  exact kk
theorem zr_bastore1N {a n : Nat} {x w : Int32} (pc' k : Nat) (hc : zlk2 cd (pc / 32) pc = some (.bastore, v, t, ts)) (hp : pc + 1 = pc') (hy : zget y a = some (.inr (1, n))) (hk : k < n) (hn : Nat.blt n 100000 = true) (hw : vp_nar .byte x = w) (kk : zEx (zCall d) own ini rt cd F pc' ls st (X, b, y, K, B, zu M a k w)) : zEx (zCall d) own ini rt cd F pc ls (.int x :: .int (nI k) :: .ref a :: st) (X, b, y, K, B, M) := by
  have h2 := Nat.le_of_ble_eq_true hn
  refine zr_bastore1 pc' hc hp hy (vp_in_nI hk (by omega)) ?_
  rw [nI_clamp (by omega), hw]
  exact kk
theorem zr_bastore2N {a n : Nat} {x w : Int32} (pc' k : Nat) (hc : zlk2 cd (pc / 32) pc = some (.bastore, v, t, ts)) (hp : pc + 1 = pc') (hy : zget y a = some (.inr (2, n))) (hk : k < n) (hn : Nat.blt n 100000 = true) (hw : vp_nar .boolean x = w) (kk : zEx (zCall d) own ini rt cd F pc' ls st (X, b, y, K, B, zu M a k w)) : zEx (zCall d) own ini rt cd F pc ls (.int x :: .int (nI k) :: .ref a :: st) (X, b, y, K, B, M) := by
  have h2 := Nat.le_of_ble_eq_true hn
  refine zr_bastore2 pc' hc hp hy (vp_in_nI hk (by omega)) ?_
  rw [nI_clamp (by omega), hw]
  exact kk
theorem zr_lastoreN {a n : Nat} {x : Int64} (pc' k : Nat) (hc : zlk2 cd (pc / 32) pc = some (.lastore, v, t, ts)) (hp : pc + 1 = pc') (hy : zget y a = some (.inr (3, n))) (hk : k < n) (hn : Nat.blt n 100000 = true) (kk : zEx (zCall d) own ini rt cd F pc' ls st (X, b, y, K, zu B a k x, M)) : zEx (zCall d) own ini rt cd F pc ls (.long x :: .int (nI k) :: .ref a :: st) (X, b, y, K, B, M) := by
  have h2 := Nat.le_of_ble_eq_true hn
  refine zr_lastore pc' hc hp hy (vp_in_nI hk (by omega)) ?_
  rw [nI_clamp (by omega)]
  exact kk
end ZN
/-- a whole cell is written -/
def zw (M : Nat → Nat → Int32) (c : Nat) (f : Nat → Int32) : Nat → Nat → Int32 := fun c' => if c' = c then f else M c'
theorem zw_yes (M : Nat → Nat → Int32) (c : Nat) (f : Nat → Int32) : zw M c f c = f := by simp [zw]
theorem zw_no {M : Nat → Nat → Int32} {c c' : Nat} {f : Nat → Int32} (h : c' ≠ c) : zw M c f c' = M c' := by simp [zw, h]
theorem zu_zw (M : Nat → Nat → Int32) (c k : Nat) (v : Int32) : zu M c k v = zw M c (fun i => if i = k then v else M c i) := rfl
theorem zw_zw (M : Nat → Nat → Int32) (c : Nat) (f g : Nat → Int32) : zw (zw M c f) c g = zw M c g := by
  funext c'
  by_cases h : c' = c <;> simp [zw, h]
theorem zw_self (M : Nat → Nat → Int32) (c : Nat) : zw M c (M c) = M := by
  funext c'
  by_cases h : c' = c
  · subst h; simp [zw]
  · simp [zw, h]
theorem zw_comm {M : Nat → Nat → Int32} {c e : Nat} {f g : Nat → Int32} (h : c ≠ e) : zw (zw M c f) e g = zw (zw M e g) c f := by
  funext c'
  by_cases h1 : c' = c
  · subst h1; simp [zw, h]
  · by_cases h2 : c' = e
    · subst h2; simp [zw, h1]
    · simp [zw, h1, h2]
theorem zu_ww (M : Nat → Nat → Int32) (c k : Nat) (f : Nat → Int32) (v : Int32) : zu (zw M c f) c k v = zw M c (fun i => if i = k then v else f i) := by
  funext c'
  by_cases h : c' = c <;> simp [zu, zw, h]
theorem znp (k : Nat) {a c : Nat} (h : c + k = a) : nI a + (-(nI k)) = nI c := by
  subst h
  have e := zns (a := c + k) (b := k) (c := c) (by omega)
  rw [← e, Int32.sub_eq_add_neg]
theorem zbi_n (b : Bool) : zbi b = nI b.toNat := by cases b <;> rfl
theorem zb_Boats_hasBit_0 {d : Nat} {F : Option Value → zS → Prop} {X : zX} {b : Nat × Nat} {K : Nat → Nat → Option Nat} {B : Nat → Nat → Int64} {M : Nat → Nat → Int32}  (m : Int32) (p : Int32) 
    (k1 : (((m >>> (p &&& 31)) &&& 1) = (0 : Int32)) → F (some (.int 0)) (X, b, zLay, K, B, M))
    (k2 : (¬ ((m >>> (p &&& 31)) &&& 1) = (0 : Int32)) → F (some (.int 1)) (X, b, zLay, K, B, M)) :
    zCall (d + 1) zm_Boats_hasBit [.int m, .int p] (X, b, zLay, K, B, M) F :=
  zc_of [.int m, .int p] (rfl : zinfL[zm_Boats_hasBit]? = _) rfl rfl (
  zr_iload_n 1 rfl rfl rfl <| zr_iload_n 2 rfl rfl rfl <| zr_ibin 3 rfl rfl rfl <| zr_iconst 4 rfl rfl <| zr_ibin 5 rfl rfl rfl <| zr_if 8 rfl rfl (fun c5_0 => zr_iconst 13 rfl rfl <| zr_zreturn rfl rfl (Or.inl rfl) (k1 c5_0)) (fun c5_0 => zr_iconst 9 rfl rfl <| zr_goto rfl <| zr_zreturn rfl rfl (Or.inr rfl) (k2 c5_0)))
theorem sp_inN {d : Nat} {F : Option Value → zS → Prop} {X : zX} {b : Nat × Nat} {K : Nat → Nat → Option Nat} {B : Nat → Nat → Int64} {M : Nat → Nat → Int32} {v lo hi : Nat} (h1 : v < 2 ^ 31) (h2 : lo < 2 ^ 31) (h3 : hi < 2 ^ 31) (k : F (some (.int (zbi (decide (lo ≤ v ∧ v ≤ hi))))) (X, b, zLay, K, B, M)) : zCall (d + 1) zm_Model_in [.int (nI v), .int (nI lo), .int (nI hi)] (X, b, zLay, K, B, M) F := by
  have e : decide (nI lo ≤ nI v ∧ nI v ≤ nI hi) = decide (lo ≤ v ∧ v ≤ hi) := by
    rw [decide_eq_decide, nI_leI h2 h1, nI_leI h1 h3]
  refine sp_in ?_
  rw [e]
  exact k
theorem sp_hasBit {d : Nat} {F : Option Value → zS → Prop} {X : zX} {b : Nat × Nat} {K : Nat → Nat → Option Nat} {B : Nat → Nat → Int64} {M : Nat → Nat → Int32} {m p : Nat} (h1 : m < 2 ^ 31) (h2 : p < 32) (k : F (some (.int (zbi (decide (m.testBit p = true))))) (X, b, zLay, K, B, M)) : zCall (d + 1) zm_Boats_hasBit [.int (nI m), .int (nI p)] (X, b, zLay, K, B, M) F := by
  refine zb_Boats_hasBit_0 (nI m) (nI p) (fun h => ?_) (fun h => ?_)
  · have h0 : m.testBit p = false := (zb_bit0 h1 h2).mp h
    rw [h0] at k
    exact k
  · have h0 : m.testBit p = true := eq_true_of_ne_false (fun q => h ((zb_bit0 h1 h2).mpr q))
    rw [h0] at k
    exact k
