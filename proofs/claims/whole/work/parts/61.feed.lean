/-! ===== feed ===== -/
def zby (a : Int32) (j : Nat) : Nat := (a >>> (nI (24 - 8 * j) &&& 31)).toBitVec.toNat % 256
theorem zbyte (v : Int32) : v &&& 255 = nI (v.toBitVec.toNat % 256) ∧ vp_nar .byte v.toInt8.toInt32 = (nI (v.toBitVec.toNat % 256)).toInt8.toInt32 := by
  refine ⟨pk_and v 8 rfl, ?_⟩
  rw [pk_vb]
  have e : v.toInt8 = (nI (v.toBitVec.toNat % 256)).toInt8 := by
    apply Int8.toBitVec_inj.mp
    apply BitVec.eq_of_toNat_eq
    simp only [Int32.toBitVec_toInt8, BitVec.signExtend_eq_setWidth_of_le _ (show 8 ≤ 32 by decide), BitVec.toNat_setWidth]
    rw [pk_tn (by omega)]
    omega
  rw [e]
section FD
variable {d : Nat} {F : Option Value → zS → Prop} {X : zX} {b : Nat × Nat} {K : Nat → Nat → Option Nat} {B : Nat → Nat → Int64} {M0 M : Nat → Nat → Int32}
def zFa (M0 M : Nat → Nat → Int32) (l : Nat) (as : List Int32) : Prop := (∀ c, c ≠ 31 → c ≠ 32 → M c = M0 c) ∧ (∀ i, i ≠ 1 → M 31 i = M0 31 i) ∧ M 31 1 = nI (l + 4 * as.length) ∧ (∀ i, i < l → M 32 i = M0 32 i) ∧ ∀ j, j < 4 * as.length → M 32 (l + j) = nI (zby (as.getD (j / 4) 0) (j % 4))
def zFr (M0 M : Nat → Nat → Int32) (l : Nat) (as : List Int32) : Prop := (∀ c, c ≠ 71 → c ≠ 74 → M c = M0 c) ∧ (∀ i, i ≠ 3 → M 71 i = M0 71 i) ∧ M 71 3 = nI (l + 4 * as.length) ∧ (∀ i, i < l → M 74 i = M0 74 i) ∧ ∀ j, j < 4 * as.length → M 74 (l + j) = (nI (zby (as.getD (j / 4) 0) (j % 4))).toInt8.toInt32
theorem zu_oc {α : Type} {M : Nat → Nat → α} {c k c' : Nat} {v : α} (h : c' ≠ c) : zu M c k v c' = M c' := by simp [zu, h]
theorem zgd_l {as : List Int32} {a : Int32} {j : Nat} (h : j < as.length) : (as ++ [a]).getD j 0 = as.getD j 0 := by
  simp [List.getD, List.getElem?_append_left h]
theorem zgd_r {as : List Int32} {a : Int32} : (as ++ [a]).getD as.length 0 = a := by
  simp [List.getD]
theorem sp_addFour (hK : zKok K) {l : Nat} {as : List Int32} (h : zFa M0 M l as) (hl : l + 4 * as.length + 4 ≤ 300) (a : Int32) (kk : ∀ M', zFa M0 M' l (as ++ [a]) → F none (X, b, zLay, K, B, M')) : zCall (d + 1) zm_Reader_addFour [.ref 31, .int a] (X, b, zLay, K, B, M) F := by
  obtain ⟨h1, h2, h3, h4, h5⟩ := h
  have hlen : (as ++ [a]).length = as.length + 1 := by simp
  refine zb_Reader_addFourZ_0 hK a h3 hl (fun q => absurd q (by omega)) (fun _ q => absurd q (by omega)) (fun _ _ q => absurd q (by omega)) (fun _ _ _ q => absurd q (by omega)) (fun _ _ _ _ => ?_)
  refine kk _ ⟨fun c g1 g2 => ?_, fun i g1 => ?_, ?_, fun i g1 => ?_, fun j g1 => ?_⟩
  · rw [← h1 c g1 g2]; simp [zu, g1, g2]
  · rw [← h2 i g1]; simp [zu, g1]
  · rw [hlen, zu_at, if_pos rfl]
    congr 1
    omega
  · rw [← h4 i g1]
    rw [zu_oc (show (32 : Nat) ≠ 31 by decide), zu_at, if_neg (by omega), zu_oc (show (32 : Nat) ≠ 31 by decide), zu_at, if_neg (by omega), zu_oc (show (32 : Nat) ≠ 31 by decide), zu_at, if_neg (by omega), zu_oc (show (32 : Nat) ≠ 31 by decide), zu_at, if_neg (by omega)]
  · rw [hlen] at g1
    rw [zu_oc (show (32 : Nat) ≠ 31 by decide), zu_at, zu_oc (show (32 : Nat) ≠ 31 by decide), zu_at, zu_oc (show (32 : Nat) ≠ 31 by decide), zu_at, zu_oc (show (32 : Nat) ≠ 31 by decide), zu_at]
    rcases Nat.lt_or_ge j (4 * as.length) with g | g
    · rw [if_neg (by omega), if_neg (by omega), if_neg (by omega), if_neg (by omega), h5 j g, zgd_l (by omega)]
    · have e : j / 4 = as.length := by omega
      rw [e, zgd_r]
      have z : j % 4 = 0 ∨ j % 4 = 1 ∨ j % 4 = 2 ∨ j % 4 = 3 := by omega
      rcases z with z | z | z | z
      · rw [if_neg (by omega), if_neg (by omega), if_neg (by omega), if_pos (by omega), z]; rw [show zby a 0 = (a >>> (24 &&& 31)).toBitVec.toNat % 256 from rfl]; exact (zbyte (a >>> (24 &&& 31))).1
      · rw [if_neg (by omega), if_neg (by omega), if_pos (by omega), z]; rw [show zby a 1 = (a >>> (16 &&& 31)).toBitVec.toNat % 256 from rfl]; exact (zbyte (a >>> (16 &&& 31))).1
      · rw [if_neg (by omega), if_pos (by omega), z]; rw [show zby a 2 = (a >>> (8 &&& 31)).toBitVec.toNat % 256 from rfl]; exact (zbyte (a >>> (8 &&& 31))).1
      · rw [if_pos (by omega), z]; rw [show zby a 3 = (a >>> (0 &&& 31)).toBitVec.toNat % 256 from rfl]; exact (zbyte (a >>> (0 &&& 31))).1
theorem sp_put (hK : zKok K) {l : Nat} {as : List Int32} (h : zFr M0 M l as) (hl : l + 4 * as.length + 4 ≤ 300) (a : Int32) (kk : ∀ M', zFr M0 M' l (as ++ [a]) → F none (X, b, zLay, K, B, M')) : zCall (d + 1) zm_Model_put [.ref 71, .int a] (X, b, zLay, K, B, M) F := by
  obtain ⟨h1, h2, h3, h4, h5⟩ := h
  have hlen : (as ++ [a]).length = as.length + 1 := by simp
  refine zb_Model_putZ_0 hK a h3 hl ?_
  refine kk _ ⟨fun c g1 g2 => ?_, fun i g1 => ?_, ?_, fun i g1 => ?_, fun j g1 => ?_⟩
  · rw [← h1 c g1 g2]; simp [zu, g1, g2]
  · rw [← h2 i g1]; simp [zu, g1]
  · rw [hlen, zu_at, if_pos rfl]
    congr 1
    omega
  · rw [← h4 i g1]
    rw [zu_oc (show (74 : Nat) ≠ 71 by decide), zu_at, if_neg (by omega), zu_oc (show (74 : Nat) ≠ 71 by decide), zu_at, if_neg (by omega), zu_oc (show (74 : Nat) ≠ 71 by decide), zu_at, if_neg (by omega), zu_oc (show (74 : Nat) ≠ 71 by decide), zu_at, if_neg (by omega)]
  · rw [hlen] at g1
    rw [zu_oc (show (74 : Nat) ≠ 71 by decide), zu_at, zu_oc (show (74 : Nat) ≠ 71 by decide), zu_at, zu_oc (show (74 : Nat) ≠ 71 by decide), zu_at, zu_oc (show (74 : Nat) ≠ 71 by decide), zu_at]
    rcases Nat.lt_or_ge j (4 * as.length) with g | g
    · rw [if_neg (by omega), if_neg (by omega), if_neg (by omega), if_neg (by omega), h5 j g, zgd_l (by omega)]
    · have e : j / 4 = as.length := by omega
      rw [e, zgd_r]
      have z : j % 4 = 0 ∨ j % 4 = 1 ∨ j % 4 = 2 ∨ j % 4 = 3 := by omega
      rcases z with z | z | z | z
      · rw [if_neg (by omega), if_neg (by omega), if_neg (by omega), if_pos (by omega), z]; rw [show zby a 0 = (a >>> (24 &&& 31)).toBitVec.toNat % 256 from rfl]; exact (zbyte (a >>> (24 &&& 31))).2
      · rw [if_neg (by omega), if_neg (by omega), if_pos (by omega), z]; rw [show zby a 1 = (a >>> (16 &&& 31)).toBitVec.toNat % 256 from rfl]; exact (zbyte (a >>> (16 &&& 31))).2
      · rw [if_neg (by omega), if_pos (by omega), z]; rw [show zby a 2 = (a >>> (8 &&& 31)).toBitVec.toNat % 256 from rfl]; exact (zbyte (a >>> (8 &&& 31))).2
      · rw [if_pos (by omega), z]; rw [show zby a 3 = (a >>> (0 &&& 31)).toBitVec.toNat % 256 from rfl]; exact (zbyte (a >>> (0 &&& 31))).2
end FD
theorem zop_feed (X : zX) (a0 a1 a2 a3 a4 : Int32) : zOp zInv X zm_Boats_feed zm_Model_feed [.int a0, .int a1, .int a2, .int a3, .int a4] := by
  intro d K B M hI
  obtain ⟨hK, hSw, n, n', h⟩ := id hI
  obtain ⟨t, ht, t1, t2, t3⟩ := zIn_tp h
  have s1 : M 31 1 + 20 = nI (t + 20) := by rw [t1]; exact nI_add t 20
  have s2 : M 71 3 + 20 = nI (t + 20) := by rw [t2]; exact nI_add t 20
  refine zb_Boats_feedZ_0 (d := d + 190) hK a0 a1 a2 a3 a4 (fun g => ?_) (fun g => ?_)
  · rw [s1] at g
    have g' : t + 20 ≤ 300 := (nI_leI (b := 300) (by omega) (by omega)).mp g
    have z0 : zFa M M t [] := ⟨fun _ _ _ => rfl, fun _ _ => rfl, t1, fun _ _ => rfl, fun j hj => absurd hj (Nat.not_lt_zero j)⟩
    refine sp_addFour (d := d + 198) hK z0 (by simp; omega) a0 (fun M1 z1 => ?_)
    refine zb_Boats_feedZ_26 (d := d + 190) hK a0 a1 a2 a3 a4 ?_
    refine sp_addFour (d := d + 198) hK z1 (by simp; omega) a1 (fun M2 z2 => ?_)
    refine zb_Boats_feedZ_34 (d := d + 190) hK a0 a1 a2 a3 a4 ?_
    refine sp_addFour (d := d + 198) hK z2 (by simp; omega) a2 (fun M3 z3 => ?_)
    refine zb_Boats_feedZ_42 (d := d + 190) hK a0 a1 a2 a3 a4 ?_
    refine sp_addFour (d := d + 198) hK z3 (by simp; omega) a3 (fun M4 z4 => ?_)
    refine zb_Boats_feedZ_51 (d := d + 190) hK a0 a1 a2 a3 a4 ?_
    refine sp_addFour (d := d + 198) hK z4 (by simp; omega) a4 (fun M5 z5 => ?_)
    refine zb_Boats_feedZ_60 (d := d + 190) hK a0 a1 a2 a3 a4 ?_
    have z5 : zFa M M5 t [a0, a1, a2, a3, a4] := z5
    obtain ⟨x1, x2, x3, x4, x5⟩ := z5
    have x3 : M5 31 1 = nI (t + 20) := x3
    rw [x3]
    refine ⟨nI (t + 20), K, B, M5, rfl, rfl, ?_⟩
    have u2 : M5 71 3 = nI t := by rw [x1 71 (by decide) (by decide)]; exact t2
    refine zb_Model_feedZ_0 (d := d + 190) a0 a1 a2 a3 a4 (fun g => ?_) (fun g => ?_)
    · have z0 : zFr M5 M5 t [] := ⟨fun _ _ _ => rfl, fun _ _ => rfl, u2, fun _ _ => rfl, fun j hj => absurd hj (Nat.not_lt_zero j)⟩
      refine sp_put (d := d + 198) hK z0 (by simp; omega) a0 (fun M1 z1 => ?_)
      refine zb_Model_feedZ_20 (d := d + 190) a0 a1 a2 a3 a4 ?_
      refine sp_put (d := d + 198) hK z1 (by simp; omega) a1 (fun M2 z2 => ?_)
      refine zb_Model_feedZ_25 (d := d + 190) a0 a1 a2 a3 a4 ?_
      refine sp_put (d := d + 198) hK z2 (by simp; omega) a2 (fun M3 z3 => ?_)
      refine zb_Model_feedZ_30 (d := d + 190) a0 a1 a2 a3 a4 ?_
      refine sp_put (d := d + 198) hK z3 (by simp; omega) a3 (fun M4 z4 => ?_)
      refine zb_Model_feedZ_36 (d := d + 190) a0 a1 a2 a3 a4 ?_
      refine sp_put (d := d + 198) hK z4 (by simp; omega) a4 (fun M6 z5 => ?_)
      refine zb_Model_feedZ_42 (d := d + 190) a0 a1 a2 a3 a4 ?_
      have z5 : zFr M5 M6 t [a0, a1, a2, a3, a4] := z5
      obtain ⟨y1, y2, y3, y4, y5⟩ := z5
      have y3 : M6 71 3 = nI (t + 20) := y3
      have w : ∀ c, c ≠ 31 → c ≠ 32 → c ≠ 71 → c ≠ 74 → M6 c = M c := fun c h1 h2 h3 h4 => (y1 c h3 h4).trans (x1 c h1 h2)
      refine ⟨K, B, M6, by rw [y3], rfl, hK, hSw, n, n', ?_⟩
      refine zIn_rd h (fun c hc => w c (by omega) (by omega) (by omega) (by omega)) ⟨t + 20, g', ?_, y3, fun i hi => ?_⟩ ?_ (fun t ht => zTx_same (fun c hc => w c (by omega) (by omega) (by omega) (by omega)) (zIn_tx h t ht))
      · rw [y1 31 (by decide) (by decide)]; exact x3
      · rw [y1 32 (by decide) (by decide)]
        rcases Nat.lt_or_ge i t with q | q
        · rw [x4 i q, y4 i q, x1 74 (by decide) (by decide)]
          exact t3 i q
        · have e := x5 (i - t) (by simp; omega)
          have e' := y5 (i - t) (by simp; omega)
          rw [show t + (i - t) = i by omega] at e e'
          exact ⟨_, Nat.mod_lt _ (by decide), e, e'⟩
      · rw [y1 31 (by decide) (by decide), x2 2 (by decide), x2 3 (by decide), y2 4 (by decide), y2 5 (by decide), x1 71 (by decide) (by decide)]
        exact zIn_fa h
    · rw [u2] at g
      exact absurd (by rw [show nI t + 20 = nI (t + 20) from nI_add t 20]; exact nI_le (b := 300) g' (by decide)) g
  · refine ⟨-1, K, B, M, rfl, rfl, zb_Model_feedZ_0 (d := d + 190) a0 a1 a2 a3 a4 (fun g2 => ?_) (fun _ => ⟨K, B, M, rfl, rfl, hI⟩)⟩
    rw [s1] at g
    rw [s2] at g2
    exact absurd g2 g
