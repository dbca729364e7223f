/-! ===== over, longest, broken ===== -/
def zkC (A : Nat → Int32) (n : Nat → Nat) (bt k u : Nat) (cl : Nat → Option (List (Nat × Nat))) (h lm : Nat) : Bool := zkc (n 0) (n 3) (zDD A n) (zmS A n bt k u) (zfi A bt k u (n 5)) (zrnd A n cl h) (zex A bt k (n 6) cl) lm (zla A bt k u (n 5) - 1 - zfi A bt k u (n 5)) (n 0)
def zmC (A : Nat → Int32) (n : Nat → Nat) (bt k u : Nat) (cl : Nat → Option (List (Nat × Nat))) (h : Nat) : Nat := zmoD (n 0) (n 3) (zDD A n) (zmS A n bt k u) (zfi A bt k u (n 5)) (zrnd A n cl h) (zex A bt k (n 6) cl) (zla A bt k u (n 5) - 1 - zfi A bt k u (n 5) + 1)
def zLC (A : Nat → Int32) (n : Nat → Nat) (bt k u : Nat) (cl : Nat → Option (List (Nat × Nat))) (h L : Nat) : Prop := zLst (n 0) (n 3) (zDD A n) (zmS A n bt k u) (zfi A bt k u (n 5)) (zrnd A n cl h) (zex A bt k (n 6) cl) (zla A bt k u (n 5) - 1 - zfi A bt k u (n 5)) L
def zov (A : Nat → Int32) (n : Nat → Nat) (bt k u : Nat) (cl : Nat → Option (List (Nat × Nat))) (h : Nat) : Nat := if zkC A n bt k u cl h (zsty A cl h) = false then 2 else if zsty A cl h < zmC A n bt k u cl h then 1 else 0
def zan (f : Nat → Bool) : Nat → Bool
  | 0 => false
  | k + 1 => zan f k || f k
theorem zan_up {f : Nat → Bool} {k : Nat} (h : zan f k = true) : ∀ i, zan f (k + i) = true := by
  intro i
  induction i with
  | zero => exact h
  | succ i ih =>
    show (zan f (k + i) || f (k + i)) = true
    rw [ih, Bool.true_or]
def zbr (A : Nat → Int32) (n : Nat → Nat) (bt k u : Nat) (cl : Nat → Option (List (Nat × Nat))) : Bool := decide (zfar A n bt k u true < zned cl (zla A bt k u (n 5) - 1 - zfi A bt k u (n 5) + 1)) || zan (fun h => !(zkC A n bt k u cl h (zsty A cl h))) (n 0)
theorem zsty_le (A : Nat → Int32) (cl : Nat → Option (List (Nat × Nat))) (h : Nat) : zsty A cl h ≤ 99 := by
  unfold zsty
  split
  · omega
  · omega
theorem zrnd_lt {A : Nat → Int32} {n : Nat → Nat} {cl : Nat → Option (List (Nat × Nat))} {h : Nat} (hh : h < n 0) (hb : n 0 ≤ 10) : zrnd A n cl h < 1024 := zor_lt10 (zp2 (by omega)) (zsb_lt10 _ hb)
theorem zmS_np {A : Nat → Int32} {n : Nat → Nat} {bt k u e p : Nat} (h : (zmS A n bt k u e).testBit p = true) : p < n 0 := by
  rcases Nat.lt_or_ge p (n 0) with q | q
  · exact q
  · have l : zmS A n bt k u e < 2 ^ n 0 := zmy_lt e
    have l2 : zmS A n bt k u e < 2 ^ p := Nat.lt_of_lt_of_le l (Nat.pow_le_pow_right (by decide) q)
    rw [Nat.testBit_lt_two_pow l2] at h
    exact absurd h (by decide)
theorem zLC_ex {A : Nat → Int32} {n : Nat → Nat} {bt k u : Nat} {cl : Nat → Option (List (Nat × Nat))} (hS : zSok A (n 0) (n 5)) (hD : ∀ d x y, zDD A n d x y = zDD A n d y x) (hb : n 0 ≤ 10) (hp : zpos A bt k u (n 0) (n 5) (n 3) (zDD A n) = true) (h : Nat) : ∃ L, zLC A n bt k u cl h L := by
  obtain ⟨o1, o2, o3, o4, o5, o6⟩ := zmS_ok hS hD hb hp
  exact zLst_ex (fun d p h1 h2 h3 => o6 d p h1 h2 h3) o1 (o5 _ o1.1 (Nat.le_refl _))
theorem zLC_kc {A : Nat → Int32} {n : Nat → Nat} {bt k u : Nat} {cl : Nat → Option (List (Nat × Nat))} {h L lm : Nat} (hL : zLC A n bt k u cl h L) (hl : lm ≤ 99) : zkC A n bt k u cl h lm = decide (L ≤ lm) := by
  obtain ⟨h1, h2, h3⟩ := hL
  by_cases q : L ≤ lm
  · rw [decide_eq_true q]
    exact zkc_up h2 q (by omega)
  · rw [decide_eq_false q]
    exact h3 lm (by omega)
section OV
variable {d : Nat} {F : Option Value → zS → Prop} {X : zX} {b : Nat × Nat} {K : Nat → Nat → Option Nat} {B : Nat → Nat → Int64} {M : Nat → Nat → Int32} {A : Nat → Int32} {n : Nat → Nat} {bt k u tx : Nat} {cl : Nat → Option (List (Nat × Nat))} {ru : Int32}
/-- the class, behind prepareStays and a round -/
theorem zCH_of {h : Nat} (hj : zCJ A n bt k u M) (hr : M 51 3 = nI (zrnd A n cl h)) (hh : h < n 0) (hx : ∀ e, zfi A bt k u (n 5) ≤ e → e ≤ zla A bt k u (n 5) - 1 → M 52 e = nI (zxv A bt k (n 6) (n 0) (zmS A n bt k u) cl e)) : zCH A M (zfi A bt k u (n 5)) (zla A bt k u (n 5) - 1) (n 0) (n 1) (n 2) (n 5) (n 3) (zDD A n) (zmS A n bt k u) (zrnd A n cl h) (zex A bt k (n 6) cl) (zxv A bt k (n 6) (n 0) (zmS A n bt k u) cl) := by
  obtain ⟨j1, j2, j3, j4, j5, j6, j7⟩ := hj
  obtain ⟨o1, o2, o3, o4, o5, o6⟩ := zmS_ok j4.2.2.2.2.1 j4.2.2.2.2.2.2.2.2.1 j6 j7
  exact ⟨j4, j1, j2, o1, o2, j3, hr, zrnd_lt hh j6, hx, fun e => zxv_lt o2 j6, fun e p _ _ q => zxv_ex (zmS_np q) q⟩
theorem sp_amC2 {h : Nat} (hK : zKok K) (hSw : zSw K) (hj : zCJ A n bt k u M) (hr : M 51 3 = nI (zrnd A n cl h)) (hh : h < n 0) (hx : ∀ e, zfi A bt k u (n 5) ≤ e → e ≤ zla A bt k u (n 5) - 1 → M 52 e = nI (zxv A bt k (n 6) (n 0) (zmS A n bt k u) cl e)) (kk : ∀ K' M', zKok K' → zSw K' → (∀ c, c ≠ 53 → c ≠ 54 → M' c = M c) → F (some (.int (nI (zmC A n bt k u cl h)))) (X, b, zLay, K', B, M')) : zCall (d + 8) zm_Stays_atMost [.ref 51] (X, b, zLay, K, B, M) F := by
  obtain ⟨j1, j2, j3, j4, j5, j6, j7, j8, j9, j10, j11⟩ := zCH_of hj hr hh hx
  exact sp_amC hK hSw j1 j2 j3 j4 j5 j6 j7 j8 j9 j10 j11 kk
theorem sp_ckC2 {h lm : Nat} (hK : zKok K) (hSw : zSw K) (hl : lm ≤ 99) (hj : zCJ A n bt k u M) (hr : M 51 3 = nI (zrnd A n cl h)) (hh : h < n 0) (hx : ∀ e, zfi A bt k u (n 5) ≤ e → e ≤ zla A bt k u (n 5) - 1 → M 52 e = nI (zxv A bt k (n 6) (n 0) (zmS A n bt k u) cl e)) (kk : ∀ K' M', zKok K' → zSw K' → (∀ c, c ≠ 53 → c ≠ 54 → M' c = M c) → F (some (.int (nI (zkC A n bt k u cl h lm).toNat))) (X, b, zLay, K', B, M')) : zCall (d + 8) zm_Stays_canKeepTo [.ref 51, .int (nI lm)] (X, b, zLay, K, B, M) F := by
  obtain ⟨j1, j2, j3, j4, j5, j6, j7, j8, j9, j10, j11⟩ := zCH_of hj hr hh hx
  exact sp_ckC hK hSw hl j1 j2 j3 j4 j5 j6 j7 j8 j9 j10 j11 kk
theorem sp_alC2 {h L : Nat} (hK : zKok K) (hSw : zSw K) (hL : zLC A n bt k u cl h L) (hj : zCJ A n bt k u M) (hr : M 51 3 = nI (zrnd A n cl h)) (hh : h < n 0) (hx : ∀ e, zfi A bt k u (n 5) ≤ e → e ≤ zla A bt k u (n 5) - 1 → M 52 e = nI (zxv A bt k (n 6) (n 0) (zmS A n bt k u) cl e)) (kk : ∀ K' M', zKok K' → zSw K' → (∀ c, c ≠ 53 → c ≠ 54 → M' c = M c) → F (some (.int (nI L))) (X, b, zLay, K', B, M')) : zCall (d + 10) zm_Stays_atLeast [.ref 51] (X, b, zLay, K, B, M) F :=
  sp_alC hK hSw hL (zCH_of hj hr hh hx) kk
theorem sp_prs2 (hK : zKok K) (hj : zCJ A n bt k u M) (hP : zPh A M (n 6) (n 0) tx cl) (hb : bt < 8) (hk : k < 60) (kk : ∀ M', (∀ c, c ≠ 39 → c ≠ 40 → c ≠ 52 → M' c = M c) → (∀ e, zfi A bt k u (n 5) ≤ e → e ≤ zla A bt k u (n 5) - 1 → M' 52 e = nI (zxv A bt k (n 6) (n 0) (zmS A n bt k u) cl e)) → F none (X, b, zLay, K, B, M')) : zCall (d + 10) zm_Boats_prepareStays [.ref 0, .int (nI bt), .ref tx, .int (nI k)] (X, b, zLay, K, B, M) F := by
  obtain ⟨j1, j2, j3, j4, j5, j6, j7⟩ := hj
  obtain ⟨o1, o2, -⟩ := zmS_ok j4.2.2.2.2.1 j4.2.2.2.2.2.2.2.2.1 j6 j7
  exact sp_prs hK j1 j2 o1 j3 o2 hP hb hk kk
theorem sp_stl2 {h : Nat} (hK : zKok K) (hP : zPh A M (n 6) (n 0) tx cl) (hh : h < n 0) (kk : ∀ M', (∀ c, c ≠ 39 → c ≠ 40 → M' c = M c) → F (some (.int (nI (zsty A cl h)))) (X, b, zLay, K, B, M')) : zCall (d + 8) zm_Judge_stayLimit [.ref 38, .ref tx, .int (nI h)] (X, b, zLay, K, B, M) F :=
  sp_stl hK hP.2.1 hP.2.2.1 hP.2.2.2.1 hP.2.2.2.2.1 hP.2.2.2.2.2 hh kk
theorem sp_prd2 {h : Nat} (hK : zKok K) (hj : zCJ A n bt k u M) (hP : zPh A M (n 6) (n 0) tx cl) (hh : h < n 0) (kk : ∀ M', (∀ c, c ≠ 39 → c ≠ 40 → M' c = M c) → F (some (.int (nI (zrnd A n cl h)))) (X, b, zLay, K, B, M')) : zCall (d + 8) zm_Judge_placesRound [.ref 38, .ref tx, .int (nI h)] (X, b, zLay, K, B, M) F :=
  sp_prd hK hj.2.2.2.1 hP.2.2.1 hP.2.2.2.1 hP.2.2.2.2.1 hP.2.2.2.2.2 hh kk
/-- breaks -/
def zFb (M M2 : Nat → Nat → Int32) : Prop := ∀ c, c ≤ 38 ∨ (41 ≤ c ∧ c ≤ 43) ∨ 55 ≤ c → M2 c = M c
theorem zCJ_fr {M2 : Nat → Nat → Int32} (h : zFb M M2) (j : zCJ A n bt k u M) : zCJ A n bt k u M2 := zCJ_same (fun c hc => h c (by omega)) j
theorem zPh_fr {M2 : Nat → Nat → Int32} (h : zFb M M2) (j : zPh A M (n 6) (n 0) tx cl) : zPh A M2 (n 6) (n 0) tx cl := zPh_same (fun c hc => h c (by unfold zIk at hc; omega)) j
theorem zFb_tr {M2 M3 : Nat → Nat → Int32} (h : zFb M M2) (k : zFb M2 M3) : zFb M M3 := fun c hc => (k c hc).trans (h c hc)
theorem zFb_sc {M2 : Nat → Nat → Int32} (h : zFb M M2) : zSc M M2 := zSc_w (fun c hc => h c (by
  unfold zsc at hc
  rw [Bool.or_eq_false_iff, Bool.and_eq_false_iff] at hc
  rcases hc.1 with q | q
  · have : ¬ 38 ≤ c := fun z => by rw [Nat.ble_eq_true_of_le z] at q; cases q
    omega
  · have : ¬ c ≤ 54 := fun z => by rw [Nat.ble_eq_true_of_le z] at q; cases q
    omega))
theorem zFb_tab {M2 : Nat → Nat → Int32} (h : zFb M M2) (t : zTab M) : zTab M2 := zTab_w (fun c _ _ => h c (by omega)) t
theorem lp_brC {M0 : Nat → Nat → Int32} (hj : zCJ A n bt k u M0) (hP : zPh A M0 (n 6) (n 0) tx cl) (hx : ∀ e, zfi A bt k u (n 5) ≤ e → e ≤ zla A bt k u (n 5) - 1 → M0 52 e = nI (zxv A bt k (n 6) (n 0) (zmS A n bt k u) cl e)) (kk : ∀ K M, zKok K → zSw K → zFb M0 M → F (some (.int (zbi (zan (fun h => !(zkC A n bt k u cl h (zsty A cl h))) (n 0))))) (X, b, zLay, K, B, M)) : ∀ (q h : Nat) (K : Nat → Nat → Option Nat) (M : Nat → Nat → Int32), h + q = n 0 → zKok K → zSw K → zFb M0 M → M 52 = M0 52 → zan (fun h => !(zkC A n bt k u cl h (zsty A cl h))) h = false → zEx (zCall (d + 23)) 9 false 2 zc_Boats_breaks F 37 [.ref 0, .int (nI bt), .ref tx, .int (nI k), .int (nI h)] [] (X, b, zLay, K, B, M) := by
  intro q
  induction q with
  | zero =>
    intro h K M hh hK hSw u1 u2 e
    have hP1 := zPh_fr u1 hP
    have hh : h = n 0 := by omega
    subst hh
    refine zb_Boats_breaks_37 hK bt k (n 0) hP1.2.1 hP1.2.2.1 (Nat.le_refl _) (fun _ => ?_) (fun z => absurd z (by omega))
    have := kk K M hK hSw u1
    rw [e] at this
    exact this
  | succ q ih =>
    intro h K M hh hK hSw u1 u2 e
    have hP1 := zPh_fr u1 hP
    have hj1 := zCJ_fr u1 hj
    have sl := zsty_le A cl h
    refine zb_Boats_breaks_37 hK bt k h hP1.2.1 hP1.2.2.1 (by omega) (fun z => absurd z (by omega)) (fun _ => ?_)
    refine sp_prd2 (d := d + 15) hK hj1 hP1 (by omega) (fun M2 v2 => ?_)
    have f2 : zFb M M2 := fun c hc => v2 c (by omega) (by omega)
    refine zb_Boats_breaks_63 hK bt k h _ ?_
    have f3 : zFb M (zu M2 51 3 (nI (zrnd A n cl h))) := fun c hc => by rw [zu_oc (by omega)]; exact f2 c hc
    refine sp_stl2 (d := d + 15) hK (zPh_fr f3 hP1) (by omega) (fun M4 v4 => ?_)
    have f4 : zFb M M4 := fun c hc => (v4 c (by omega) (by omega)).trans (f3 c hc)
    refine zb_Boats_breaks_80 bt k h _ ?_
    have e52 : M4 52 = M0 52 := by rw [v4 52 (by decide) (by decide), zu_oc (by decide), v2 52 (by decide) (by decide)]; exact u2
    refine sp_ckC2 (d := d + 15) (h := h) hK hSw sl (zCJ_fr f4 hj1) (by rw [v4 51 (by decide) (by decide), zu_at, if_pos rfl]) (by omega) (by rw [e52]; exact hx) (fun K5 M5 k5 s5 v5 => ?_)
    have f5 : zFb M0 M5 := fun c hc => (v5 c (by omega) (by omega)).trans ((f4 c hc).trans (u1 c hc))
    have st : zan (fun h => !(zkC A n bt k u cl h (zsty A cl h))) (h + 1) = (zan (fun h => !(zkC A n bt k u cl h (zsty A cl h))) h || !(zkC A n bt k u cl h (zsty A cl h))) := rfl
    rw [e, Bool.false_or] at st
    refine zb_Boats_breaks_83 bt k h _ (by have := hP1.2.2.1; omega) (fun z => ?_) (fun z => ?_)
    · cases y : zkC A n bt k u cl h (zsty A cl h) with
      | false => rw [y] at z; exact absurd rfl z
      | true =>
        rw [y] at st
        exact ih (h + 1) K5 M5 (by omega) k5 s5 f5 ((v5 52 (by decide) (by decide)).trans e52) st
    · cases y : zkC A n bt k u cl h (zsty A cl h) with
      | true => rw [y] at z; exact absurd z (by decide)
      | false =>
        rw [y] at st
        have := kk K5 M5 k5 s5 f5
        rw [show n 0 = (h + 1) + (n 0 - (h + 1)) by omega, zan_up st] at this
        exact this
theorem sp_brC (hK : zKok K) (hSw : zSw K) (hj : zCJ A n bt k u M) (hP : zPh A M (n 6) (n 0) tx cl) (hb : bt < 8) (hk : k < 60) (kk : ∀ K' M', zKok K' → zSw K' → zFb M M' → F (some (.int (zbi (zbr A n bt k u cl)))) (X, b, zLay, K', B, M')) : zCall (d + 24) zm_Boats_breaks [.ref 0, .int (nI bt), .ref tx, .int (nI k)] (X, b, zLay, K, B, M) F := by
  have hfg := (zmS_ok hj.2.2.2.1.2.2.2.2.1 hj.2.2.2.1.2.2.2.2.2.2.2.2.1 hj.2.2.2.2.2.1 hj.2.2.2.2.2.2).1
  have nl := zned_le cl (zla A bt k u (n 5) - 1 - zfi A bt k u (n 5) + 1)
  have fb := (zfar_ex hj.2.2.2.1.2.2.2.2.1 hj.2.2.2.1.2.2.2.2.2.2.2.2.1 hj.2.2.2.2.2.1 hj.2.2.2.2.1.2 hj.2.2.2.2.2.2 true).2
  unfold zbr at kk
  refine zb_Boats_breaks_0 hK bt k ?_
  refine sp_mostC (d := d + 14) hK hSw hj (fun K1 M1 k1 s1 v1 => ?_)
  have f1 : zFb M M1 := fun c hc => v1 c (by omega) (by omega)
  have hj1 := zCJ_fr f1 hj
  refine zb_Boats_breaks_7 k1 bt k _ hj1.1 hj1.2.1 hfg ?_
  refine sp_mln (d := d + 15) (by omega) k1 (zPh_fr f1 hP).2.2.2.2.2 (fun M2 v2 => ?_)
  have f2 : zFb M M2 := fun c hc => (v2 c (by omega) (by omega)).trans (f1 c hc)
  refine zb_Boats_breaks_22 bt k _ _ (fun z => ?_) (fun z => ?_)
  · rw [nI_leI (by omega) (by omega)] at z
    rw [decide_eq_false (by omega), Bool.false_or] at kk
    refine sp_prs2 (d := d + 13) k1 (zCJ_fr f2 hj) (zPh_fr f2 hP) hb hk (fun M3 v3 hx => ?_)
    have f3 : zFb M M3 := fun c hc => (v3 c (by omega) (by omega) (by omega)).trans (f2 c hc)
    refine zb_Boats_breaks_34 bt k ?_
    exact lp_brC (zCJ_fr f3 hj) (zPh_fr f3 hP) hx (fun K4 M4 k4 s4 v4 => kk K4 M4 k4 s4 (zFb_tr f3 v4)) (n 0) 0 K1 M3 (by omega) k1 s1 (fun _ _ => rfl) rfl rfl
  · rw [nI_leI (by omega) (by omega)] at z
    rw [decide_eq_true (by omega), Bool.true_or] at kk
    exact kk K1 M2 k1 s1 f2
/-- the reference -/
def zRq (A : Nat → Int32) (n : Nat → Nat) (M : Nat → Nat → Int32) (bt k u : Nat) (ru : Int32) (cl : Nat → Option (List (Nat × Nat))) : Prop := zRJ A n bt k u M ∧ M 72 = A ∧ zRr M ru cl ∧ (A 0 = nI (n 0) ∧ A 6 = nI (n 6) ∧ n 6 ≤ 20) ∧ zPa A (n 0) ∧ zXa A (n 6) ∧ (∀ d x y, x < 10 → zDD A n d x y < 100000 → zDD A n d x y ≤ 300)
def zGr (M M2 : Nat → Nat → Int32) : Prop := ∀ c, c ≠ 85 → c ≠ 91 → c ≠ 92 → c ≠ 93 → M2 c = M c
theorem zRq_same {M2 : Nat → Nat → Int32} (h : zGr M M2) (j : zRq A n M bt k u ru cl) : zRq A n M2 bt k u ru cl := by
  obtain ⟨j1, j2, j3, j4⟩ := j
  exact ⟨zRJ_same (by rw [h 71 (by decide) (by decide) (by decide) (by decide)]; exact ⟨rfl, rfl⟩) (fun c hc => h c (by omega) (by omega) (by omega) (by omega)) j1, (h 72 (by decide) (by decide) (by decide) (by decide)).trans j2, zRr_same (fun c h1 h2 => h c (by omega) (by omega) (by omega) (by omega)) j3, j4⟩
theorem zGr_tr {M2 M3 : Nat → Nat → Int32} (h : zGr M M2) (k : zGr M2 M3) : zGr M M3 := fun c h1 h2 h3 h4 => (k c h1 h2 h3 h4).trans (h c h1 h2 h3 h4)
theorem zGr_sc {M2 : Nat → Nat → Int32} (h : zGr M M2) : zSc M M2 := zSc_w (fun c hc => h c (fun q => by rw [q] at hc; exact absurd hc (by decide)) (fun q => by rw [q] at hc; exact absurd hc (by decide)) (fun q => by rw [q] at hc; exact absurd hc (by decide)) (fun q => by rw [q] at hc; exact absurd hc (by decide)))
theorem zGr_tab {M2 : Nat → Nat → Int32} (h : zGr M M2) (t : zTab M) : zTab M2 := zTab_w (fun c _ _ => h c (by omega) (by omega) (by omega) (by omega)) t
theorem sp_lx2 (hK : zKok K) (hj : zRq A n M bt k u ru cl) (hb : bt < 8) (hk : k < 60) (kk : ∀ B' M', zGr M M' → (∀ e p, zfi A bt k u (n 5) ≤ e → e ≤ zla A bt k u (n 5) - 1 → p < n 0 → M' 92 (10 * e + p) = zbi (decide (zex A bt k (n 6) cl e p = true))) → F none (X, b, zLay, K, B', M')) : zCall (d + 10) zm_Model_laysExcused [.ref 71, .int (nI bt), .int ru, .int (nI k)] (X, b, zLay, K, B, M) F := by
  obtain ⟨j1, j2, j3, ⟨j4, j5, j6⟩, j7, j8, -⟩ := hj
  have hfg := (zmS_ok j1.2.2.2.2.2.1 j1.2.2.2.2.1.2.2.2.2.2 j1.2.2.2.2.2.2.1 j1.2.2.2.2.2.2.2).1
  exact sp_lx hK j1.1 j1.2.1 hfg j2 j4 j5 j6 j1.2.2.2.2.2.2.1 j7 j8 j3 hb hk (fun B' M' u1 u2 => kk B' M' (fun c h1 _ h3 _ => u1 c h1 h3) u2)
theorem zRH_of {h : Nat} (hj : zRq A n M bt k u ru cl) (hh : h < n 0) (hx : ∀ e p, zfi A bt k u (n 5) ≤ e → e ≤ zla A bt k u (n 5) - 1 → p < n 0 → M 92 (10 * e + p) = zbi (decide (zex A bt k (n 6) cl e p = true))) : zRH M (zfi A bt k u (n 5)) (zla A bt k u (n 5) - 1) (n 0) (n 5) (n 3) (zDD A n) (zmS A n bt k u) (zLd A n bt k u) (zBk A n bt k u) (zrnd A n cl h) (zex A bt k (n 6) cl) := by
  obtain ⟨j1, -⟩ := hj
  obtain ⟨o1, o2, o3, o4, -⟩ := zmS_ok j1.2.2.2.2.2.1 j1.2.2.2.2.1.2.2.2.2.2 j1.2.2.2.2.2.2.1 j1.2.2.2.2.2.2.2
  exact ⟨j1.1, j1.2.1, o1, j1.2.2.2.2.1, j1.2.2.2.2.2.2.1, fun e h1 h2 => ⟨j1.2.2.1 e h1 h2, j1.2.2.2.1 e h1 h2, o4 e h1 h2⟩, o2, zrnd_lt hh j1.2.2.2.2.2.2.1, hx⟩
theorem sp_rdO2 {h : Nat} (hK : zKok K) (hj : zRq A n M bt k u ru cl) (hh : h < n 0) (kk : ∀ B' M', (∀ c, c ≠ 85 → M' c = M c) → F (some (.int (nI (zrnd A n cl h)))) (X, b, zLay, K, B', M')) : zCall (d + 8) zm_Model_roundOf [.ref 71, .int ru, .int (nI h)] (X, b, zLay, K, B, M) F := by
  obtain ⟨j1, j2, j3, ⟨j4, j5, j6⟩, j7, j8, j9⟩ := hj
  exact sp_rdO hK j2 j4 j1.2.2.2.2.2.2.1 j7 (j1.2.2.2.2.1.2.2.2.1 60 (by decide)) j1.2.2.2.2.1.2.2.2.2.1 j9 j3 hh kk
theorem sp_ovO {h : Nat} (hK : zKok K) (hj : zRq A n M bt k u ru cl) (hh : h < n 0) (hx : ∀ e p, zfi A bt k u (n 5) ≤ e → e ≤ zla A bt k u (n 5) - 1 → p < n 0 → M 92 (10 * e + p) = zbi (decide (zex A bt k (n 6) cl e p = true))) (kk : ∀ B' M', (∀ c, c ≠ 85 → c ≠ 91 → M' c = M c) → F (some (.int (nI (zov A n bt k u cl h)))) (X, b, zLay, K, B', M')) : zCall (d + 20) zm_Model_overOf [.ref 71, .int ru, .int (nI h)] (X, b, zLay, K, B, M) F := by
  have j1 := hj.1
  obtain ⟨L, hL⟩ := zLC_ex (cl := cl) j1.2.2.2.2.2.1 j1.2.2.2.2.1.2.2.2.2.2 j1.2.2.2.2.2.2.1 j1.2.2.2.2.2.2.2 h
  have hfg := (zmS_ok j1.2.2.2.2.2.1 j1.2.2.2.2.1.2.2.2.2.2 j1.2.2.2.2.2.2.1 j1.2.2.2.2.2.2.2).1
  have sl := zsty_le A cl h
  have l60 := hL.1
  have ml : zmC A n bt k u cl h ≤ 61 := Nat.le_trans (zmoD_le _) (by omega)
  unfold zov at kk
  rw [zLC_kc hL sl] at kk
  refine zb_Model_overOf_0 ru h ?_
  refine sp_rdO2 (d := d + 11) hK hj hh (fun B1 M1 v1 => ?_)
  have g1 : zGr M M1 := fun c h1 _ _ _ => v1 c h1
  have hj1 := zRq_same g1 hj
  refine zb_Model_overOf_6 ru h _ ?_
  refine sp_sto (d := d + 11) (A := A) (n := n) hK hj1.2.1 hj1.2.2.2.1.1 j1.2.2.2.2.2.2.1 hj1.2.2.2.2.1 hj1.2.2.1 hh (fun B2 M2 v2 => ?_)
  have g2 : zGr M M2 := fun c h1 _ _ _ => (v2 c h1).trans (v1 c h1)
  have hj2 := zRq_same g2 hj
  have hx2 : ∀ e p, zfi A bt k u (n 5) ≤ e → e ≤ zla A bt k u (n 5) - 1 → p < n 0 → M2 92 (10 * e + p) = zbi (decide (zex A bt k (n 6) cl e p = true)) := by rw [v2 92 (by decide), v1 92 (by decide)]; exact hx
  refine zb_Model_overOf_13 ru h _ _ ?_
  refine sp_alR (d := d + 11) hK hL (zRH_of hj2 hh hx2) (fun M3 v3 => ?_)
  refine zb_Model_overOf_20 ru h _ _ _ (fun z => ?_) (fun z => ?_)
  · rw [nI_leI (by omega) (by omega)] at z
    rw [decide_eq_true z, if_neg (by decide)] at kk
    refine sp_amR (d := d + 13) hK (zRH_same v3 (zRH_of hj2 hh hx2)) (fun M4 v4 => ?_)
    have e := kk B2 M4 (fun c h1 h2 => (v4 c h2).trans ((v3 c h2).trans ((v2 c h1).trans (v1 c h1))))
    refine zb_Model_overOf_34 ru h _ _ _ (fun y => ?_) (fun y => ?_)
    · change nI (zmC A n bt k u cl h) ≤ _ at y
      rw [nI_leI (by omega) (by omega)] at y
      rw [if_neg (by omega)] at e
      exact e
    · change ¬ nI (zmC A n bt k u cl h) ≤ _ at y
      rw [nI_leI (by omega) (by omega)] at y
      rw [if_pos (by omega)] at e
      exact e
  · rw [nI_leI (by omega) (by omega)] at z
    rw [decide_eq_false z, if_pos rfl] at kk
    exact kk B2 M3 (fun c h1 h2 => (v3 c h2).trans ((v2 c h1).trans (v1 c h1)))
theorem zov_2 {h : Nat} : (nI (zov A n bt k u cl h) = 2) ↔ zkC A n bt k u cl h (zsty A cl h) = false := by
  unfold zov
  constructor
  · intro q
    cases y : zkC A n bt k u cl h (zsty A cl h) with
    | false => rfl
    | true =>
      rw [y, if_neg (by decide)] at q
      split at q
      · exact absurd q (by decide)
      · exact absurd q (by decide)
  · intro q
    rw [q, if_pos rfl]
    rfl
theorem lp_brO {M0 : Nat → Nat → Int32} {s : Bool} (hK : zKok K) (hj : zRq A n M0 bt k u ru cl) (hx : ∀ e p, zfi A bt k u (n 5) ≤ e → e ≤ zla A bt k u (n 5) - 1 → p < n 0 → M0 92 (10 * e + p) = zbi (decide (zex A bt k (n 6) cl e p = true))) (kk : ∀ B' M, (∀ c, c ≠ 85 → c ≠ 91 → M c = M0 c) → F (some (.int (zbi (s || zan (fun h => !(zkC A n bt k u cl h (zsty A cl h))) (n 0))))) (X, b, zLay, K, B', M)) : ∀ (q h : Nat) (B : Nat → Nat → Int64) (M : Nat → Nat → Int32), h + q = n 0 → (∀ c, c ≠ 85 → c ≠ 91 → M c = M0 c) → zEx (zCall (d + 23)) 10 false 2 zc_Model_isBroken F 26 [.ref 71, .int (nI bt), .int ru, .int (nI k), .int (nI (s || zan (fun h => !(zkC A n bt k u cl h (zsty A cl h))) h).toNat), .int (nI h)] [] (X, b, zLay, K, B, M) := by
  have tn : ∀ x : Bool, x.toNat ≤ 1 := fun x => by cases x <;> decide
  have b01 : ∀ x : Bool, nI x.toNat = 0 ∨ nI x.toNat = 1 := fun x => by cases x <;> decide
  intro q
  induction q with
  | zero =>
    intro h B M hh u1
    have g1 : zGr M0 M := fun c h1 h2 _ _ => u1 c h1 h2
    have hj1 := zRq_same g1 hj
    have hh : h = n 0 := by omega
    subst hh
    refine zb_Model_isBroken_26 hK bt ru k _ (n 0) (by rw [hj1.2.1]; exact hj1.2.2.2.1.1) hj1.1.2.2.2.2.2.2.1 (Nat.le_refl _) (tn _) (fun _ => b01 _) (fun _ => ?_) (fun z => absurd z (by omega)) (fun z => absurd z (by omega)) (fun z => absurd z (by omega))
    have := kk B M u1
    rw [zbi_n] at this
    exact this
  | succ q ih =>
    intro h B M hh u1
    have g1 : zGr M0 M := fun c h1 h2 _ _ => u1 c h1 h2
    have hj1 := zRq_same g1 hj
    have st : zan (fun h => !(zkC A n bt k u cl h (zsty A cl h))) (h + 1) = (zan (fun h => !(zkC A n bt k u cl h (zsty A cl h))) h || !(zkC A n bt k u cl h (zsty A cl h))) := rfl
    refine zb_Model_isBroken_26 hK bt ru k _ h (by rw [hj1.2.1]; exact hj1.2.2.2.1.1) hj1.1.2.2.2.2.2.2.1 (by omega) (tn _) (fun z => absurd z (by omega)) (fun z => absurd z (by omega)) (fun _ _ => b01 _) (fun _ z => ?_) (fun _ z => ?_)
    · have e1 : (s || zan (fun h => !(zkC A n bt k u cl h (zsty A cl h))) h) = true := by
        cases y : (s || zan (fun h => !(zkC A n bt k u cl h (zsty A cl h))) h) with
        | true => rfl
        | false => rw [y] at z; exact absurd rfl z
      have e2 : (s || zan (fun h => !(zkC A n bt k u cl h (zsty A cl h))) (n 0)) = true := by
        cases s with
        | true => rfl
        | false =>
          rw [Bool.false_or] at e1 ⊢
          rw [show n 0 = h + (n 0 - h) by omega]
          exact zan_up e1 _
      have := kk B M u1
      rw [e2] at this
      rw [e1]
      exact this
    · have e1 : (s || zan (fun h => !(zkC A n bt k u cl h (zsty A cl h))) h) = false := by
        cases y : (s || zan (fun h => !(zkC A n bt k u cl h (zsty A cl h))) h) with
        | false => rfl
        | true => rw [y] at z; exact absurd z (by decide)
      refine sp_ovO (d := d + 3) hK hj1 (by omega) (by rw [u1 92 (by decide) (by decide)]; exact hx) (fun B2 M2 v2 => ?_)
      have e := ih (h + 1) B2 M2 (by omega) (fun c h1 h2 => (v2 c h1 h2).trans (u1 c h1 h2))
      rw [st, ← Bool.or_assoc, e1, Bool.false_or] at e
      refine zb_Model_isBroken_49 bt ru k _ h _ (by have := hj1.1.2.2.2.2.2.2.1; omega) (fun y => ?_) (fun y => ?_)
      · rw [zov_2] at y
        rw [show zkC A n bt k u cl h (zsty A cl h) = true by cases x : zkC A n bt k u cl h (zsty A cl h) with
          | true => rfl
          | false => exact absurd x y] at e
        exact e
      · rw [zov_2] at y
        rw [y] at e
        exact e
theorem sp_brO (hK : zKok K) (hj : zRq A n M bt k u ru cl) (hb : bt < 8) (hk : k < 60) (kk : ∀ B' M', zGr M M' → F (some (.int (zbi (zbr A n bt k u cl)))) (X, b, zLay, K, B', M')) : zCall (d + 24) zm_Model_isBroken [.ref 71, .int (nI bt), .int ru, .int (nI k)] (X, b, zLay, K, B, M) F := by
  refine zb_Model_isBroken_0 bt ru k ?_
  refine sp_lx2 (d := d + 13) hK hj hb hk (fun B1 M1 v1 hx => ?_)
  have hj1 := zRq_same v1 hj
  refine zb_Model_isBroken_7 bt ru k ?_
  refine sp_sBy (d := d + 13) hK hj1.1 hj1.2.2.1 (fun B2 M2 v2 => ?_)
  have g2 : zGr M1 M2 := fun c h1 _ _ h4 => v2 c h1 h4
  have hx2 : ∀ e p, zfi A bt k u (n 5) ≤ e → e ≤ zla A bt k u (n 5) - 1 → p < n 0 → M2 92 (10 * e + p) = zbi (decide (zex A bt k (n 6) cl e p = true)) := by rw [v2 92 (by decide) (by decide)]; exact hx
  have go := fun s kk => lp_brO (d := d) (F := F) (X := X) (b := b) (s := s) hK (zRq_same g2 hj1) hx2 kk (n 0) 0 B2 M2 (by omega) (fun _ _ _ => rfl)
  unfold zbr at kk
  refine zb_Model_isBroken_12 bt ru k _ (fun z => ?_) (fun z => ?_)
  · have y : ¬ zfar A n bt k u true < zned cl (zla A bt k u (n 5) - 1 - zfi A bt k u (n 5) + 1) := fun q => z (by unfold zsho; rw [if_pos q]; rfl)
    rw [decide_eq_false y] at kk
    exact go false (fun B3 M3 v3 => kk B3 M3 (zGr_tr v1 (zGr_tr g2 (fun c h1 h2 _ _ => v3 c h1 h2))))
  · have y : zfar A n bt k u true < zned cl (zla A bt k u (n 5) - 1 - zfi A bt k u (n 5) + 1) := by
      rcases Nat.lt_or_ge (zfar A n bt k u true) (zned cl (zla A bt k u (n 5) - 1 - zfi A bt k u (n 5) + 1)) with q | q
      · exact q
      · unfold zsho at z
        rw [if_neg (by omega)] at z
        split at z
        · exact absurd z (by decide)
        · exact absurd z (by decide)
    rw [decide_eq_true y] at kk
    exact go true (fun B3 M3 v3 => kk B3 M3 (zGr_tr v1 (zGr_tr g2 (fun c h1 h2 _ _ => v3 c h1 h2))))
end OV
