/-! ===== swapped ===== -/
def zcbw (np pc m : Nat) (D : Nat → Nat → Nat → Nat) (A : Nat → Int32) (o1 o2 k d : Nat) : Bool := decide (zld (fun d S => zrc np pc (D d) S) (zup1 (zal A np o1 k 60 m) d (zal A np o2 k 60 m d)) (zfi A o1 k 60 m) (zla A o1 k 60 m - 1 - zfi A o1 k 60 m) ≠ 0)
def zswp (np pc m : Nat) (D : Nat → Nat → Nat → Nat) (A : Nat → Int32) (o1 o2 k d : Nat) : Bool := zsd A o1 k 60 m d && (zsd A o2 k 60 m d && (zcbw np pc m D A o1 o2 k d && zcbw np pc m D A o2 o1 k d))
def zswc (np pc m : Nat) (D : Nat → Nat → Nat → Nat) (A : Nat → Int32) (o1 o2 k d : Nat) : Bool := zswp np pc m D A o1 o2 k d && (!(zpos A o1 k 60 np m pc D) || !(zpos A o2 k 60 np m pc D))
def zswr (c : Nat → Bool) (i : Int32) : Nat → Nat → Nat → Int32
  | 0, _, cnt => if i = -1 then nI cnt else -1
  | f + 1, d, cnt => if c d = true then (if nI cnt = i then nI d else zswr c i f (d + 1) (cnt + 1)) else zswr c i f (d + 1) cnt
theorem zswr_f {c : Nat → Bool} {i : Int32} (h : ∀ d, d < 60 → c d = false) : ∀ (f d cnt : Nat), d + f ≤ 60 → zswr c i f d cnt = if i = -1 then nI cnt else -1 := by
  intro f
  induction f with
  | zero => intro d cnt _; rfl
  | succ f ih =>
    intro d cnt hd
    unfold zswr
    rw [if_neg (by rw [h d (by omega)]; decide), ih (d + 1) cnt (by omega)]
theorem zup1_self (al : Nat → Nat) (d : Nat) : zup1 al d (al d) = al := by
  funext e
  unfold zup1
  by_cases h : e = d
  · rw [if_pos h, h]
  · rw [if_neg h]
theorem zcbw_self {np pc m : Nat} {D : Nat → Nat → Nat → Nat} {A : Nat → Int32} {o1 k d : Nat} (h : zfi A o1 k 60 m < 60) : zcbw np pc m D A o1 o1 k d = zpos A o1 k 60 np m pc D := by
  unfold zcbw zpos
  rw [zup1_self, zblt_t h, Bool.true_and]
  generalize zld (fun d S => zrc np pc (D d) S) (zal A np o1 k 60 m) (zfi A o1 k 60 m) (zla A o1 k 60 m - 1 - zfi A o1 k 60 m) = x
  by_cases q : x = 0
  · rw [q]; rfl
  · rw [zbeq_f q]; simp [q]
theorem zfi_fg {A : Nat → Int32} {bt k u np m : Nat} (hS : zSok A np m) (h1 : zfi A bt k u m < 60) : zfi A bt k u m ≤ zla A bt k u m - 1 ∧ zla A bt k u m - 1 < 60 ∧ 1 ≤ zla A bt k u m ∧ zlI (zla A bt k u m) = nI (zla A bt k u m - 1) ∧ zsd A bt k u m (zfi A bt k u m) = true := by
  have fl := zfl (bt := bt) (k := k) (u := u) hS
  have h2 := (fl.2.2.2.1 h1).1
  have h3 := fl.2.1
  refine ⟨by omega, by omega, by omega, ?_, (fl.2.2.2.1 h1).2.1⟩
  unfold zlI
  rw [if_neg (by omega)]
theorem zav_1 {A : Nat → Int32} {np bt k u m d : Nat} (hb : np ≤ 10) : zav A np bt k u m d = -1 ↔ zsd A bt k u m d = false := by
  unfold zav
  cases h : zsd A bt k u m d
  · exact ⟨fun _ => rfl, fun _ => rfl⟩
  · rw [cond_true]
    refine ⟨fun q => absurd q (znn (n := zal A np bt k u m d) ?_ (c := -1) (by decide)).1, fun q => by cases q⟩
    have := zp1024 (zal_lt A np bt k u m d) hb
    omega
section SW
variable {d : Nat} {F : Option Value → zS → Prop} {X : zX} {b : Nat × Nat} {K : Nat → Nat → Option Nat} {B : Nat → Nat → Int64} {M : Nat → Nat → Int32} {np nw ns pc m : Nat} {D : Nat → Nat → Nat → Nat}
theorem sp_McanBe (hK : zKok K) (hR : zRf87 M np m pc D) {bt k dd o : Nat} (ha : bt < 8 ∧ k < 60 ∧ o < 8) (hd : dd < 60) (hn : zfi (M 72) bt k 60 m < 60) (kk : ∀ M', (∀ c, c ≠ 71 → c ≠ 88 → c ≠ 89 → c ≠ 90 → M' c = M c) → (∀ i, i ≠ 33 → i ≠ 34 → M' 71 i = M 71 i) → F (some (.int (zbi (zcbw np pc m D (M 72) bt o k dd)))) (X, b, zLay, K, B, M')) : zCall (d + 8) zm_Model_canBe [.ref 71, .int (nI bt), .int (nI k), .int (nI dd), .int (nI o)] (X, b, zLay, K, B, M) F := by
  have hS := hR.1
  obtain ⟨f2, f3, f4, f5, -⟩ := zfi_fg (bt := bt) (k := k) (u := 60) hS.2.2.2.2 hn
  refine zb_Model_canBe_0 bt k dd o ?_
  refine sp_laysSeen (d := d + 6) (u := 60) hK hS ⟨ha.2.2, ha.2.1, by omega⟩ (fun M1 l1 => ?_)
  obtain ⟨a1, a2, a3, a4, a5⟩ := l1
  refine zb_Model_canBe_9 hK bt k dd o _ hd (a5 dd hd) ?_
  have e72 : M1 72 = M 72 := a1 72 (by decide) (by decide)
  have hS1 : zSn (M1 72) np m := by rw [e72]; exact hS
  refine sp_laysSeen (d := d + 6) (u := 60) hK hS1 ⟨ha.1, ha.2.1, by omega⟩ (fun M2 l2 => ?_)
  obtain ⟨b1, b2, b3, b4, b5⟩ := l2
  rw [e72] at b3 b4 b5
  have e72' : M2 72 = M 72 := (b1 72 (by decide) (by decide)).trans e72
  refine zb_Model_canBe_27 hK bt k dd o _ _ _ hd ?_
  have hL : zLi (zu M2 88 dd (nI (zal (M 72) np o k 60 m dd))) np m pc (zfi (M 72) bt k 60 m) (zla (M 72) bt k 60 m - 1) (zup1 (zal (M 72) np bt k 60 m) dd (zal (M 72) np o k 60 m dd)) D := by
    refine ⟨?_, ?_, ⟨f2, f3⟩, fun e he => ?_, zRf87_same hR ?_ ?_, fun e => ?_⟩
    · rw [zu_oc (by decide), b3, zfI_n hn]
    · rw [zu_oc (by decide), b4, f5]
    · rw [zu_at]
      unfold zup1
      by_cases q : e = dd
      · rw [if_pos q, if_pos q]
      · rw [if_neg q, if_neg q]; exact b5 e he
    · rw [zu_oc (by decide), e72']
    · rw [zu_oc (by decide), b1 87 (by decide) (by decide), a1 87 (by decide) (by decide)]
    · unfold zup1
      split
      · exact zal_lt _ _ _ _ _ _ _
      · exact zal_lt _ _ _ _ _ _ _
  refine sp_leads (d := d + 4) hK hL (fun M3 z1 z2 z3 => ?_)
  refine zb_Model_canBe_41 bt k dd o _ _ _ (zbi_01 _) ?_
  refine kk M3 (fun c h1 h2 h3 h4 => ?_) (fun i h1 h2 => ?_)
  · rw [z1 c h3 h4, zu_oc h2, b1 c h2 h1, a1 c h2 h1]
  · rw [z1 71 (by decide) (by decide), zu_oc (by decide), b2 i h1 h2, a2 i h1 h2]
theorem lp_wasSeen (hK : zKok K) (hS : zSn (M 72) np m) {bt dd k : Nat} (ha : bt < 8 ∧ dd < 60 ∧ k < 60) (kk : F (some (.int (zbi (zsd (M 72) bt k 60 m dd)))) (X, b, zLay, K, B, M)) : ∀ (q j : Nat) (l6 : Value), l6.category = 1 → j + q = m → zEx (zCall d) 10 false 2 zc_Model_wasSeen F 6 [.ref 71, .int (nI bt), .int (nI dd), .int (nI k), .int (nI (zsd (M 72) bt k 60 j dd).toNat), .int (nI j), l6] [] (X, b, zLay, K, B, M) := by
  have ht : ∀ x : Bool, x.toNat ≤ 1 := fun x => by cases x <;> decide
  have hb := hS.2.2.1.2
  have bs : ∀ j, j < m → zsn (M 72) 2 j < 60 ∧ zsn (M 72) 3 j < 60 ∧ zsn (M 72) 0 j < 8 := fun j hj => (hS.2.2.2.2 j hj).2
  intro q
  induction q with
  | zero =>
    intro j l6 c6 hj
    have hj : j = m := by omega
    subst hj
    rw [zbi_n] at kk
    exact zb_Model_wasSeen_6 hK bt dd k _ j l6 c6 hS hb ha (bs j) (Nat.le_refl _) (ht _) (fun _ => by rw [← zbi_n]; exact zbi_01 _) (fun _ => kk) (fun z _ => absurd z (by omega)) (fun z _ _ => absurd z (by omega)) (fun z _ _ _ => absurd z (by omega)) (fun z _ _ _ _ => absurd z (by omega)) (fun z _ _ _ _ => absurd z (by omega))
  | succ q ih =>
    intro j l6 c6 hj
    have e := fun l6 c6 => ih (j + 1) l6 c6 (by omega)
    have st : zsd (M 72) bt k 60 (j + 1) dd = (zsd (M 72) bt k 60 j dd || (zsm (M 72) bt k 60 j && Nat.beq (zsn (M 72) 2 j) dd)) := rfl
    have bj := bs j (by omega)
    have sm : zsm (M 72) bt k 60 j = (Nat.beq (zsn (M 72) 0 j) bt && (Nat.ble (zsn (M 72) 3 j) k && Nat.ble (zsn (M 72) 2 j) 60)) := rfl
    rw [sm, Nat.ble_eq_true_of_le (show zsn (M 72) 2 j ≤ 60 by omega), Bool.and_true] at st
    have n0 : ∀ x : Bool, x.toNat = 0 → x = false := fun x q => by cases x; rfl; cases q
    have n1 : ∀ x : Bool, x.toNat ≠ 0 → x = true := fun x q => by cases x; exact absurd rfl q; rfl
    refine zb_Model_wasSeen_6 hK bt dd k _ j l6 c6 hS hb ha (bs j) (by omega) (ht _) (fun z => absurd z (by omega)) (fun z => absurd z (by omega)) (fun _ z => ?_) (fun _ z z2 => ?_) (fun _ z z2 z3 => ?_) (fun _ z z2 z3 z4 => ?_) (fun _ z z2 z3 z4 => ?_)
    · rw [n1 _ z, Bool.true_or] at st
      have e := e (.int (nI (100 + 4 * j))) rfl
      rw [st] at e; exact e
    · rw [n0 _ z, zbeq_f z2, Bool.false_and, Bool.false_and, Bool.false_or] at st
      have e := e (.int (nI (100 + 4 * j))) rfl
      rw [st] at e; exact e
    · rw [n0 _ z, zbeq_f z3, Bool.and_false, Bool.false_or] at st
      have e := e (.int (nI (100 + 4 * j))) rfl
      rw [st] at e; exact e
    · rw [n0 _ z, zble_f z4, Bool.and_false, Bool.false_and, Bool.false_or] at st
      have e := e (.int (nI (100 + 4 * j))) rfl
      rw [st] at e; exact e
    · rw [n0 _ z, z2, z3, Nat.beq_refl, Nat.beq_refl, Nat.ble_eq_true_of_le z4] at st
      have e := e (.int (nI (100 + 4 * j))) rfl
      rw [st] at e; exact e
theorem sp_wasSeen (hK : zKok K) (hS : zSn (M 72) np m) {bt dd k : Nat} (ha : bt < 8 ∧ dd < 60 ∧ k < 60) (kk : F (some (.int (zbi (zsd (M 72) bt k 60 m dd)))) (X, b, zLay, K, B, M)) : zCall (d + 1) zm_Model_wasSeen [.ref 71, .int (nI bt), .int (nI dd), .int (nI k)] (X, b, zLay, K, B, M) F := by
  refine zb_Model_wasSeen_0 bt dd k hS hS.2.2.1.2 ha ?_
  exact lp_wasSeen hK hS ha kk m 0 .null rfl (by omega)
theorem zbf {x : Bool} (h : zbi x = 0) : x = false := by cases x; rfl; exact absurd h (by decide)
theorem zbt {x : Bool} (h : ¬ zbi x = 0) : x = true := by cases x; exact absurd rfl h; rfl
theorem sp_isSwapped (hK : zKok K) (hR : zRf87 M np m pc D) {o1 o2 k dd : Nat} (ha : o1 < 8 ∧ o2 < 8 ∧ k < 60) (hd : dd < 60) (kk : ∀ M', (∀ c, c ≠ 71 → c ≠ 88 → c ≠ 89 → c ≠ 90 → M' c = M c) → (∀ i, i ≠ 33 → i ≠ 34 → M' 71 i = M 71 i) → F (some (.int (zbi (zswc np pc m D (M 72) o1 o2 k dd)))) (X, b, zLay, K, B, M')) : zCall (d + 10) zm_Model_isSwapped [.ref 71, .int (nI o1), .int (nI o2), .int (nI k), .int (nI dd)] (X, b, zLay, K, B, M) F := by
  have hS := hR.1
  have fl1 := zfl (bt := o1) (k := k) (u := 60) hS.2.2.2.2
  have fl2 := zfl (bt := o2) (k := k) (u := 60) hS.2.2.2.2
  have e0 := kk M (fun _ _ _ _ _ => rfl) (fun _ _ _ => rfl)
  unfold zswc zswp at kk e0
  refine zb_Model_isSwapped_0 o1 o2 k dd ?_
  refine sp_wasSeen (d := d + 8) hK hS ⟨ha.1, hd, ha.2.2⟩ ?_
  refine zb_Model_isSwapped_8 o1 o2 k dd _ (fun q => ?_) (fun q => ?_)
  · rw [zbf q, Bool.false_and, Bool.false_and] at e0; exact e0
  have s1 := zbt q
  have n1 : zfi (M 72) o1 k 60 m < 60 := by have := (fl1.2.2.2.2 dd s1).1; omega
  refine sp_wasSeen (d := d + 8) hK hS ⟨ha.2.1, hd, ha.2.2⟩ ?_
  refine zb_Model_isSwapped_19 o1 o2 k dd _ (fun q => ?_) (fun q => ?_)
  · rw [zbf q, Bool.false_and, Bool.and_false, Bool.false_and] at e0; exact e0
  have s2 := zbt q
  have n2 : zfi (M 72) o2 k 60 m < 60 := by have := (fl2.2.2.2.2 dd s2).1; omega
  rw [s1, s2, Bool.true_and, Bool.true_and] at kk
  clear e0
  have hR' : ∀ M' : Nat → Nat → Int32, (∀ c, c ≠ 71 → c ≠ 88 → c ≠ 89 → c ≠ 90 → M' c = M c) → zRf87 M' np m pc D := fun M' u => zRf87_same hR (u 72 (by decide) (by decide) (by decide) (by decide)) (u 87 (by decide) (by decide) (by decide) (by decide))
  have e72 : ∀ M' : Nat → Nat → Int32, (∀ c, c ≠ 71 → c ≠ 88 → c ≠ 89 → c ≠ 90 → M' c = M c) → M' 72 = M 72 := fun M' u => u 72 (by decide) (by decide) (by decide) (by decide)
  refine sp_McanBe (d := d + 1) hK hR ⟨ha.1, ha.2.2, ha.2.1⟩ hd n1 (fun M1 u1 v1 => ?_)
  refine zb_Model_isSwapped_31 o1 o2 k dd _ (fun q => ?_) (fun q => ?_)
  · have e := kk M1 u1 v1
    rw [zbf q, Bool.false_and, Bool.false_and] at e; exact e
  have c1 := zbt q
  refine sp_McanBe (d := d + 1) hK (hR' M1 u1) ⟨ha.2.1, ha.2.2, ha.1⟩ hd (by rw [e72 M1 u1]; exact n2) (fun M2 u2 v2 => ?_)
  have u2 : ∀ c, c ≠ 71 → c ≠ 88 → c ≠ 89 → c ≠ 90 → M2 c = M c := fun c h1 h2 h3 h4 => (u2 c h1 h2 h3 h4).trans (u1 c h1 h2 h3 h4)
  have v2 : ∀ i, i ≠ 33 → i ≠ 34 → M2 71 i = M 71 i := fun i h1 h2 => (v2 i h1 h2).trans (v1 i h1 h2)
  rw [e72 M1 u1]
  refine zb_Model_isSwapped_43 o1 o2 k dd _ (fun q => ?_) (fun q => ?_)
  · have e := kk M2 u2 v2
    rw [zbf q, Bool.and_false, Bool.false_and] at e; exact e
  have c2 := zbt q
  rw [c1, c2, Bool.true_and, Bool.true_and] at kk
  refine sp_McanBe (d := d + 1) hK (hR' M2 u2) ⟨ha.1, ha.2.2, ha.1⟩ hd (by rw [e72 M2 u2]; exact n1) (fun M3 u3 v3 => ?_)
  have u3 : ∀ c, c ≠ 71 → c ≠ 88 → c ≠ 89 → c ≠ 90 → M3 c = M c := fun c h1 h2 h3 h4 => (u3 c h1 h2 h3 h4).trans (u2 c h1 h2 h3 h4)
  have v3 : ∀ i, i ≠ 33 → i ≠ 34 → M3 71 i = M 71 i := fun i h1 h2 => (v3 i h1 h2).trans (v2 i h1 h2)
  rw [e72 M2 u2, zcbw_self n1]
  refine zb_Model_isSwapped_55 o1 o2 k dd _ (fun q => ?_) (fun q => ?_)
  · have e := kk M3 u3 v3
    rw [zbf q] at e; exact e
  have p1 := zbt q
  refine sp_McanBe (d := d + 1) hK (hR' M3 u3) ⟨ha.2.1, ha.2.2, ha.2.1⟩ hd (by rw [e72 M3 u3]; exact n2) (fun M4 u4 v4 => ?_)
  have u4 : ∀ c, c ≠ 71 → c ≠ 88 → c ≠ 89 → c ≠ 90 → M4 c = M c := fun c h1 h2 h3 h4 => (u4 c h1 h2 h3 h4).trans (u3 c h1 h2 h3 h4)
  have v4 : ∀ i, i ≠ 33 → i ≠ 34 → M4 71 i = M 71 i := fun i h1 h2 => (v4 i h1 h2).trans (v3 i h1 h2)
  rw [e72 M3 u3, zcbw_self n2]
  have e := kk M4 u4 v4
  rw [p1] at e
  refine zb_Model_isSwapped_67 o1 o2 k dd _ (fun q => ?_) (fun q => ?_)
  · rw [zbt q] at e; exact e
  · rw [zbf q] at e; exact e
/-- the class: mendsBoth -/
theorem sp_mends {A : Nat → Int32} {o1 o2 k dd : Nat} (hK : zKok K) (hb : np ≤ 10) (hS : zSok A np m) (hd : dd < 60) (hL1 : zfi A o1 k 60 m < 60 → zSi A M np nw ns pc m D (zfi A o1 k 60 m) (zla A o1 k 60 m - 1) (zal A np o1 k 60 m)) (hL2 : zfi A o2 k 60 m < 60 → zSiO A M np nw ns pc m D (zfi A o2 k 60 m) (zla A o2 k 60 m - 1) (zal A np o2 k 60 m)) (h42 : ∀ e, e < 60 → M 42 e = zav A np o1 k 60 m e) (h47 : ∀ e, e < 60 → M 47 e = zav A np o2 k 60 m e) (kk : ∀ M', (∀ c, c ≠ 41 → c ≠ 43 → c ≠ 46 → c ≠ 48 → M' c = M c) → (∀ i, i ≠ 3 → M' 41 i = M 41 i) → (∀ i, i ≠ 3 → M' 46 i = M 46 i) → F (some (.int (zbi (zswp np pc m D A o1 o2 k dd)))) (X, b, zLay, K, B, M')) : zCall (d + 10) zm_Boats_mendsBoth [.ref 0, .int (nI dd)] (X, b, zLay, K, B, M) F := by
  have fl1 := zfl (bt := o1) (k := k) (u := 60) hS
  have fl2 := zfl (bt := o2) (k := k) (u := 60) hS
  have e0 := kk M (fun _ _ _ _ _ => rfl) (fun _ _ => rfl) (fun _ _ => rfl)
  unfold zswp at kk e0
  refine zb_Boats_mendsBoth_0 hK dd hd (h42 dd hd) (h47 dd hd) (fun q => ?_) (fun q1 q => ?_) (fun q1 q2 => ?_)
  · rw [(zav_1 hb).mp q, Bool.false_and] at e0; exact e0
  · rw [(zav_1 hb).mp q, Bool.false_and, Bool.and_false] at e0; exact e0
  · have s1 : zsd A o1 k 60 m dd = true := eq_true_of_ne_false (fun z => q1 ((zav_1 hb).mpr z))
    have s2 : zsd A o2 k 60 m dd = true := eq_true_of_ne_false (fun z => q2 ((zav_1 hb).mpr z))
    rw [s1, s2, Bool.true_and, Bool.true_and] at kk
    have n1 : zfi A o1 k 60 m < 60 := by have := (fl1.2.2.2.2 dd s1).1; omega
    have n2 : zfi A o2 k 60 m < 60 := by have := (fl2.2.2.2.2 dd s2).1; omega
    have w1 : zav A np o1 k 60 m dd = nI (zal A np o1 k 60 m dd) := by unfold zav; rw [s1, cond_true]
    have w2 : zav A np o2 k 60 m dd = nI (zal A np o2 k 60 m dd) := by unfold zav; rw [s2, cond_true]
    rw [w1, w2]
    refine sp_canBe (d := d + 3) (x := zal A np o2 k 60 m dd) hK (hL1 n1) hd (zal_lt _ _ _ _ _ _ _) (fun _ => rfl) (fun _ _ r _ => zb_and _ _) (fun M1 s => ?_)
    obtain ⟨z1, z2, -, -⟩ := s
    have u1 : ∀ c, c ≠ 41 → c ≠ 43 → c ≠ 46 → c ≠ 48 → M1 c = M c := fun c h1 h2 _ _ => z1 c h1 h2
    have u2 : ∀ i, i ≠ 3 → M1 46 i = M 46 i := fun i _ => by rw [z1 46 (by decide) (by decide)]
    have fd : decide (zld (fun d S => zrc np pc (D d) S) (zup1 (zal A np o1 k 60 m) dd (zal A np o2 k 60 m dd)) (zfi A o1 k 60 m) (zla A o1 k 60 m - 1 - zfi A o1 k 60 m) ≠ 0) = zcbw np pc m D A o1 o2 k dd := rfl
    rw [fd]
    refine zb_Boats_mendsBoth_53 hK dd _ _ _ hd (fun q => ?_) (fun q => ?_)
    · have e := kk M1 u1 z2 u2
      rw [zbf q, Bool.false_and] at e; exact e
    · have c1 := zbt q
      have hL2' : zSiO A M1 np nw ns pc m D (zfi A o2 k 60 m) (zla A o2 k 60 m - 1) (zal A np o2 k 60 m) := by
        obtain ⟨a1, a2, a3, a4, a5, a6, a7⟩ := hL2 n2
        exact ⟨by rw [z1 46 (by decide) (by decide)]; exact a1, by rw [z1 46 (by decide) (by decide)]; exact a2, a3, by rw [z1 47 (by decide) (by decide)]; exact a4, by rw [z1 47 (by decide) (by decide)]; exact a5, zKx_same (fun c hc => z1 c (by omega) (by omega)) a6, a7⟩
      refine sp_canBeO (d := d + 3) (x := zal A np o1 k 60 m dd) hK hL2' hd (zal_lt _ _ _ _ _ _ _) (fun _ => rfl) (fun _ _ r _ => zb_and _ _) (fun M2 s => ?_)
      obtain ⟨y1, y2, -, -⟩ := s
      have e := kk M2 (fun c h1 h2 h3 h4 => (y1 c h3 h4).trans (z1 c h1 h2)) (fun i hi => by rw [y1 41 (by decide) (by decide)]; exact z2 i hi) (fun i hi => (y2 i hi).trans (u2 i hi))
      have fd2 : decide (zld (fun d S => zrc np pc (D d) S) (zup1 (zal A np o2 k 60 m) dd (zal A np o1 k 60 m dd)) (zfi A o2 k 60 m) (zla A o2 k 60 m - 1 - zfi A o2 k 60 m) ≠ 0) = zcbw np pc m D A o2 o1 k dd := rfl
      rw [fd2]
      rw [c1, Bool.true_and] at e
      refine zb_Boats_mendsBoth_65 dd _ _ _ (fun q => ?_) (fun q => ?_)
      · rw [zbf q] at e; exact e
      · rw [zbt q] at e; exact e
theorem lp_swC {A : Nat → Int32} {M0 : Nat → Nat → Int32} {o1 o2 k : Nat} {i : Int32} (hK : zKok K) (hb : np ≤ 10) (hS : zSok A np m) (hL1 : zfi A o1 k 60 m < 60 → zSi A M0 np nw ns pc m D (zfi A o1 k 60 m) (zla A o1 k 60 m - 1) (zal A np o1 k 60 m)) (hL2 : zfi A o2 k 60 m < 60 → zSiO A M0 np nw ns pc m D (zfi A o2 k 60 m) (zla A o2 k 60 m - 1) (zal A np o2 k 60 m)) (h42 : ∀ e, e < 60 → M0 42 e = zav A np o1 k 60 m e) (h47 : ∀ e, e < 60 → M0 47 e = zav A np o2 k 60 m e) : ∀ (q j cnt : Nat) (M : Nat → Nat → Int32), j + q = 60 → cnt ≤ j → (∀ c, c ≠ 41 → c ≠ 43 → c ≠ 46 → c ≠ 48 → M c = M0 c) → (∀ i, i ≠ 3 → M 41 i = M0 41 i) → (∀ i, i ≠ 3 → M 46 i = M0 46 i) → (∀ M', (∀ c, c ≠ 41 → c ≠ 43 → c ≠ 46 → c ≠ 48 → M' c = M0 c) → F (some (.int (zswr (zswp np pc m D A o1 o2 k) i q j cnt))) (X, b, zLay, K, B, M')) → zEx (zCall (d + 29)) 9 false 1 zc_Boats_swapped F 93 [.ref 0, .int (nI o1), .int (nI o2), .int (nI k), .int i, .int 1, .int (nI cnt), .int (nI j)] [] (X, b, zLay, K, B, M) := by
  intro q
  induction q with
  | zero =>
    intro j cnt M hj hc u1 u2 u3 kk
    have hj : j = 60 := by omega
    subst hj
    have e := kk M u1
    unfold zswr at e
    refine zb_Boats_swappedT_93 o1 o2 k i cnt 60 hc (by omega) (fun _ z => ?_) (fun _ z => ?_) (fun z => absurd z (by omega))
    · rw [if_neg z] at e; exact e
    · rw [if_pos z] at e; exact e
  | succ q ih =>
    intro j cnt M hj hc u1 u2 u3 kk
    refine zb_Boats_swappedT_93 o1 o2 k i cnt j hc (by omega) (fun z _ => absurd z (by omega)) (fun z _ => absurd z (by omega)) (fun _ => ?_)
    have g1 : zfi A o1 k 60 m < 60 → zSi A M np nw ns pc m D (zfi A o1 k 60 m) (zla A o1 k 60 m - 1) (zal A np o1 k 60 m) := fun n1 => by
      obtain ⟨a1, a2, a3, a4, a5, a6, a7⟩ := hL1 n1
      exact ⟨by rw [u2 1 (by decide)]; exact a1, by rw [u2 2 (by decide)]; exact a2, a3, by rw [u1 42 (by decide) (by decide) (by decide) (by decide)]; exact a4, by rw [u1 42 (by decide) (by decide) (by decide) (by decide)]; exact a5, zKx_same (fun c hc => u1 c (by omega) (by omega) (by omega) (by omega)) a6, a7⟩
    have g2 : zfi A o2 k 60 m < 60 → zSiO A M np nw ns pc m D (zfi A o2 k 60 m) (zla A o2 k 60 m - 1) (zal A np o2 k 60 m) := fun n1 => by
      obtain ⟨a1, a2, a3, a4, a5, a6, a7⟩ := hL2 n1
      exact ⟨by rw [u3 1 (by decide)]; exact a1, by rw [u3 2 (by decide)]; exact a2, a3, by rw [u1 47 (by decide) (by decide) (by decide) (by decide)]; exact a4, by rw [u1 47 (by decide) (by decide) (by decide) (by decide)]; exact a5, zKx_same (fun c hc => u1 c (by omega) (by omega) (by omega) (by omega)) a6, a7⟩
    refine sp_mends (d := d + 19) hK hb hS (show j < 60 by omega) g1 g2 (by rw [u1 42 (by decide) (by decide) (by decide) (by decide)]; exact h42) (by rw [u1 47 (by decide) (by decide) (by decide) (by decide)]; exact h47) (fun M1 v1 v2 v3 => ?_)
    have w1 : ∀ c, c ≠ 41 → c ≠ 43 → c ≠ 46 → c ≠ 48 → M1 c = M0 c := fun c h1 h2 h3 h4 => (v1 c h1 h2 h3 h4).trans (u1 c h1 h2 h3 h4)
    have w2 : ∀ i, i ≠ 3 → M1 41 i = M0 41 i := fun i hi => (v2 i hi).trans (u2 i hi)
    have w3 : ∀ i, i ≠ 3 → M1 46 i = M0 46 i := fun i hi => (v3 i hi).trans (u3 i hi)
    unfold zswr at kk
    refine zb_Boats_swappedT_111 o1 o2 k i cnt j _ hc (by omega) (fun z z2 => ?_) (fun z z2 => ?_) (fun z => ?_)
    · rw [if_pos (zbt z), if_neg z2] at kk
      exact ih (j + 1) (cnt + 1) M1 (by omega) (by omega) w1 w2 w3 kk
    · rw [if_pos (zbt z), if_pos z2] at kk
      exact kk M1 w1
    · rw [if_neg (by rw [zbf z]; decide)] at kk
      exact ih (j + 1) cnt M1 (by omega) (by omega) w1 w2 w3 kk
theorem lp_swM {M0 : Nat → Nat → Int32} {o1 o2 k : Nat} {i : Int32} (hK : zKok K) (hR : zRf87 M0 np m pc D) (ha : o1 < 8 ∧ o2 < 8 ∧ k < 60) : ∀ (q j cnt : Nat) (M : Nat → Nat → Int32), j + q = 60 → cnt ≤ j → (∀ c, c ≠ 71 → c ≠ 88 → c ≠ 89 → c ≠ 90 → M c = M0 c) → (∀ i, i ≠ 33 → i ≠ 34 → M 71 i = M0 71 i) → (∀ M', (∀ c, c ≠ 71 → c ≠ 88 → c ≠ 89 → c ≠ 90 → M' c = M0 c) → (∀ i, i ≠ 33 → i ≠ 34 → M' 71 i = M0 71 i) → F (some (.int (zswr (zswc np pc m D (M0 72) o1 o2 k) i q j cnt))) (X, b, zLay, K, B, M')) → zEx (zCall (d + 29)) 10 false 1 zc_Model_swapped F 46 [.ref 71, .int (nI o1), .int (nI o2), .int (nI k), .int i, .int (nI cnt), .int (nI j)] [] (X, b, zLay, K, B, M) := by
  intro q
  induction q with
  | zero =>
    intro j cnt M hj hc u1 u2 kk
    have hj : j = 60 := by omega
    subst hj
    have e := kk M u1 u2
    unfold zswr at e
    refine zb_Model_swapped_46 o1 o2 k i cnt 60 hc (by omega) (fun _ z => ?_) (fun _ z => ?_) (fun z => absurd z (by omega))
    · rw [if_neg z] at e; exact e
    · rw [if_pos z] at e; exact e
  | succ q ih =>
    intro j cnt M hj hc u1 u2 kk
    have e72 : M 72 = M0 72 := u1 72 (by decide) (by decide) (by decide) (by decide)
    refine zb_Model_swapped_46 o1 o2 k i cnt j hc (by omega) (fun z _ => absurd z (by omega)) (fun z _ => absurd z (by omega)) (fun _ => ?_)
    refine sp_isSwapped (d := d + 19) hK (zRf87_same hR e72 (u1 87 (by decide) (by decide) (by decide) (by decide))) ha (show j < 60 by omega) (fun M1 v1 v2 => ?_)
    rw [e72]
    have w1 : ∀ c, c ≠ 71 → c ≠ 88 → c ≠ 89 → c ≠ 90 → M1 c = M0 c := fun c h1 h2 h3 h4 => (v1 c h1 h2 h3 h4).trans (u1 c h1 h2 h3 h4)
    have w2 : ∀ i, i ≠ 33 → i ≠ 34 → M1 71 i = M0 71 i := fun i h1 h2 => (v2 i h1 h2).trans (u2 i h1 h2)
    unfold zswr at kk
    refine zb_Model_swapped_62 o1 o2 k i cnt j _ hc (by omega) (fun z => ?_) (fun z z2 => ?_) (fun z z2 => ?_)
    · rw [if_neg (by rw [zbf z]; decide)] at kk
      exact ih (j + 1) cnt M1 (by omega) (by omega) w1 w2 kk
    · rw [if_pos (zbt z), if_neg z2] at kk
      exact ih (j + 1) (cnt + 1) M1 (by omega) (by omega) w1 w2 kk
    · rw [if_pos (zbt z), if_pos z2] at kk
      exact kk M1 w1 w2
end SW
