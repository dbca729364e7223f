/-! ===== stays: the class ===== -/
section SP
variable (np pc : Nat) (D : Nat → Nat → Nat → Nat) (S : Nat → Nat) (f rd : Nat) (ex : Nat → Nat → Bool)
def zpL : Nat → Nat → Nat
  | 0, _ => 0
  | j + 1, p => zmx0 (fun q => (S (f + j)).testBit q && Nat.ble (D (f + j + 1) q p) pc) (zaV np pc D S f rd ex j) np
def zpS (lm : Nat) : Nat → Nat → Nat
  | 0, _ => 0
  | j + 1, p => zmn9 (fun q => (S (f + j)).testBit q && Nat.ble (D (f + j + 1) q p) pc) (zkV np pc D S f rd ex lm j) np
end SP
section SC
variable {d : Nat} {F : Option Value → zS → Prop} {X : zX} {b : Nat × Nat} {K : Nat → Nat → Option Nat} {B : Nat → Nat → Int64} {M : Nat → Nat → Int32} {A : Nat → Int32} {np nw ns pc m : Nat} {D : Nat → Nat → Nat → Nat} {S : Nat → Nat} {f g rd lm : Nat} {ex : Nat → Nat → Bool}
theorem zaV_eq (j p : Nat) : zaV np pc D S f rd ex j p = zs0 (rd.testBit p) (ex (f + j) p) (zpL np pc D S f rd ex j p) := by cases j <;> rfl
theorem zkV_eq (j p : Nat) : zkV np pc D S f rd ex lm j p = bif (S (f + j)).testBit p then zk9 lm (rd.testBit p) (ex (f + j) p) (zpS np pc D S f rd ex lm j p) else 9999 := by cases j <;> rfl
theorem zpL_le (j p : Nat) : zpL np pc D S f rd ex j p ≤ j := by
  cases j with
  | zero => exact Nat.le_refl _
  | succ j => exact zmx0_le np (fun q _ _ => zaV_le j q)
theorem zpS_le (j p : Nat) : zpS np pc D S f rd ex lm j p ≤ 9999 := by
  cases j with
  | zero => exact Nat.zero_le _
  | succ j => exact zmn9_le _ _ _
theorem lp_sbL {j p bf : Nat} (hK : zKok K) (hbf : K 51 4 = some bf) (hyb : zget zLay bf = some (.inr (0, 10))) (hX : zKx A M np nw ns pc m D) (hj : f + j + 1 < 60) (hp : p < np) (hS : ∀ e, S e < 1024) (hbe : ∀ q, q < np → (S (f + j)).testBit q = true → M bf q = nI (zaV np pc D S f rd ex j q)) (kk : F (some (.int (nI (zmx0 (fun q => (S (f + j)).testBit q && Nat.ble (D (f + j + 1) q p) pc) (zaV np pc D S f rd ex j) np)))) (X, b, zLay, K, B, M)) : ∀ (k q : Nat), q + k = np → zEx (zCall (d + 4)) 7 false 1 zc_Stays_stayBefore F 52 [.ref 51, .int (nI (f + j + 1)), .int (nI p), .int 1, .int (nI (S (f + j) &&& zsb (fun q => Nat.ble (D (f + j + 1) p q) pc) np)), .int (nI (zmx0 (fun q => (S (f + j)).testBit q && Nat.ble (D (f + j + 1) q p) pc) (zaV np pc D S f rd ex j) q)), .int (nI q)] [] (X, b, zLay, K, B, M) := by
  have hb := hX.1.2.2.2.2.1.1
  have hDs := hX.2.2.2.2.2.2.2.2.1
  have vb : ∀ q, zaV np pc D S f rd ex j q ≤ 9999 := fun q => by have := zaV_le (np := np) (pc := pc) (D := D) (S := S) (f := f) (rd := rd) (ex := ex) j q; omega
  have fb : ∀ q, zmx0 (fun q => (S (f + j)).testBit q && Nat.ble (D (f + j + 1) q p) pc) (zaV np pc D S f rd ex j) q ≤ 9999 := fun q => by have := zmx0_le (c := fun q => (S (f + j)).testBit q && Nat.ble (D (f + j + 1) q p) pc) (v := zaV np pc D S f rd ex j) (b := j + 1) q (fun r _ _ => zaV_le j r); omega
  have l4 : S (f + j) &&& zsb (fun q => Nat.ble (D (f + j + 1) p q) pc) np < 1024 := zand_lt10 (hS _)
  intro k
  induction k with
  | zero =>
    intro q hq
    have hq : q = np := by omega
    subst hq
    exact zb_Stays_stayBeforeL_52 (wv := 0) hK (f + j + 1) p _ _ q hbf hyb hX.1.1 hb l4 (Nat.le_refl _) (fb _) (fun z => absurd z (by omega)) (by omega) (fun _ => kk) (fun z _ => absurd z (by omega)) (fun z _ => absurd z (by omega))
  | succ k ih =>
    intro q hq
    have e := ih (q + 1) (by omega)
    have bt : (S (f + j) &&& zsb (fun q => Nat.ble (D (f + j + 1) p q) pc) np).testBit q = ((S (f + j)).testBit q && Nat.ble (D (f + j + 1) q p) pc) := by
      rw [Nat.testBit_and, zsb_bit, decide_eq_true (show q < np by omega), Bool.true_and, hDs]
    have st : zmx0 (fun q => (S (f + j)).testBit q && Nat.ble (D (f + j + 1) q p) pc) (zaV np pc D S f rd ex j) (q + 1) = bif ((S (f + j)).testBit q && Nat.ble (D (f + j + 1) q p) pc) then max (zmx0 (fun q => (S (f + j)).testBit q && Nat.ble (D (f + j + 1) q p) pc) (zaV np pc D S f rd ex j) q) (zaV np pc D S f rd ex j q) else zmx0 (fun q => (S (f + j)).testBit q && Nat.ble (D (f + j + 1) q p) pc) (zaV np pc D S f rd ex j) q := rfl
    refine zb_Stays_stayBeforeL_52 (wv := zaV np pc D S f rd ex j q) hK (f + j + 1) p _ _ q hbf hyb hX.1.1 hb l4 (by omega) (fb _) (fun z z2 => ?_) (vb q) (fun z => absurd z (by omega)) (fun _ z => ?_) (fun _ z => ?_)
    · rw [bt, Bool.and_eq_true] at z2
      exact hbe q z z2.1
    · rw [bt] at z
      rw [eq_false_of_ne_true z, cond_false] at st
      rw [st] at e
      exact e
    · rw [bt] at z
      rw [z, cond_true] at st
      rw [st] at e
      exact e
theorem sp_sbL {j p bf : Nat} (hK : zKok K) (hbf : K 51 4 = some bf) (hyb : zget zLay bf = some (.inr (0, 10))) (hX : zKx A M np nw ns pc m D) (hf : M 41 1 = nI f) (hj : f + j < 60) (hp : p < np) (hS : ∀ e, S e < 1024) (h43 : ∀ e, e < 60 → M 43 e = nI (S e)) (hbe : ∀ i, j = i + 1 → ∀ q, q < np → (S (f + i)).testBit q = true → M bf q = nI (zaV np pc D S f rd ex i q)) (kk : F (some (.int (nI (zpL np pc D S f rd ex j p)))) (X, b, zLay, K, B, M)) : zCall (d + 5) zm_Stays_stayBefore [.ref 51, .int (nI (f + j)), .int (nI p), .int 1] (X, b, zLay, K, B, M) F := by
  have hb := hX.1.2.2.2.2.1.1
  obtain ⟨t, ht2, ht, h11, h12⟩ := hX.2.2.2.2.2.1 (f + j) hj
  refine zb_Stays_stayBeforeL_0 (sp := S (f + j - 1)) hK (f + j) p hj (by omega) hf (by omega) ht ht2 (h12 p hp) (fun z => h43 _ (by omega)) (fun z => ?_) (fun z => ?_)
  · cases j with
    | zero => exact absurd rfl z
    | succ j =>
      rw [show f + (j + 1) - 1 = f + j by omega]
      exact lp_sbL hK hbf hyb hX hj hp hS (hbe j rfl) kk np 0 (by omega)
  · have : j = 0 := by omega
    subst this
    exact kk

theorem lp_sbS {j p bf : Nat} (hK : zKok K) (hbf : K 51 4 = some bf) (hyb : zget zLay bf = some (.inr (0, 10))) (hX : zKx A M np nw ns pc m D) (hlm : lm ≤ 99) (hj : f + j + 1 < 60) (hp : p < np) (hS : ∀ e, S e < 1024) (hbe : ∀ q, q < np → (S (f + j)).testBit q = true → M bf q = nI (zkV np pc D S f rd ex lm j q)) (kk : F (some (.int (nI (zmn9 (fun q => (S (f + j)).testBit q && Nat.ble (D (f + j + 1) q p) pc) (zkV np pc D S f rd ex lm j) np)))) (X, b, zLay, K, B, M)) : ∀ (k q : Nat), q + k = np → zEx (zCall (d + 4)) 7 false 1 zc_Stays_stayBefore F 52 [.ref 51, .int (nI (f + j + 1)), .int (nI p), .int 0, .int (nI (S (f + j) &&& zsb (fun q => Nat.ble (D (f + j + 1) p q) pc) np)), .int (nI (zmn9 (fun q => (S (f + j)).testBit q && Nat.ble (D (f + j + 1) q p) pc) (zkV np pc D S f rd ex lm j) q)), .int (nI q)] [] (X, b, zLay, K, B, M) := by
  have hb := hX.1.2.2.2.2.1.1
  have hDs := hX.2.2.2.2.2.2.2.2.1
  have vb : ∀ q, zkV np pc D S f rd ex lm j q ≤ 9999 := fun q => zkV_le (by omega) j q
  have fb : ∀ q, zmn9 (fun q => (S (f + j)).testBit q && Nat.ble (D (f + j + 1) q p) pc) (zkV np pc D S f rd ex lm j) q ≤ 9999 := fun q => zmn9_le _ _ q
  have l4 : S (f + j) &&& zsb (fun q => Nat.ble (D (f + j + 1) p q) pc) np < 1024 := zand_lt10 (hS _)
  intro k
  induction k with
  | zero =>
    intro q hq
    have hq : q = np := by omega
    subst hq
    exact zb_Stays_stayBeforeS_52 (wv := 0) hK (f + j + 1) p _ _ q hbf hyb hX.1.1 hb l4 (Nat.le_refl _) (fb _) (fun z => absurd z (by omega)) (by omega) (fun _ => kk) (fun z _ => absurd z (by omega)) (fun z _ => absurd z (by omega))
  | succ k ih =>
    intro q hq
    have e := ih (q + 1) (by omega)
    have bt : (S (f + j) &&& zsb (fun q => Nat.ble (D (f + j + 1) p q) pc) np).testBit q = ((S (f + j)).testBit q && Nat.ble (D (f + j + 1) q p) pc) := by
      rw [Nat.testBit_and, zsb_bit, decide_eq_true (show q < np by omega), Bool.true_and, hDs]
    have st : zmn9 (fun q => (S (f + j)).testBit q && Nat.ble (D (f + j + 1) q p) pc) (zkV np pc D S f rd ex lm j) (q + 1) = bif ((S (f + j)).testBit q && Nat.ble (D (f + j + 1) q p) pc) then min (zmn9 (fun q => (S (f + j)).testBit q && Nat.ble (D (f + j + 1) q p) pc) (zkV np pc D S f rd ex lm j) q) (zkV np pc D S f rd ex lm j q) else zmn9 (fun q => (S (f + j)).testBit q && Nat.ble (D (f + j + 1) q p) pc) (zkV np pc D S f rd ex lm j) q := rfl
    refine zb_Stays_stayBeforeS_52 (wv := zkV np pc D S f rd ex lm j q) hK (f + j + 1) p _ _ q hbf hyb hX.1.1 hb l4 (by omega) (fb _) (fun z z2 => ?_) (vb q) (fun z => absurd z (by omega)) (fun _ z => ?_) (fun _ z => ?_)
    · rw [bt, Bool.and_eq_true] at z2
      exact hbe q z z2.1
    · rw [bt] at z
      rw [eq_false_of_ne_true z, cond_false] at st
      rw [st] at e
      exact e
    · rw [bt] at z
      rw [z, cond_true] at st
      rw [st] at e
      exact e
theorem sp_sbS {j p bf : Nat} (hK : zKok K) (hbf : K 51 4 = some bf) (hyb : zget zLay bf = some (.inr (0, 10))) (hX : zKx A M np nw ns pc m D) (hlm : lm ≤ 99) (hf : M 41 1 = nI f) (hj : f + j < 60) (hp : p < np) (hS : ∀ e, S e < 1024) (h43 : ∀ e, e < 60 → M 43 e = nI (S e)) (hbe : ∀ i, j = i + 1 → ∀ q, q < np → (S (f + i)).testBit q = true → M bf q = nI (zkV np pc D S f rd ex lm i q)) (kk : F (some (.int (nI (zpS np pc D S f rd ex lm j p)))) (X, b, zLay, K, B, M)) : zCall (d + 5) zm_Stays_stayBefore [.ref 51, .int (nI (f + j)), .int (nI p), .int 0] (X, b, zLay, K, B, M) F := by
  have hb := hX.1.2.2.2.2.1.1
  obtain ⟨t, ht2, ht, h11, h12⟩ := hX.2.2.2.2.2.1 (f + j) hj
  refine zb_Stays_stayBeforeS_0 (sp := S (f + j - 1)) hK (f + j) p hj (by omega) hf (by omega) ht ht2 (h12 p hp) (fun z => h43 _ (by omega)) (fun z => ?_) (fun z => ?_)
  · cases j with
    | zero => exact absurd rfl z
    | succ j =>
      rw [show f + (j + 1) - 1 = f + j by omega]
      exact lp_sbS hK hbf hyb hX hlm hj hp hS (hbe j rfl) kk np 0 (by omega)
  · have : j = 0 := by omega
    subst this
    exact kk

/-- atMost -/
theorem lp_am23 {M0 : Nat → Nat → Int32} {xv : Nat → Nat} {j bf th : Nat} (hK : zKok K) (hbf : K 51 4 = some bf) (hth : K 51 5 = some th) (hbt : (bf = 53 ∧ th = 54) ∨ (bf = 54 ∧ th = 53)) (hX : zKx A M0 np nw ns pc m D) (hf : M0 41 1 = nI f) (hj : f + j ≤ g ∧ g < 60) (hS : ∀ e, S e < 1024) (h43 : ∀ e, e < 60 → M0 43 e = nI (S e)) (hrd : M0 51 3 = nI rd) (hr2 : rd < 1024) (hxv : ∀ e, f ≤ e → e ≤ g → M0 52 e = nI (xv e)) (hx2 : ∀ e, xv e < 1024) (hex : ∀ e p, f ≤ e → e ≤ g → (S e).testBit p = true → (xv e).testBit p = ex e p) (hbe : ∀ i, j = i + 1 → ∀ q, q < np → (S (f + i)).testBit q = true → M0 bf q = nI (zaV np pc D S f rd ex i q)) (kk : ∀ M (l4 : Value), l4.category = 1 → (∀ c, c ≠ th → M c = M0 c) → (∀ q, q < np → (S (f + j)).testBit q = true → M th q = nI (zaV np pc D S f rd ex j q)) → zEx (zCall (d + 7)) 7 false 1 zc_Stays_atMost F 10 [.ref 51, .int (nI (zmoD np pc D S f rd ex (j + 1))), .int (nI (f + j + 1)), .int (nI np), l4] [] (X, b, zLay, zu (zu K 51 4 (some th)) 51 5 (some bf), B, M)) : ∀ (k p : Nat) (M : Nat → Nat → Int32) (l4 : Value), l4.category = 1 → p + k = np → (∀ c, c ≠ th → M c = M0 c) → (∀ q, q < p → (S (f + j)).testBit q = true → M th q = nI (zaV np pc D S f rd ex j q)) → zEx (zCall (d + 7)) 7 false 1 zc_Stays_atMost F 23 [.ref 51, .int (nI (zmoP np pc D S f rd ex j (zmoD np pc D S f rd ex j) p)), .int (nI (f + j)), .int (nI p), l4] [] (X, b, zLay, K, B, M) := by
  have hb := hX.1.2.2.2.2.1.1
  obtain ⟨y1, y2, y3, y4, y5⟩ := zL53 hbt
  intro k
  induction k with
  | zero =>
    intro p M l4 c4 hp u1 u2
    have hp : p = np := by omega
    subst hp
    exact zb_Stays_atMost_23 (sv := S (f + j)) hK _ (f + j) p l4 c4 (by rw [u1 1 (by omega)]; exact hX.1.1) hb (by omega) (Nat.le_refl _) (fun z => absurd z (by omega)) (hS _) hbf y1 hth y2 (fun _ => kk M l4 c4 u1 u2) (fun z _ => absurd z (by omega)) (fun z _ => absurd z (by omega))
  | succ k ih =>
    intro p M l4 c4 hp u1 u2
    have st : zmoP np pc D S f rd ex j (zmoD np pc D S f rd ex j) (p + 1) = bif (S (f + j)).testBit p then max (zmoP np pc D S f rd ex j (zmoD np pc D S f rd ex j) p) (zaV np pc D S f rd ex j p) else zmoP np pc D S f rd ex j (zmoD np pc D S f rd ex j) p := rfl
    have hX' : zKx A M np nw ns pc m D := zKx_same (fun c hc => u1 c (by omega)) hX
    refine zb_Stays_atMost_23 (sv := S (f + j)) hK _ (f + j) p l4 c4 (by rw [u1 1 (by omega)]; exact hX.1.1) hb (by omega) (by omega) (fun _ => by rw [u1 43 (by omega)]; exact h43 _ (by omega)) (hS _) hbf y1 hth y2 (fun z => absurd z (by omega)) (fun _ z => ?_) (fun _ z => ?_)
    · refine sp_sbL (d := d + 2) (rd := rd) (ex := ex) hK hbf y1 hX' (by rw [u1 41 (by omega)]; exact hf) (by omega) (by omega) hS (by rw [u1 43 (by omega)]; exact h43) (by rw [u1 bf y3]; exact hbe) ?_
      have pl := zpL_le (np := np) (pc := pc) (D := D) (S := S) (f := f) (rd := rd) (ex := ex) j p
      have ml := zmoP_le (np := np) (pc := pc) (D := D) (S := S) (f := f) (rd := rd) (ex := ex) (j := j) (m0 := zmoD np pc D S f rd ex j) (b := 100) (by have := zmoD_le (np := np) (pc := pc) (D := D) (S := S) (f := f) (rd := rd) (ex := ex) j; omega) (by omega) p
      have ae := zaV_eq (np := np) (pc := pc) (D := D) (S := S) (f := f) (rd := rd) (ex := ex) j p
      have xe := hex (f + j) p (by omega) (by omega) z
      rw [z, cond_true] at st
      have next : ∀ (v mx : Nat) (x : Value), x.category = 1 → v = zs0 (rd.testBit p) ((xv (f + j)).testBit p) (zpL np pc D S f rd ex j p) → mx = max (zmoP np pc D S f rd ex j (zmoD np pc D S f rd ex j) p) v → zEx (zCall (d + 7)) 7 false 1 zc_Stays_atMost F 23 [.ref 51, .int (nI mx), .int (nI (f + j)), .int (nI (p + 1)), x] [] (X, b, zLay, K, B, zu M th p (nI v)) := by
        intro v mx x cx hv hm
        rw [xe, ← ae] at hv
        subst hv hm
        rw [← st]
        refine ih (p + 1) _ x cx (by omega) (fun c hc => ?_) (fun q hq hz => ?_)
        · rw [zu_oc hc]; exact u1 c hc
        · rw [zu_at]
          by_cases e : q = p
          · rw [if_pos e, e]
          · rw [if_neg e]; exact u2 q (by omega) hz
      refine zb_Stays_atMost_60 (xv := xv (f + j)) (rd := rd) hK _ (f + j) p l4 (zpL np pc D S f rd ex j p) c4 hX'.1.1 hb (by omega) (by omega) (by omega) (by omega) (by rw [u1 52 (by omega)]; exact hxv _ (by omega) (by omega)) (hx2 _) (by rw [u1 51 (by omega)]; exact hrd) hr2 hth y2 (fun q0 q1 => next (0) _ _ rfl (by unfold zs0; repeat' split; all_goals first | omega | contradiction) rfl) (fun q0 q1 => next (((zpL np pc D S f rd ex j p) + 1)) _ _ rfl (by unfold zs0; repeat' split; all_goals first | omega | contradiction) rfl) (fun q0 q1 => next (0) _ _ rfl (by unfold zs0; repeat' split; all_goals first | omega | contradiction) rfl) (fun q0 q1 => next ((zpL np pc D S f rd ex j p)) _ _ rfl (by unfold zs0; repeat' split; all_goals first | omega | contradiction) rfl)
    · rw [eq_false_of_ne_true z, cond_false] at st
      have e := ih (p + 1) M l4 c4 (by omega) u1 (fun q hq hz => by
        by_cases e : q = p
        · rw [e] at hz; exact absurd hz z
        · exact u2 q (by omega) hz)
      rw [st] at e
      exact e
theorem lp_am10 {M0 : Nat → Nat → Int32} {xv : Nat → Nat} (hX : zKx A M0 np nw ns pc m D) (hf : M0 41 1 = nI f) (hg : M0 41 2 = nI g) (hfg : f ≤ g ∧ g < 60) (hS : ∀ e, S e < 1024) (h43 : ∀ e, e < 60 → M0 43 e = nI (S e)) (hrd : M0 51 3 = nI rd) (hr2 : rd < 1024) (hxv : ∀ e, f ≤ e → e ≤ g → M0 52 e = nI (xv e)) (hx2 : ∀ e, xv e < 1024) (hex : ∀ e p, f ≤ e → e ≤ g → (S e).testBit p = true → (xv e).testBit p = ex e p) (kk : ∀ K M, zKok K → zSw K → (∀ c, c ≠ 53 → c ≠ 54 → M c = M0 c) → F (some (.int (nI (zmoD np pc D S f rd ex (g - f + 1))))) (X, b, zLay, K, B, M)) : ∀ (k j : Nat) (K : Nat → Nat → Option Nat) (M : Nat → Nat → Int32) (bf th : Nat) (l3 l4 : Value), l3.category = 1 → l4.category = 1 → zKok K → zSw K → K 51 4 = some bf → K 51 5 = some th → ((bf = 53 ∧ th = 54) ∨ (bf = 54 ∧ th = 53)) → f + j + k = g + 1 → (∀ c, c ≠ 53 → c ≠ 54 → M c = M0 c) → (∀ i, j = i + 1 → ∀ q, q < np → (S (f + i)).testBit q = true → M bf q = nI (zaV np pc D S f rd ex i q)) → zEx (zCall (d + 7)) 7 false 1 zc_Stays_atMost F 10 [.ref 51, .int (nI (zmoD np pc D S f rd ex j)), .int (nI (f + j)), l3, l4] [] (X, b, zLay, K, B, M) := by
  intro k
  induction k with
  | zero =>
    intro j K M bf th l3 l4 c3 c4 hK hSw hbf hth hbt hj u1 u2
    have hj : j = g - f + 1 := by omega
    subst hj
    have e41 : M 41 = M0 41 := u1 41 (by decide) (by decide)
    exact zb_Stays_atMost_10 hK _ _ l3 l4 c3 c4 (by rw [e41]; exact hf) (by rw [e41]; exact hg) hfg (by omega) (fun _ => kk K M hK hSw u1) (fun z => absurd z (by omega))
  | succ k ih =>
    intro j K M bf th l3 l4 c3 c4 hK hSw hbf hth hbt hj u1 u2
    obtain ⟨y1, y2, y3, y4, y5⟩ := zL53 hbt
    have e41 : M 41 = M0 41 := u1 41 (by decide) (by decide)
    refine zb_Stays_atMost_10 hK _ (f + j) l3 l4 c3 c4 (by rw [e41]; exact hf) (by rw [e41]; exact hg) hfg (by omega) (fun z => absurd z (by omega)) (fun _ => ?_)
    refine lp_am23 (xv := xv) (j := j) hK hbf hth hbt (zKx_same (fun c hc => u1 c (by omega) (by omega)) hX) (by rw [e41]; exact hf) (by omega) hS (by rw [u1 43 (by decide) (by decide)]; exact h43) (by rw [u1 51 (by decide) (by decide)]; exact hrd) hr2 (by rw [u1 52 (by decide) (by decide)]; exact hxv) hx2 hex u2 (fun M1 l4 c4 v1 v2 => ?_) np 0 M l4 c4 (by omega) (fun _ _ => rfl) (fun q hq => absurd hq (Nat.not_lt_zero q))
    refine ih (j + 1) _ M1 th bf _ l4 rfl c4 (zKok_put (zKok_put hK rfl) rfl) (zSw_51 hSw hbt) rfl rfl (by omega) (by omega) (fun c h1 h2 => ?_) (fun i hi => ?_)
    · rw [v1 c (by omega)]; exact u1 c h1 h2
    · have : i = j := by omega
      subst this
      exact v2
theorem sp_amC {xv : Nat → Nat} (hK : zKok K) (hSw : zSw K) (hX : zKx A M np nw ns pc m D) (hf : M 41 1 = nI f) (hg : M 41 2 = nI g) (hfg : f ≤ g ∧ g < 60) (hS : ∀ e, S e < 1024) (h43 : ∀ e, e < 60 → M 43 e = nI (S e)) (hrd : M 51 3 = nI rd) (hr2 : rd < 1024) (hxv : ∀ e, f ≤ e → e ≤ g → M 52 e = nI (xv e)) (hx2 : ∀ e, xv e < 1024) (hex : ∀ e p, f ≤ e → e ≤ g → (S e).testBit p = true → (xv e).testBit p = ex e p) (kk : ∀ K' M', zKok K' → zSw K' → (∀ c, c ≠ 53 → c ≠ 54 → M' c = M c) → F (some (.int (nI (zmoD np pc D S f rd ex (g - f + 1))))) (X, b, zLay, K', B, M')) : zCall (d + 8) zm_Stays_atMost [.ref 51] (X, b, zLay, K, B, M) F := by
  refine zb_Stays_atMost_0 hK hf hg hfg ?_
  rcases hSw.2.2 with ⟨h1, h2⟩ | ⟨h1, h2⟩
  · exact lp_am10 hX hf hg hfg hS h43 hrd hr2 hxv hx2 hex kk (g - f + 1) 0 K M 53 54 .null .null rfl rfl hK hSw h1 h2 (Or.inl ⟨rfl, rfl⟩) (by omega) (fun _ _ _ => rfl) (fun i hi => absurd hi (by omega))
  · exact lp_am10 hX hf hg hfg hS h43 hrd hr2 hxv hx2 hex kk (g - f + 1) 0 K M 54 53 .null .null rfl rfl hK hSw h1 h2 (Or.inr ⟨rfl, rfl⟩) (by omega) (fun _ _ _ => rfl) (fun i hi => absurd hi (by omega))
/-- canKeepTo -/
theorem zkc_s (j k : Nat) : (zkc np pc D S f rd ex lm j (k + 1)).toNat = if (zkc np pc D S f rd ex lm j k).toNat ≠ 0 ∨ zkV np pc D S f rd ex lm j k ≠ 9999 then 1 else 0 := by
  have : zkc np pc D S f rd ex lm j (k + 1) = (zkc np pc D S f rd ex lm j k || !(Nat.beq (zkV np pc D S f rd ex lm j k) 9999)) := rfl
  rw [this]
  by_cases e : zkV np pc D S f rd ex lm j k = 9999
  · rw [e]
    cases zkc np pc D S f rd ex lm j k <;> rfl
  · rw [zbeq_f e, if_pos (Or.inr e)]
    cases zkc np pc D S f rd ex lm j k <;> rfl
theorem lp_ck30 {M0 : Nat → Nat → Int32} {xv : Nat → Nat} {j bf th : Nat} (hK : zKok K) (hlm : lm ≤ 99) (hbf : K 51 4 = some bf) (hth : K 51 5 = some th) (hbt : (bf = 53 ∧ th = 54) ∨ (bf = 54 ∧ th = 53)) (hX : zKx A M0 np nw ns pc m D) (hf : M0 41 1 = nI f) (hj : f + j ≤ g ∧ g < 60) (hS : ∀ e, S e < 1024) (h43 : ∀ e, e < 60 → M0 43 e = nI (S e)) (hrd : M0 51 3 = nI rd) (hr2 : rd < 1024) (hxv : ∀ e, f ≤ e → e ≤ g → M0 52 e = nI (xv e)) (hx2 : ∀ e, xv e < 1024) (hex : ∀ e p, f ≤ e → e ≤ g → (S e).testBit p = true → (xv e).testBit p = ex e p) (hbe : ∀ i, j = i + 1 → ∀ q, q < np → (S (f + i)).testBit q = true → M0 bf q = nI (zkV np pc D S f rd ex lm i q)) (kk : ∀ M (l5 : Value), l5.category = 1 → (∀ c, c ≠ th → M c = M0 c) → (∀ q, q < np → (S (f + j)).testBit q = true → M th q = nI (zkV np pc D S f rd ex lm j q)) → zEx (zCall (d + 7)) 7 false 2 zc_Stays_canKeepTo F 10 [.ref 51, .int (nI lm), .int (nI (zkc np pc D S f rd ex lm j np).toNat), .int (nI (f + j + 1)), .int (nI np), l5] [] (X, b, zLay, zu (zu K 51 4 (some th)) 51 5 (some bf), B, M)) : ∀ (k p : Nat) (M : Nat → Nat → Int32) (l5 : Value), l5.category = 1 → p + k = np → (∀ c, c ≠ th → M c = M0 c) → (∀ q, q < p → (S (f + j)).testBit q = true → M th q = nI (zkV np pc D S f rd ex lm j q)) → zEx (zCall (d + 7)) 7 false 2 zc_Stays_canKeepTo F 30 [.ref 51, .int (nI lm), .int (nI (zkc np pc D S f rd ex lm j p).toNat), .int (nI (f + j)), .int (nI p), l5] [] (X, b, zLay, K, B, M) := by
  have hb := hX.1.2.2.2.2.1.1
  have tn : ∀ x : Bool, x.toNat ≤ 1 := fun x => by cases x <;> decide
  obtain ⟨y1, y2, y3, y4, y5⟩ := zL53 hbt
  intro k
  induction k with
  | zero =>
    intro p M l5 c5 hp u1 u2
    have hp : p = np := by omega
    subst hp
    exact zb_Stays_canKeepTo_30 (sv := S (f + j)) hK lm _ (f + j) p l5 c5 (by rw [u1 1 (by omega)]; exact hX.1.1) hb (by omega) (Nat.le_refl _) (tn _) (fun z => absurd z (by omega)) (hS _) hbf y1 hth y2 (fun _ => kk M l5 c5 u1 u2) (fun z _ => absurd z (by omega)) (fun z _ => absurd z (by omega))
  | succ k ih =>
    intro p M l5 c5 hp u1 u2
    have hX' : zKx A M np nw ns pc m D := zKx_same (fun c hc => u1 c (by omega)) hX
    have kv := zkV_eq (np := np) (pc := pc) (D := D) (S := S) (f := f) (rd := rd) (ex := ex) (lm := lm) j p
    have st := zkc_s (np := np) (pc := pc) (D := D) (S := S) (f := f) (rd := rd) (ex := ex) (lm := lm) j p
    refine zb_Stays_canKeepTo_30 (sv := S (f + j)) hK lm _ (f + j) p l5 c5 (by rw [u1 1 (by omega)]; exact hX.1.1) hb (by omega) (by omega) (tn _) (fun _ => by rw [u1 43 (by omega)]; exact h43 _ (by omega)) (hS _) hbf y1 hth y2 (fun z => absurd z (by omega)) (fun _ z => ?_) (fun _ z => ?_)
    · refine sp_sbS (d := d + 2) (rd := rd) (ex := ex) (lm := lm) hK hbf y1 hX' hlm (by rw [u1 41 (by omega)]; exact hf) (by omega) (by omega) hS (by rw [u1 43 (by omega)]; exact h43) (by rw [u1 bf y3]; exact hbe) ?_
      have pl := zpS_le (np := np) (pc := pc) (D := D) (S := S) (f := f) (rd := rd) (ex := ex) (lm := lm) j p
      have xe := hex (f + j) p (by omega) (by omega) z
      rw [z, cond_true] at kv
      have next : ∀ (v c : Nat) (x : Value), x.category = 1 → v = zk9 lm (rd.testBit p) ((xv (f + j)).testBit p) (zpS np pc D S f rd ex lm j p) → c = (if (zkc np pc D S f rd ex lm j p).toNat ≠ 0 ∨ v ≠ 9999 then 1 else 0) → zEx (zCall (d + 7)) 7 false 2 zc_Stays_canKeepTo F 30 [.ref 51, .int (nI lm), .int (nI c), .int (nI (f + j)), .int (nI (p + 1)), x] [] (X, b, zLay, K, B, zu M th p (nI v)) := by
        intro v c x cx hv hc
        rw [xe, ← kv] at hv
        subst hv
        rw [← st] at hc
        subst hc
        refine ih (p + 1) _ x cx (by omega) (fun c hc => ?_) (fun q hq hz => ?_)
        · rw [zu_oc hc]; exact u1 c hc
        · rw [zu_at]
          by_cases e : q = p
          · rw [if_pos e, e]
          · rw [if_neg e]; exact u2 q (by omega) hz
      generalize hl2 : (zkc np pc D S f rd ex lm j p).toNat = l2 at next ⊢
      have l21 : l2 ≤ 1 := by rw [← hl2]; exact tn _
      generalize zpS np pc D S f rd ex lm j p = s0 at next pl ⊢
      refine zb_Stays_canKeepTo_70 (xv := xv (f + j)) (rd := rd) hK lm l2 (f + j) p l5 s0 c5 hX'.1.1 hb hlm (by omega) (by omega) l21 pl (by rw [u1 52 (by omega)]; exact hxv _ (by omega) (by omega)) (hx2 _) (by rw [u1 51 (by omega)]; exact hrd) hr2 hth y2 (fun q0 q1 q2 => next (s0) 1 _ rfl (by unfold zk9; repeat' split; all_goals first | omega | contradiction) (by split <;> omega)) (fun q0 q1 q2 q3 => next (s0) 0 _ rfl (by unfold zk9; repeat' split; all_goals first | omega | contradiction) (by split <;> omega)) (fun q0 q1 q2 q3 => next (s0) 1 _ rfl (by unfold zk9; repeat' split; all_goals first | omega | contradiction) (by split <;> omega)) (fun q0 q1 q2 => next (9999) 1 _ rfl (by unfold zk9; repeat' split; all_goals first | omega | contradiction) (by split <;> omega)) (fun q0 q1 q2 q3 => next (9999) 0 _ rfl (by unfold zk9; repeat' split; all_goals first | omega | contradiction) (by split <;> omega)) (fun q0 q1 q2 q3 => next (9999) 1 _ rfl (by unfold zk9; repeat' split; all_goals first | omega | contradiction) (by split <;> omega)) (fun q0 q1 q2 q3 => next (0) 1 _ rfl (by unfold zk9; repeat' split; all_goals first | omega | contradiction) (by split <;> omega)) (fun q0 q1 q2 q3 q4 => next (0) 0 _ rfl (by unfold zk9; repeat' split; all_goals first | omega | contradiction) (by split <;> omega)) (fun q0 q1 q2 q3 q4 => next (0) 1 _ rfl (by unfold zk9; repeat' split; all_goals first | omega | contradiction) (by split <;> omega)) (fun q0 q1 q2 q3 => next (9999) 1 _ rfl (by unfold zk9; repeat' split; all_goals first | omega | contradiction) (by split <;> omega)) (fun q0 q1 q2 q3 q4 => next (9999) 0 _ rfl (by unfold zk9; repeat' split; all_goals first | omega | contradiction) (by split <;> omega)) (fun q0 q1 q2 q3 q4 => next (9999) 1 _ rfl (by unfold zk9; repeat' split; all_goals first | omega | contradiction) (by split <;> omega)) (fun q0 q1 q2 q3 q4 => next ((s0 + 1)) 1 _ rfl (by unfold zk9; repeat' split; all_goals first | omega | contradiction) (by split <;> omega)) (fun q0 q1 q2 q3 q4 q5 => next ((s0 + 1)) 0 _ rfl (by unfold zk9; repeat' split; all_goals first | omega | contradiction) (by split <;> omega)) (fun q0 q1 q2 q3 q4 q5 => next ((s0 + 1)) 1 _ rfl (by unfold zk9; repeat' split; all_goals first | omega | contradiction) (by split <;> omega)) (fun q0 q1 q2 q3 q4 => next (9999) 1 _ rfl (by unfold zk9; rw [if_neg q0, if_pos q1, if_neg q2, if_neg (by omega)]) (by split <;> omega)) (fun q0 q1 q2 q3 q4 q5 => next (9999) 0 _ rfl (by unfold zk9; rw [if_neg q0, if_pos q1, if_neg q2, if_neg (by omega)]) (by split <;> omega)) (fun q0 q1 q2 q3 q4 q5 => next (9999) 1 _ rfl (by unfold zk9; rw [if_neg q0, if_pos q1, if_neg q2, if_neg (by omega)]) (by split <;> omega)) (fun q0 q1 q2 q3 q4 => next (s0) 1 _ rfl (by unfold zk9; repeat' split; all_goals first | omega | contradiction) (by split <;> omega)) (fun q0 q1 q2 q3 q4 q5 => next (s0) 0 _ rfl (by unfold zk9; repeat' split; all_goals first | omega | contradiction) (by split <;> omega)) (fun q0 q1 q2 q3 q4 q5 => next (s0) 1 _ rfl (by unfold zk9; repeat' split; all_goals first | omega | contradiction) (by split <;> omega)) (fun q0 q1 q2 q3 q4 => next (9999) 1 _ rfl (by unfold zk9; rw [if_neg q0, if_pos q1, if_pos q2, if_neg (by omega)]) (by split <;> omega)) (fun q0 q1 q2 q3 q4 q5 => next (9999) 0 _ rfl (by unfold zk9; rw [if_neg q0, if_pos q1, if_pos q2, if_neg (by omega)]) (by split <;> omega)) (fun q0 q1 q2 q3 q4 q5 => next (9999) 1 _ rfl (by unfold zk9; rw [if_neg q0, if_pos q1, if_pos q2, if_neg (by omega)]) (by split <;> omega))
    · have e := ih (p + 1) M l5 c5 (by omega) u1 (fun q hq hz => by
        by_cases e : q = p
        · rw [e] at hz; exact absurd hz z
        · exact u2 q (by omega) hz)
      rw [eq_false_of_ne_true z, cond_false] at kv
      rw [st, kv] at e
      have : (if (zkc np pc D S f rd ex lm j p).toNat ≠ 0 ∨ (9999 : Nat) ≠ 9999 then 1 else 0) = (zkc np pc D S f rd ex lm j p).toNat := by
        cases zkc np pc D S f rd ex lm j p <;> rfl
      rw [this] at e
      exact e
theorem lp_ck10 {M0 : Nat → Nat → Int32} {xv : Nat → Nat} (hlm : lm ≤ 99) (hX : zKx A M0 np nw ns pc m D) (hf : M0 41 1 = nI f) (hg : M0 41 2 = nI g) (hfg : f ≤ g ∧ g < 60) (hS : ∀ e, S e < 1024) (h43 : ∀ e, e < 60 → M0 43 e = nI (S e)) (hrd : M0 51 3 = nI rd) (hr2 : rd < 1024) (hxv : ∀ e, f ≤ e → e ≤ g → M0 52 e = nI (xv e)) (hx2 : ∀ e, xv e < 1024) (hex : ∀ e p, f ≤ e → e ≤ g → (S e).testBit p = true → (xv e).testBit p = ex e p) (kk : ∀ K M, zKok K → zSw K → (∀ c, c ≠ 53 → c ≠ 54 → M c = M0 c) → F (some (.int (nI (zkc np pc D S f rd ex lm (g - f) np).toNat))) (X, b, zLay, K, B, M)) : ∀ (k j : Nat) (K : Nat → Nat → Option Nat) (M : Nat → Nat → Int32) (bf th : Nat) (l4 l5 : Value), l4.category = 1 → l5.category = 1 → zKok K → zSw K → K 51 4 = some bf → K 51 5 = some th → ((bf = 53 ∧ th = 54) ∨ (bf = 54 ∧ th = 53)) → f + j + k = g + 1 → (∀ c, c ≠ 53 → c ≠ 54 → M c = M0 c) → (∀ i, j = i + 1 → ∀ q, q < np → (S (f + i)).testBit q = true → M bf q = nI (zkV np pc D S f rd ex lm i q)) → ∀ c2 : Nat, (j = 0 ∧ c2 = 1 ∨ ∃ i, j = i + 1 ∧ c2 = (zkc np pc D S f rd ex lm i np).toNat) → zEx (zCall (d + 7)) 7 false 2 zc_Stays_canKeepTo F 10 [.ref 51, .int (nI lm), .int (nI c2), .int (nI (f + j)), l4, l5] [] (X, b, zLay, K, B, M) := by
  have tn : ∀ x : Bool, x.toNat ≤ 1 := fun x => by cases x <;> decide
  have b01 : ∀ x : Bool, nI x.toNat = 0 ∨ nI x.toNat = 1 := fun x => by cases x <;> decide
  intro k
  induction k with
  | zero =>
    intro j K M bf th l4 l5 c4 c5 hK hSw hbf hth hbt hj u1 u2 c2 hc2
    have e41 : M 41 = M0 41 := u1 41 (by decide) (by decide)
    rcases hc2 with ⟨z, -⟩ | ⟨i, hi, rfl⟩
    · omega
    · have hi2 : i = g - f := by omega
      subst hi2
      exact zb_Stays_canKeepTo_10 hK lm _ (f + j) l4 l5 c4 c5 (by rw [e41]; exact hf) (by rw [e41]; exact hg) hfg (by omega) (tn _) (fun _ => b01 _) (fun _ => kk K M hK hSw u1) (fun z => absurd z (by omega)) (fun z => absurd z (by omega)) (fun z => absurd z (by omega))
  | succ k ih =>
    intro j K M bf th l4 l5 c4 c5 hK hSw hbf hth hbt hj u1 u2 c2 hc2
    obtain ⟨y1, y2, y3, y4, y5⟩ := zL53 hbt
    have e41 : M 41 = M0 41 := u1 41 (by decide) (by decide)
    have c21 : c2 ≤ 1 := by
      rcases hc2 with ⟨-, z⟩ | ⟨i, -, z⟩
      · omega
      · rw [z]; exact tn _
    have c201 : nI c2 = 0 ∨ nI c2 = 1 := by
      have : c2 = 0 ∨ c2 = 1 := by omega
      rcases this with z | z
      · rw [z]; exact Or.inl rfl
      · rw [z]; exact Or.inr rfl
    refine zb_Stays_canKeepTo_10 hK lm c2 (f + j) l4 l5 c4 c5 (by rw [e41]; exact hf) (by rw [e41]; exact hg) hfg (by omega) c21 (fun _ => c201) (fun z => absurd z (by omega)) (fun _ _ => c201) (fun _ z => ?_) (fun _ _ => ?_)
    · rcases hc2 with ⟨-, z2⟩ | ⟨i, hi, z2⟩
      · omega
      · have zf : zkc np pc D S f rd ex lm i np = false := by
          rw [z] at z2
          cases e : zkc np pc D S f rd ex lm i np
          · rfl
          · rw [e] at z2; cases z2
        have e := kk K M hK hSw u1
        have := zkc_stops zf (g - f - i)
        rw [show i + (g - f - i) = g - f by omega] at this
        rw [this] at e
        rw [z]
        exact e
    · refine lp_ck30 (xv := xv) (j := j) hK hlm hbf hth hbt (zKx_same (fun c hc => u1 c (by omega) (by omega)) hX) (by rw [e41]; exact hf) (by omega) hS (by rw [u1 43 (by decide) (by decide)]; exact h43) (by rw [u1 51 (by decide) (by decide)]; exact hrd) hr2 (by rw [u1 52 (by decide) (by decide)]; exact hxv) hx2 hex u2 (fun M1 l5 c5 v1 v2 => ?_) np 0 M l5 c5 (by omega) (fun _ _ => rfl) (fun q hq => absurd hq (Nat.not_lt_zero q))
      refine ih (j + 1) _ M1 th bf _ l5 rfl c5 (zKok_put (zKok_put hK rfl) rfl) (zSw_51 hSw hbt) rfl rfl (by omega) (by omega) (fun c h1 h2 => ?_) (fun i hi => ?_) _ (Or.inr ⟨j, rfl, rfl⟩)
      · rw [v1 c (by omega)]; exact u1 c h1 h2
      · have : i = j := by omega
        subst this
        exact v2
theorem sp_ckC {xv : Nat → Nat} (hK : zKok K) (hSw : zSw K) (hlm : lm ≤ 99) (hX : zKx A M np nw ns pc m D) (hf : M 41 1 = nI f) (hg : M 41 2 = nI g) (hfg : f ≤ g ∧ g < 60) (hS : ∀ e, S e < 1024) (h43 : ∀ e, e < 60 → M 43 e = nI (S e)) (hrd : M 51 3 = nI rd) (hr2 : rd < 1024) (hxv : ∀ e, f ≤ e → e ≤ g → M 52 e = nI (xv e)) (hx2 : ∀ e, xv e < 1024) (hex : ∀ e p, f ≤ e → e ≤ g → (S e).testBit p = true → (xv e).testBit p = ex e p) (kk : ∀ K' M', zKok K' → zSw K' → (∀ c, c ≠ 53 → c ≠ 54 → M' c = M c) → F (some (.int (nI (zkc np pc D S f rd ex lm (g - f) np).toNat))) (X, b, zLay, K', B, M')) : zCall (d + 8) zm_Stays_canKeepTo [.ref 51, .int (nI lm)] (X, b, zLay, K, B, M) F := by
  refine zb_Stays_canKeepTo_0 hK lm hf hg hfg ?_
  rcases hSw.2.2 with ⟨h1, h2⟩ | ⟨h1, h2⟩
  · exact lp_ck10 hlm hX hf hg hfg hS h43 hrd hr2 hxv hx2 hex kk (g - f + 1) 0 K M 53 54 .null .null rfl rfl hK hSw h1 h2 (Or.inl ⟨rfl, rfl⟩) (by omega) (fun _ _ _ => rfl) (fun i hi => absurd hi (by omega)) 1 (Or.inl ⟨rfl, rfl⟩)
  · exact lp_ck10 hlm hX hf hg hfg hS h43 hrd hr2 hxv hx2 hex kk (g - f + 1) 0 K M 54 53 .null .null rfl rfl hK hSw h1 h2 (Or.inr ⟨rfl, rfl⟩) (by omega) (fun _ _ _ => rfl) (fun i hi => absurd hi (by omega)) 1 (Or.inl ⟨rfl, rfl⟩)
end SC
