/-! ===== look ===== -/
def zup1 (al : Nat → Nat) (dd x : Nat) : Nat → Nat := fun e => if e = dd then x else al e
section LK
variable {d : Nat} {F : Option Value → zS → Prop} {X : zX} {b : Nat × Nat} {K : Nat → Nat → Option Nat} {B : Nat → Nat → Int64} {M : Nat → Nat → Int32} {A : Nat → Int32} {np nw ns pc m : Nat} {D : Nat → Nat → Nat → Nat}
theorem sp_canBe {f g : Nat} {al : Nat → Nat} (hK : zKok K) (hL : zSi A M np nw ns pc m D f g al) {dd x : Nat} {w : Int32} (hd : dd < 60) (hx : x < 2 ^ np) (hw1 : dd = f → w = nI x) (hw2 : f < dd → dd ≤ g → ∀ r, r < 2 ^ np → w &&& nI r = nI (x &&& r)) (kk : ∀ M', zSe M M' np pc D f g (zup1 al dd x) → F (some (.int (zbi (decide (zld (fun d S => zrc np pc (D d) S) (zup1 al dd x) f (g - f) ≠ 0))))) (X, b, zLay, K, B, M')) : zCall (d + 6) zm_Journeys_canBeWith [.ref 41, .int (nI dd), .int w] (X, b, zLay, K, B, M) F := by
  obtain ⟨a1, a2, a3, a4, a5, a6, a7⟩ := hL
  have hL2 : zSi A (zu M 42 dd w) np nw ns pc m D f g (zup1 al dd x) := by
    refine ⟨a1, a2, a3, ?_, fun e r h1 h2 h3 => ?_, zKx_same (fun c hc => zu_oc (by omega)) a6, fun e => ?_⟩
    · rw [zu_at]
      unfold zup1
      by_cases q : f = dd
      · rw [if_pos q, if_pos q]; exact hw1 q.symm
      · rw [if_neg q, if_neg q]; exact a4
    · rw [zu_at]
      unfold zup1
      by_cases q : e = dd
      · rw [if_pos q, if_pos q]; exact hw2 (by omega) (by omega) r h3
      · rw [if_neg q, if_neg q]; exact a5 e r h1 h2 h3
    · unfold zup1
      split
      · exact hx
      · exact a7 e
  refine zb_Journeys_canBeWith_0 hK dd w hd ?_
  refine sp_settle (d := d + 1) hK hL2 (fun M1 s1 => ?_)
  obtain ⟨z1, z2, z3, z4⟩ := s1
  refine zb_Journeys_canBeWith_18 hK dd w _ hd (by rw [z3]; exact zbi_01 _) ?_
  rw [z3]
  refine kk _ ⟨fun c h1 h2 => ?_, fun i hi => ?_, z3, z4⟩
  · by_cases q : c = 42
    · subst q
      funext i
      rw [zu_at]
      by_cases q : i = dd
      · rw [if_pos q, q]
      · rw [if_neg q, z1 42 (by decide) (by decide), zu_at, if_neg q]
    · rw [zu_oc q, z1 c h1 h2, zu_oc q]
  · exact z2 i hi
theorem sp_canBeO {f g : Nat} {al : Nat → Nat} (hK : zKok K) (hL : zSiO A M np nw ns pc m D f g al) {dd x : Nat} {w : Int32} (hd : dd < 60) (hx : x < 2 ^ np) (hw1 : dd = f → w = nI x) (hw2 : f < dd → dd ≤ g → ∀ r, r < 2 ^ np → w &&& nI r = nI (x &&& r)) (kk : ∀ M', zSeO M M' np pc D f g (zup1 al dd x) → F (some (.int (zbi (decide (zld (fun d S => zrc np pc (D d) S) (zup1 al dd x) f (g - f) ≠ 0))))) (X, b, zLay, K, B, M')) : zCall (d + 6) zm_Journeys_canBeWith [.ref 46, .int (nI dd), .int w] (X, b, zLay, K, B, M) F := by
  obtain ⟨a1, a2, a3, a4, a5, a6, a7⟩ := hL
  have hL2 : zSiO A (zu M 47 dd w) np nw ns pc m D f g (zup1 al dd x) := by
    refine ⟨a1, a2, a3, ?_, fun e r h1 h2 h3 => ?_, zKx_same (fun c hc => zu_oc (by omega)) a6, fun e => ?_⟩
    · rw [zu_at]
      unfold zup1
      by_cases q : f = dd
      · rw [if_pos q, if_pos q]; exact hw1 q.symm
      · rw [if_neg q, if_neg q]; exact a4
    · rw [zu_at]
      unfold zup1
      by_cases q : e = dd
      · rw [if_pos q, if_pos q]; exact hw2 (by omega) (by omega) r h3
      · rw [if_neg q, if_neg q]; exact a5 e r h1 h2 h3
    · unfold zup1
      split
      · exact hx
      · exact a7 e
  refine zb_Journeys_canBeWithO_0 hK dd w hd ?_
  refine sp_settleO (d := d + 1) hK hL2 (fun M1 s1 => ?_)
  obtain ⟨z1, z2, z3, z4⟩ := s1
  refine zb_Journeys_canBeWithO_18 hK dd w _ hd (by rw [z3]; exact zbi_01 _) ?_
  rw [z3]
  refine kk _ ⟨fun c h1 h2 => ?_, fun i hi => ?_, z3, z4⟩
  · by_cases q : c = 47
    · subst q
      funext i
      rw [zu_at]
      by_cases q : i = dd
      · rw [if_pos q, q]
      · rw [if_neg q, z1 47 (by decide) (by decide), zu_at, if_neg q]
    · rw [zu_oc q, z1 c h1 h2, zu_oc q]
  · exact z2 i hi
/-- the doubt that is left, 0 where nothing is -/
def zdw (np pc : Nat) (D : Nat → Nat → Nat → Nat) (al : Nat → Nat) (f g : Nat) : Int32 := if zld (fun d S => zrc np pc (D d) S) al f (g - f) = 0 then 0 else zdb (fun e => zld (fun d S => zrc np pc (D d) S) al f (e - f) &&& zbk (fun d S => zrc np pc (D d) S) al g (g - e)) f (g - f + 1)
theorem sp_dW {f g : Nat} {al : Nat → Nat} (hK : zKok K) (hL : zSi A M np nw ns pc m D f g al) {dd x : Nat} {w : Int32} (hd : dd < 60) (hx : x < 2 ^ np) (hw1 : dd = f → M 42 dd &&& w = nI x) (hw2 : f < dd → dd ≤ g → ∀ r, r < 2 ^ np → (M 42 dd &&& w) &&& nI r = nI (x &&& r)) (kk : ∀ M', (∀ c, c ≠ 41 → c ≠ 43 → M' c = M c) → (∀ i, i ≠ 3 → M' 41 i = M 41 i) → F (some (.int (zdw np pc D (zup1 al dd x) f g))) (X, b, zLay, K, B, M')) : zCall (d + 8) zm_Journeys_doubtWith [.ref 41, .int (nI dd), .int w] (X, b, zLay, K, B, M) F := by
  have hb : np ≤ 10 := hL.2.2.2.2.2.1.1.2.2.2.2.1.1
  have hDs := hL.2.2.2.2.2.1.2.2.2.2.2.2.2.2.1
  have hfg := hL.2.2.1
  have al' : ∀ e, zup1 al dd x e < 2 ^ np := fun e => by
    unfold zup1
    split
    · exact hx
    · exact hL.2.2.2.2.2.2 e
  refine zb_Journeys_doubtWith_0 hK dd w hd ?_
  refine sp_canBe (d := d + 1) hK hL hd hx hw1 hw2 (fun M1 s1 => ?_)
  obtain ⟨z1, z2, z3, z4⟩ := s1
  have e := kk M1 z1 z2
  unfold zdw at e
  refine zb_Journeys_doubtWith_15 dd w _ _ (fun q => ?_) (fun q => ?_)
  · rw [if_pos (Decidable.not_not.mp (zbi_0 q))] at e
    exact e
  · rw [if_neg (zbi_1 q)] at e
    refine sp_Cdoubt (d := d + 4) hK (by rw [z2 1 (by decide)]; exact hL.1) (by rw [z2 2 (by decide)]; exact hL.2.1) hfg (v := fun e => zfn (fun d S => zrc np pc (D d) S) (zup1 al dd x) f g (g - e)) z4.1 (fun e => zp1024 (zfn_lt al' _ _ _) hb) ?_
    refine zb_Journeys_doubtWith_26 dd w _ _ _ ?_
    rw [zdb_ext (S := fun e => zfn (fun d S => zrc np pc (D d) S) (zup1 al dd x) f g (g - e)) (T := fun e => zld (fun d S => zrc np pc (D d) S) (zup1 al dd x) f (e - f) &&& zbk (fun d S => zrc np pc (D d) S) (zup1 al dd x) g (g - e)) (fun i hi => ?_)]
    · exact e
    · show zfn _ _ f g (g - (f + i)) = _
      rw [zfn_eq hDs _ (by omega)]
      congr 2
      omega
theorem sp_dB {f g : Nat} {al : Nat → Nat} (hK : zKok K) (hb : np ≤ 10) (hL : zLi M np m pc f g al D) {dd x : Nat} {w : Int32} (hd : dd < 60) (hx : x < 2 ^ np) (hw : M 88 dd &&& w = nI x) (kk : ∀ M', (∀ c, c ≠ 89 → c ≠ 90 → M' c = M c) → F (some (.int (zdw np pc D (zup1 al dd x) f g))) (X, b, zLay, K, B, M')) : zCall (d + 8) zm_Model_doubtBy [.ref 71, .int (nI dd), .int w] (X, b, zLay, K, B, M) F := by
  obtain ⟨a1, a2, a3, a4, a5, a6⟩ := hL
  have al' : ∀ e, zup1 al dd x e < 2 ^ np := fun e => by
    unfold zup1
    split
    · exact hx
    · exact a6 e
  have hL2 : zLi (zu M 88 dd (M 88 dd &&& w)) np m pc f g (zup1 al dd x) D := by
    refine ⟨a1, a2, a3, fun e he => ?_, zRf87_same a5 (zu_oc (by decide)) (zu_oc (by decide)), al'⟩
    rw [zu_at]
    unfold zup1
    by_cases q : e = dd
    · rw [if_pos q, if_pos q]; exact hw
    · rw [if_neg q, if_neg q]; exact a4 e he
  refine zb_Model_doubtBy_0 hK dd w hd ?_
  refine sp_leads (d := d + 4) hK hL2 (fun M1 z1 z2 z3 => ?_)
  have back : ∀ c, c ≠ 89 → c ≠ 90 → zu M1 88 dd (M 88 dd) c = M c := fun c h1 h2 => by
    by_cases q : c = 88
    · subst q
      funext i
      rw [zu_at]
      by_cases q : i = dd
      · rw [if_pos q, q]
      · rw [if_neg q, z1 88 (by decide) (by decide), zu_at, if_neg q]
    · rw [zu_oc q, z1 c h1 h2, zu_oc q]
  have e := kk _ back
  unfold zdw at e
  refine zb_Model_doubtBy_20 hK dd w _ _ hd (fun q => ?_) (fun q => ?_)
  · rw [if_pos (Decidable.not_not.mp (zbi_0 q))] at e
    exact e
  · rw [if_neg (zbi_1 q)] at e
    refine sp_Mdoubt (d := d + 4) hK (by rw [z1 71 (by decide) (by decide)]; exact a1) (by rw [z1 71 (by decide) (by decide)]; exact a2) a3 (v := fun e => zld (fun d S => zrc np pc (D d) S) (zup1 al dd x) f (e - f)) (w := fun e => zbk (fun d S => zrc np pc (D d) S) (zup1 al dd x) g (g - e)) (fun e h1 h2 => ?_) (fun e h1 h2 => ?_) (fun e => zp1024 (zand_lt (zld_lt al' _ _)) hb) ?_
    · have := z2 (e - f) (by omega)
      rw [show f + (e - f) = e by omega] at this
      exact this
    · have := z3 (g - e) (by omega)
      rw [show g - (g - e) = e by omega] at this
      exact this
    · exact zb_Model_doubtBy_31 hK dd w _ _ _ hd e
end LK
theorem zb_not : ∀ p, p < 10 → ∀ v, v < 1024 → nI v &&& (nI (2 ^ p) ^^^ (-1)) = nI (v &&& (1023 - 2 ^ p)) := by decide +kernel
theorem zdb_le (S : Nat → Nat) (f j : Nat) (hj : j ≤ 1000) : -(j : Int) ≤ (zdb S f j).toInt ∧ (zdb S f j).toInt ≤ 9 * j := by
  induction j with
  | zero =>
    show _ ≤ (0 : Int32).toInt ∧ (0 : Int32).toInt ≤ _
    rw [zl0]
    exact ⟨by omega, by omega⟩
  | succ j ih =>
    have ih := ih (by omega)
    have hc := zcb_le (S (f + j))
    have e : (nI (zcb (S (f + j))) - 1).toInt = (zcb (S (f + j)) : Int) - 1 := zsub1 (by omega)
    show _ ≤ (zdb S f j + (nI (zcb (S (f + j))) - 1)).toInt ∧ (zdb S f j + (nI (zcb (S (f + j))) - 1)).toInt ≤ _
    rw [Int32.toInt_add, e, Int.bmod_eq_of_le (by omega) (by omega)]
    constructor <;> omega
theorem zdw_lt {np pc : Nat} {D : Nat → Nat → Nat → Nat} {al : Nat → Nat} {f g : Nat} (hg : g < 60) : (zdw np pc D al f g).toInt < 100000 := by
  unfold zdw
  split
  · decide
  · have := (zdb_le (fun e => zld (fun d S => zrc np pc (D d) S) al f (e - f) &&& zbk (fun d S => zrc np pc (D d) S) al g (g - e)) f (g - f + 1) (by omega)).2
    omega
/-- what is found: the place, the doubt -/
def zlkS (cand : Nat) (v : Nat → Int32) : Nat → Int32 × Int32
  | 0 => (-1, 100000)
  | p + 1 => if cand.testBit p = true ∧ v p < (zlkS cand v p).2 then (nI p, v p) else zlkS cand v p
theorem zlkS_or {cand : Nat} {v : Nat → Int32} (hv : ∀ p, (v p).toInt < 100000) (j : Nat) (hj : j ≤ 10) : ((zlkS cand v j = (-1, 100000)) ∧ ∀ p, p < j → cand.testBit p = false) ∨ ∃ p, p < 10 ∧ (zlkS cand v j).1 = nI p := by
  induction j with
  | zero => exact Or.inl ⟨rfl, fun p h => absurd h (Nat.not_lt_zero p)⟩
  | succ j ih =>
    unfold zlkS
    by_cases q : cand.testBit j = true ∧ v j < (zlkS cand v j).2
    · rw [if_pos q]; exact Or.inr ⟨j, by omega, rfl⟩
    · rw [if_neg q]
      rcases ih (by omega) with ⟨i1, i2⟩ | i
      · refine Or.inl ⟨i1, fun p hp => ?_⟩
        by_cases e : p = j
        · subst e
          apply eq_false_of_ne_true
          intro z
          refine q ⟨z, ?_⟩
          rw [i1, zlt]
          exact hv p
        · exact i2 p (by omega)
      · exact Or.inr i
/-- the class's second number -/
def zlkD (s : Int32 × Int32) : Int32 := if s.1 = -1 then -1 else s.2
theorem zmx (x y : Int32) : (if x < y then y else x) = if x ≤ y then y else x := by
  by_cases h : x < y
  · rw [if_pos h, if_pos (Int32.le_of_lt h)]
  · rw [if_neg h]
    by_cases h2 : x ≤ y
    · rw [if_pos h2]
      exact Int32.le_antisymm h2 (Int32.not_lt.mp h)
    · rw [if_neg h2]
