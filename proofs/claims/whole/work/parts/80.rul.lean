/-! ===== rules ===== -/
def zval (nm : Nat → Int) (c : List (Nat × Nat)) : Int := (zevs nm c (0, fun _ => 0)).2 0
theorem zevs_ok {mask : Nat} {nm : Nat → Int} (hn : ∀ j, j < 7 → mask.testBit j = true → -1000000 ≤ nm j ∧ nm j ≤ 1000000) : ∀ (c : List (Nat × Nat)) (s s' : List Bool) (P : Nat → Int), zty mask c s = some s' → zgd s P → s.length ≤ 32 → zgd s' (zevs nm c (s.length, P)).2 := by
  intro c
  induction c with
  | nil => intro s s' P h hg _; cases h; exact hg
  | cons t c ih =>
    intro s s' P h hg hl
    unfold zty at h
    cases hz : zty1 mask t s with
    | none => rw [hz] at h; cases h
    | some s1 =>
      rw [hz] at h
      obtain ⟨o1, o2, o3⟩ := zst_ok (nm := nm) hn hz hg hl
      have e := ih s1 s' _ h o2 o3
      show zgd s' (zevs nm c (zst nm t (s.length, P))).2
      have : zst nm t (s.length, P) = (s1.length, (zst nm t (s.length, P)).2) := by rw [← o1]
      rw [this]
      exact e
theorem zval_ok {mask : Nat} {nm : Nat → Int} {c : List (Nat × Nat)} {bb : Bool} (hn : ∀ j, j < 7 → mask.testBit j = true → -1000000 ≤ nm j ∧ nm j ≤ 1000000) (h : zty mask c [] = some [bb]) : zgo bb (zval nm c) := (zevs_ok hn c [] [bb] (fun _ => 0) h trivial (by simp)).1
def zRtx (n7 : Nat) (ru : Int32) (tx : Nat) : Prop := (ru = -1 ∧ tx = 33) ∨ (∃ t, t < n7 ∧ n7 ≤ 4 ∧ ru = nI t ∧ tx = 55 + 4 * t)
def zIk (c : Nat) : Prop := 33 ≤ c ∧ c ≤ 70 ∧ ¬ (37 ≤ c ∧ c ≤ 54)
def zRc (M : Nat → Nat → Int32) (tx : Nat) (cl : Nat → Option (List (Nat × Nat))) : Prop := ∃ fr to st, zget zLay tx = some (.inl 8) ∧ (zlk2 zKtL tx 2 = some fr ∧ zlk2 zKtL tx 3 = some to ∧ zlk2 zKtL tx 0 = some st) ∧ (zget zLay fr = some (.inr (0, 4)) ∧ zget zLay to = some (.inr (0, 4))) ∧ (zIk fr ∧ zIk to ∧ zIk st) ∧ ∀ w, w < 4 → (cl w = none ∧ M fr w = -1) ∨ ∃ c f, cl w = some c ∧ zget zLay st = some (.inr (0, 300)) ∧ zty (zmsk w) c [] = some [zask w] ∧ f + c.length ≤ 300 ∧ M fr w = nI f ∧ M to w = nI (f + c.length) ∧ ∀ i, i < c.length → M st (f + i) = zcc (c.getD i (0, 0))
def zRr (M : Nat → Nat → Int32) (ru : Int32) (cl : Nat → Option (List (Nat × Nat))) : Prop := ∀ w, w < 4 → (cl w = none ∧ (ru = -1 ∨ ∃ t, t < 4 ∧ ru = nI t ∧ M 75 (4 * t + w) = -1)) ∨ ∃ c t r, cl w = some c ∧ t < 4 ∧ ru = nI t ∧ zty (zmsk w) c [] = some [zask w] ∧ r + c.length < 400 ∧ M 75 (4 * t + w) = nI (400 * t + r) ∧ M 76 (400 * t + r + c.length) = 408 ∧ ∀ i, i < c.length → M 76 (400 * t + r + i) = zrop (c.getD i (0, 0)) ∧ M 77 (400 * t + r + i) = zrov (c.getD i (0, 0))
theorem zRc_same {M M2 : Nat → Nat → Int32} {tx : Nat} {cl : Nat → Option (List (Nat × Nat))} (h : ∀ c, zIk c → M2 c = M c) (k : zRc M tx cl) : zRc M2 tx cl := by
  obtain ⟨fr, to, st, h1, h2, h3, h4, h5⟩ := k
  refine ⟨fr, to, st, h1, h2, h3, h4, fun w hw => ?_⟩
  rw [h fr h4.1, h to h4.2.1, h st h4.2.2]
  exact h5 w hw
theorem zRr_same {M M2 : Nat → Nat → Int32} {ru : Int32} {cl : Nat → Option (List (Nat × Nat))} (h : ∀ c, 75 ≤ c → c ≤ 77 → M2 c = M c) (k : zRr M ru cl) : zRr M2 ru cl := by
  intro w hw
  rw [h 75 (by omega) (by omega), h 76 (by omega) (by omega), h 77 (by omega) (by omega)]
  exact k w hw
/-- a rule that is one, on both sides -/
theorem zRul {M : Nat → Nat → Int32} {n n' : Nat → Nat} (h : zIn M n n') {ru : Int32} (hr : (-1) ≤ ru.toInt ∧ ru.toInt < n 7) : ∃ tx cl, zRtx (n 7) ru tx ∧ zRc M tx cl ∧ zRr M ru cl := by
  have hb := h.1.2
  by_cases h1 : ru = -1
  · subst h1
    refine ⟨33, fun _ => none, Or.inl ⟨rfl, rfl⟩, ⟨34, 35, 36, rfl, ⟨rfl, rfl, rfl⟩, ⟨rfl, rfl⟩, ⟨by unfold zIk; omega, by unfold zIk; omega, by unfold zIk; omega⟩, fun w hw => Or.inl ⟨rfl, ?_⟩⟩, fun w hw => Or.inl ⟨rfl, Or.inl rfl⟩⟩
    exact h.2.2.2.2.2.2.2.2.2.2.2.2.2 w hw
  · have h0 : 0 ≤ ru.toInt := by
      rcases Int.lt_or_le ru.toInt 0 with q | q
      · exact absurd (Int32.toInt_inj.mp (show ru.toInt = (-1 : Int32).toInt by rw [zlm]; omega)) h1
      · exact q
    obtain ⟨t, ht, rfl⟩ := znat (x := ru) (n := n 7) h0 hr.2 (by omega)
    obtain ⟨t4, tx⟩ := zIn_tx h t ht
    have ch : ∀ w, ∃ oc : Option (List (Nat × Nat)), w < 4 → ((oc = none ∧ M (56 + 4 * t) w = -1 ∧ M 75 (4 * t + w) = -1) ∨ ∃ (c : List (Nat × Nat)) (f r : Nat), oc = some c ∧ zty (zmsk w) c [] = some [zask w] ∧ f + c.length ≤ 300 ∧ r + c.length < 400 ∧ M (56 + 4 * t) w = nI f ∧ M (57 + 4 * t) w = nI (f + c.length) ∧ M 75 (4 * t + w) = nI (400 * t + r) ∧ M 76 (400 * t + r + c.length) = 408 ∧ ∀ i, i < c.length → M (58 + 4 * t) (f + i) = zcc (c.getD i (0, 0)) ∧ M 76 (400 * t + r + i) = zrop (c.getD i (0, 0)) ∧ M 77 (400 * t + r + i) = zrov (c.getD i (0, 0))) := by
      intro w
      by_cases hw : w < 4
      · rcases tx w hw with ⟨q1, q2⟩ | ⟨f, r, c, q⟩
        · exact ⟨none, fun _ => Or.inl ⟨rfl, q1, q2⟩⟩
        · exact ⟨some c, fun _ => Or.inr ⟨c, f, r, rfl, q⟩⟩
      · exact ⟨none, fun q => absurd q hw⟩
    obtain ⟨cl, hcl⟩ := Classical.axiomOfChoice ch
    have kt : zget zLay (55 + 4 * t) = some (.inl 8) ∧ (zlk2 zKtL (55 + 4 * t) 2 = some (56 + 4 * t) ∧ zlk2 zKtL (55 + 4 * t) 3 = some (57 + 4 * t) ∧ zlk2 zKtL (55 + 4 * t) 0 = some (58 + 4 * t)) ∧ (zget zLay (56 + 4 * t) = some (.inr (0, 4)) ∧ zget zLay (57 + 4 * t) = some (.inr (0, 4))) ∧ zget zLay (58 + 4 * t) = some (.inr (0, 300)) := by
      have z : t = 0 ∨ t = 1 ∨ t = 2 ∨ t = 3 := by omega
      rcases z with rfl | rfl | rfl | rfl <;> exact ⟨rfl, ⟨rfl, rfl, rfl⟩, ⟨rfl, rfl⟩, rfl⟩
    refine ⟨55 + 4 * t, cl, Or.inr ⟨t, ht, by omega, rfl, rfl⟩, ⟨56 + 4 * t, 57 + 4 * t, 58 + 4 * t, kt.1, kt.2.1, kt.2.2.1, ⟨by unfold zIk; omega, by unfold zIk; omega, by unfold zIk; omega⟩, fun w hw => ?_⟩, fun w hw => ?_⟩
    · rcases hcl w hw with ⟨q1, q2, -⟩ | ⟨c, f, r, q1, q2, q3, q4, q5, q6, q7, q8, q9⟩
      · exact Or.inl ⟨q1, q2⟩
      · exact Or.inr ⟨c, f, q1, kt.2.2.2, q2, q3, q5, q6, fun i hi => (q9 i hi).1⟩
    · rcases hcl w hw with ⟨q1, -, q2⟩ | ⟨c, f, r, q1, q2, q3, q4, q5, q6, q7, q8, q9⟩
      · exact Or.inl ⟨q1, Or.inr ⟨t, t4, rfl, q2⟩⟩
      · exact Or.inr ⟨c, t, r, q1, t4, rfl, q2, q4, q7, q8, fun i hi => (q9 i hi).2⟩
section RU
variable {d : Nat} {F : Option Value → zS → Prop} {X : zX} {b : Nat × Nat} {K : Nat → Nat → Option Nat} {B : Nat → Nat → Int64} {M : Nat → Nat → Int32} {tx : Nat} {cl : Nat → Option (List (Nat × Nat))} {ru : Int32} {nm : Nat → Int}
theorem sp_ruleText {n7 : Nat} (hK : zKok K) (hc : M 0 7 = nI n7) (hr : zRtx n7 ru tx) (kk : F (some (.ref tx)) (X, b, zLay, K, B, M)) : zCall (d + 1) zm_Boats_ruleText [.ref 0, .int ru] (X, b, zLay, K, B, M) F := by
  rcases hr with ⟨rfl, rfl⟩ | ⟨t, h1, h2, rfl, rfl⟩
  · exact zb_Boats_ruleTextN_0 hK kk
  · exact zb_Boats_ruleTextT_0 hK t hc h1 h2 (fun q => absurd q (by omega)) (fun _ q => absurd q (by omega)) (fun _ _ => kk)
theorem sp_has (hK : zKok K) (hc : zRc M tx cl) {w : Nat} (hw : w < 4) (kk : F (some (.int (zbi (decide ((cl w).isSome = true))))) (X, b, zLay, K, B, M)) : zCall (d + 1) zm_Text_has [.ref tx, .int (nI (3 + w))] (X, b, zLay, K, B, M) F := by
  obtain ⟨fr, to, st, h1, h2, h3, h4, h5⟩ := hc
  refine zb_Text_has_0 h1 (hK _ _ _ h2.1) h3.1 hw rfl (fun q => ?_) (fun q => ?_)
  · rcases h5 w hw with ⟨e, -⟩ | ⟨c, f, e, -, -, g1, g2, -⟩
    · rw [e] at kk; exact kk
    · rw [g2] at q
      exact absurd q (zn1 (by omega))
  · rcases h5 w hw with ⟨e, g⟩ | ⟨c, f, e, -⟩
    · exact absurd g q
    · rw [e] at kk; exact kk
theorem sp_hasClause (hK : zKok K) (hr : zRr M ru cl) {w : Nat} (hw : w < 4) (kk : F (some (.int (zbi (decide ((cl w).isSome = true))))) (X, b, zLay, K, B, M)) : zCall (d + 1) zm_Model_hasClause [.ref 71, .int ru, .int (nI w)] (X, b, zLay, K, B, M) F := by
  rcases hr w hw with ⟨e, q | ⟨t, ht, rfl, q⟩⟩ | ⟨c, t, r, e, ht, rfl, -, g1, g2, -⟩
  · subst q
    rw [e] at kk
    exact zb_Model_hasClauseN_0 w kk
  · rw [e] at kk
    exact zb_Model_hasClauseT_0 hK t w ht hw q (fun _ => kk) (fun z => absurd rfl z)
  · rw [e] at kk
    exact zb_Model_hasClauseT_0 hK t w ht hw g2 (fun z => absurd z (znn (n := 400 * t + r) (by omega) (c := -1) (by decide)).1) (fun _ => kk)
theorem sp_valC (hK : zKok K) (hc : zRc M tx cl) {w : Nat} {c : List (Nat × Nat)} (hw : w < 4) (hcl : cl w = some c) (hn : ∀ j, j < 7 → (zmsk w).testBit j = true → (M 39 j).toInt = nm j ∧ -1000000 ≤ nm j ∧ nm j ≤ 1000000) (kk : ∀ (v : Int32) M', (∀ c, c ≠ 40 → M' c = M c) → v.toInt = zval nm c → F (some (.int v)) (X, b, zLay, K, B, M')) : zCall (d + 4) zm_Judge_valueOf [.ref 38, .ref tx, .int (nI (3 + w))] (X, b, zLay, K, B, M) F := by
  obtain ⟨fr, to, st, h1, h2, h3, h4, h5⟩ := hc
  rcases h5 w hw with ⟨e, -⟩ | ⟨c2, f, e, g0, g1, g2, g3, g4, g5⟩
  · rw [e] at hcl; cases hcl
  · rw [e] at hcl
    cases hcl
    refine zb_Judge_valueOf_0 h1 (hK _ _ _ h2.1) h3.1 hw g3 (by omega) ?_
    exact lp_val (nm := nm) (mask := zmsk w) (bb := zask w) hK h1 (hK _ _ _ h2.2.1) h3.2 (hK _ _ _ h2.2.2) g0 hw g4 g2 (by unfold zIk at h4; omega) hn c f [] (fun _ => 0) M .null rfl rfl (fun j hj => g5 j hj) g1 trivial (by simp) (fun j hj => absurd hj (Nat.not_lt_zero j)) (fun _ _ => rfl) kk
theorem sp_saysR (hK : zKok K) (hr : zRr M ru cl) {w : Nat} {c : List (Nat × Nat)} (hw : w < 4) (hcl : cl w = some c) (hn : ∀ j, j < 7 → (zmsk w).testBit j = true → (M 85 j).toInt = nm j ∧ -1000000 ≤ nm j ∧ nm j ≤ 1000000) (kk : ∀ (v : Int64) B', v.toInt = zval nm c → F (some (.long v)) (X, b, zLay, K, B', M)) : zCall (d + 6) zm_Model_says [.ref 71, .int ru, .int (nI w)] (X, b, zLay, K, B, M) F := by
  rcases hr w hw with ⟨e, -⟩ | ⟨c2, t, r, e, ht, rfl, g1, g2, g3, g4, g5⟩
  · rw [e] at hcl; cases hcl
  · rw [e] at hcl
    cases hcl
    refine zb_Model_says_0 hK t w ht hw g3 (by omega) ?_
    refine zb_Model_saysOf_0 (d := d + 1) (400 * t + r) ?_
    exact lp_says (nm := nm) (mask := zmsk w) (bb := zask w) hK hn c (400 * t + r) [] (fun _ => 0) B .null rfl (by omega) g5 g4 g1 trivial (by simp) (fun j hj => absurd hj (Nat.not_lt_zero j)) (fun v B' hv => zb_Model_says_14 t w v (kk v B' hv))
/-- what is asked of a clause is 0 or 1 -/
theorem zval_01 {c : List (Nat × Nat)} {w : Nat} (hw : zask w = true) (hn : ∀ j, j < 7 → (zmsk w).testBit j = true → -1000000 ≤ nm j ∧ nm j ≤ 1000000) (h : zty (zmsk w) c [] = some [zask w]) : zval nm c = 0 ∨ zval nm c = 1 := by
  have := zval_ok hn h
  rw [hw] at this
  unfold zgo at this
  rw [if_pos rfl] at this
  exact this
theorem zRr_ty {w : Nat} {c : List (Nat × Nat)} (hr : zRr M ru cl) (hw : w < 4) (hcl : cl w = some c) : zty (zmsk w) c [] = some [zask w] := by
  rcases hr w hw with ⟨e, -⟩ | ⟨c2, t, r, e, -, -, g1, -⟩
  · rw [e] at hcl; cases hcl
  · rw [e] at hcl; cases hcl; exact g1
theorem zRc_ty {w : Nat} {c : List (Nat × Nat)} (hr : zRc M tx cl) (hw : w < 4) (hcl : cl w = some c) : zty (zmsk w) c [] = some [zask w] := by
  obtain ⟨fr, to, st, -, -, -, -, h5⟩ := hr
  rcases h5 w hw with ⟨e, -⟩ | ⟨c2, f, e, -, g1, -⟩
  · rw [e] at hcl; cases hcl
  · rw [e] at hcl; cases hcl; exact g1
end RU
