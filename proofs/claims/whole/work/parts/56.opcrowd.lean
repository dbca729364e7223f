/-! ===== crowd ===== -/
section CW
variable {d : Nat} {F : Option Value → zS → Prop} {X : zX} {b : Nat × Nat} {K : Nat → Nat → Option Nat} {B : Nat → Nat → Int64} {M : Nat → Nat → Int32} {n n' : Nat → Nat}
theorem lp_crCA (hK : zKok K) (hSw : zSw K) (h : zIn M n n') {p dd k : Nat} (hp : p < n 0) (hd : dd < 60) (hk : k < 60) (kk : ∀ M', zSc M M' → zTab M' → F (some (.int (nI (zct (fun bt => Nat.beq (zmy (M 72) bt k 60 (n 0) (n 5) (n 3) (zDD (M 72) n) dd) (2 ^ p)) (n 4))))) (X, b, zLay, K, B, M')) : ∀ (m j : Nat) (M1 : Nat → Nat → Int32) (l7 l8 : Value), l7.category = 1 → l8.category = 1 → j + m = n 4 → zSc M M1 → zTab M1 → zEx (zCall (d + 29)) 9 false 1 zc_Boats_crowd F 38 [.ref 0, .int (nI p), .int (nI dd), .int (nI k), .int 0, .int (nI (zct (fun bt => Nat.beq (zmy (M 72) bt k 60 (n 0) (n 5) (n 3) (zDD (M 72) n) dd) (2 ^ p)) j)), .int (nI j), l7, l8] [] (X, b, zLay, K, B, M1) := by
  have hb := h.1.2
  have hSo := (zIn_sn h).2.2.2.2
  have hle := fun j => zct_le (fun bt => Nat.beq (zmy (M 72) bt k 60 (n 0) (n 5) (n 3) (zDD (M 72) n) dd) (2 ^ p)) j
  intro m
  induction m with
  | zero =>
    intro j M1 l7 l8 q7 q8 hj hs ht
    have hj : j = n 4 := by omega
    subst hj
    have h1 := zIn_scr h hs ht
    have q4 := h1.2.2.2.1.2.2.2.2.1.trans h1.1.1.2.2.2.2.1
    exact zb_Boats_crowdA_38 hK p dd k _ (n 4) l7 l8 q7 q8 (by omega) hd hk (by omega) (by omega) (hle _) q4 (fun _ => kk M1 hs ht) (fun q => absurd q (by omega))
  | succ m ih =>
    intro j M1 l7 l8 q7 q8 hj hs ht
    have h1 := zIn_scr h hs ht
    have e72 : M1 72 = M 72 := hs.1 72 rfl (by decide) (by decide) (by decide) (by decide) (by decide) (by decide)
    have q4 := h1.2.2.2.1.2.2.2.2.1.trans h1.1.1.2.2.2.2.1
    refine zb_Boats_crowdA_38 hK p dd k _ j l7 l8 q7 q8 (by omega) hd hk (by omega) (show n 4 ≤ 8 by omega) (hle _) q4 (fun q => absurd q (by omega)) (fun _ => ?_)
    refine sp_tr (d := d + 20) (u := 59) hK h1 ⟨by omega, hk, by omega⟩ (fun M2 j2 => ?_)
    obtain ⟨s2, t2⟩ := zJc_sc j2
    have hX := j2.2.2.2.2.2.2.2.1
    have hv := j2.2.2.2.2.2.2.2.2.2 dd hd
    rw [zpl_my hX.2.2.2.2.1 hX.2.2.2.2.2.2.2.2.1, zmy_u hX.2.2.2.2.1 (by omega) (show 59 ≤ 60 by omega), e72] at hv
    have e := fun l7 l8 q7 q8 => ih (j + 1) M2 l7 l8 q7 q8 (by omega) (zSc_tr hs s2) t2
    have st : zct (fun bt => Nat.beq (zmy (M 72) bt k 60 (n 0) (n 5) (n 3) (zDD (M 72) n) dd) (2 ^ p)) (j + 1) = zct (fun bt => Nat.beq (zmy (M 72) bt k 60 (n 0) (n 5) (n 3) (zDD (M 72) n) dd) (2 ^ p)) j + ((fun bt => Nat.beq (zmy (M 72) bt k 60 (n 0) (n 5) (n 3) (zDD (M 72) n) dd) (2 ^ p)) j).toNat := rfl
    rw [st] at e
    have hv2 : zmy (M 72) j k 60 (n 0) (n 5) (n 3) (zDD (M 72) n) dd < 1024 := zp1024 (zmy_lt dd) (show n 0 ≤ 10 by omega)
    have hpw : 2 ^ p < 1024 := zp2 (by omega)
    refine zb_Boats_crowdA_63 (nb := n 4) hK p dd k _ j l7 l8 q7 q8 (by omega) hd hk (by omega) (by omega) (hle _) hv hv2 hpw (fun q => ?_) (fun q => ?_)
    · have e := e (.int (nI (zmy (M 72) j k 60 (n 0) (n 5) (n 3) (zDD (M 72) n) dd))) (.int 0) rfl rfl
      have z : Nat.beq (zmy (M 72) j k 60 (n 0) (n 5) (n 3) (zDD (M 72) n) dd) (2 ^ p) = false := zbeq_f q
      rw [show ((fun bt => Nat.beq (zmy (M 72) bt k 60 (n 0) (n 5) (n 3) (zDD (M 72) n) dd) (2 ^ p)) j) = false from z] at e
      exact e
    · have e := e (.int (nI (zmy (M 72) j k 60 (n 0) (n 5) (n 3) (zDD (M 72) n) dd))) (.int 1) rfl rfl
      have z : Nat.beq (zmy (M 72) j k 60 (n 0) (n 5) (n 3) (zDD (M 72) n) dd) (2 ^ p) = true := by rw [q]; exact Nat.beq_refl _
      rw [show ((fun bt => Nat.beq (zmy (M 72) bt k 60 (n 0) (n 5) (n 3) (zDD (M 72) n) dd) (2 ^ p)) j) = true from z] at e
      exact e
theorem lp_crMA (hK : zKok K) (hSw : zSw K) (h : zIn M n n') {p dd k : Nat} (hp : p < n 0) (hd : dd < 60) (hk : k < 60) (kk : ∀ M', zSc M M' → zTab M' → F (some (.int (nI (zct (fun bt => Nat.beq (zmy (M 72) bt k 60 (n 0) (n 5) (n 3) (zDD (M 72) n) dd) (2 ^ p)) (n 4))))) (X, b, zLay, K, B, M')) : ∀ (m j : Nat) (M1 : Nat → Nat → Int32) (l7 : Value), l7.category = 1 → j + m = n 4 → zSc M M1 → zTab M1 → zEx (zCall (d + 29)) 10 false 1 zc_Model_crowd F 40 [.ref 71, .int (nI p), .int (nI dd), .int (nI k), .int 0, .int (nI (zct (fun bt => Nat.beq (zmy (M 72) bt k 60 (n 0) (n 5) (n 3) (zDD (M 72) n) dd) (2 ^ p)) j)), .int (nI j), l7] [] (X, b, zLay, K, B, M1) := by
  have hb := h.1.2
  have hle := fun j => zct_le (fun bt => Nat.beq (zmy (M 72) bt k 60 (n 0) (n 5) (n 3) (zDD (M 72) n) dd) (2 ^ p)) j
  intro m
  induction m with
  | zero =>
    intro j M1 l7 q7 hj hs ht
    have hj : j = n 4 := by omega
    subst hj
    have h1 := zIn_scr h hs ht
    exact zb_Model_crowdA_40 hK p dd k _ (n 4) l7 q7 (by omega) hd hk (by omega) (by omega) (hle _) h1.1.1.2.2.2.2.1 (fun _ => kk M1 hs ht) (fun q => absurd q (by omega))
  | succ m ih =>
    intro j M1 l7 q7 hj hs ht
    have h1 := zIn_scr h hs ht
    have e72 : M1 72 = M 72 := hs.1 72 rfl (by decide) (by decide) (by decide) (by decide) (by decide) (by decide)
    refine zb_Model_crowdA_40 hK p dd k _ j l7 q7 (by omega) hd hk (by omega) (show n 4 ≤ 8 by omega) (hle _) h1.1.1.2.2.2.2.1 (fun q => absurd q (by omega)) (fun _ => ?_)
    refine sp_Mmay (d := d + 9) hK h1 (by omega) hd hk (fun M2 s2 t2 => ?_)
    rw [e72]
    have e := fun l7 q7 => ih (j + 1) M2 l7 q7 (by omega) (zSc_tr hs s2) t2
    have st : zct (fun bt => Nat.beq (zmy (M 72) bt k 60 (n 0) (n 5) (n 3) (zDD (M 72) n) dd) (2 ^ p)) (j + 1) = zct (fun bt => Nat.beq (zmy (M 72) bt k 60 (n 0) (n 5) (n 3) (zDD (M 72) n) dd) (2 ^ p)) j + ((fun bt => Nat.beq (zmy (M 72) bt k 60 (n 0) (n 5) (n 3) (zDD (M 72) n) dd) (2 ^ p)) j).toNat := rfl
    rw [st] at e
    have hv2 : zmy (M 72) j k 60 (n 0) (n 5) (n 3) (zDD (M 72) n) dd < 1024 := zp1024 (zmy_lt dd) (show n 0 ≤ 10 by omega)
    have hpw : 2 ^ p < 1024 := zp2 (by omega)
    refine zb_Model_crowdA_59 (nb := n 4) p dd k _ j l7 _ q7 (by omega) hd hk (by omega) (by omega) (hle _) hv2 hpw (fun q => ?_) (fun q => ?_)
    · have e := e (.int (nI (zmy (M 72) j k 60 (n 0) (n 5) (n 3) (zDD (M 72) n) dd))) rfl
      have z : Nat.beq (zmy (M 72) j k 60 (n 0) (n 5) (n 3) (zDD (M 72) n) dd) (2 ^ p) = true := by rw [q]; exact Nat.beq_refl _
      rw [show ((fun bt => Nat.beq (zmy (M 72) bt k 60 (n 0) (n 5) (n 3) (zDD (M 72) n) dd) (2 ^ p)) j) = true from z] at e
      exact e
    · have e := e (.int (nI (zmy (M 72) j k 60 (n 0) (n 5) (n 3) (zDD (M 72) n) dd))) rfl
      have z : Nat.beq (zmy (M 72) j k 60 (n 0) (n 5) (n 3) (zDD (M 72) n) dd) (2 ^ p) = false := zbeq_f q
      rw [show ((fun bt => Nat.beq (zmy (M 72) bt k 60 (n 0) (n 5) (n 3) (zDD (M 72) n) dd) (2 ^ p)) j) = false from z] at e
      exact e
theorem lp_crCB (hK : zKok K) (hSw : zSw K) (h : zIn M n n') {p dd k : Nat} (hp : p < n 0) (hd : dd < 60) (hk : k < 60) (kk : ∀ M', zSc M M' → zTab M' → F (some (.int (nI (zct (fun bt => (zmy (M 72) bt k 60 (n 0) (n 5) (n 3) (zDD (M 72) n) dd).testBit p) (n 4))))) (X, b, zLay, K, B, M')) : ∀ (m j : Nat) (M1 : Nat → Nat → Int32) (l7 l8 : Value), l7.category = 1 → l8.category = 1 → j + m = n 4 → zSc M M1 → zTab M1 → zEx (zCall (d + 29)) 9 false 1 zc_Boats_crowd F 38 [.ref 0, .int (nI p), .int (nI dd), .int (nI k), .int 1, .int (nI (zct (fun bt => (zmy (M 72) bt k 60 (n 0) (n 5) (n 3) (zDD (M 72) n) dd).testBit p) j)), .int (nI j), l7, l8] [] (X, b, zLay, K, B, M1) := by
  have hb := h.1.2
  have hSo := (zIn_sn h).2.2.2.2
  have hle := fun j => zct_le (fun bt => (zmy (M 72) bt k 60 (n 0) (n 5) (n 3) (zDD (M 72) n) dd).testBit p) j
  intro m
  induction m with
  | zero =>
    intro j M1 l7 l8 q7 q8 hj hs ht
    have hj : j = n 4 := by omega
    subst hj
    have h1 := zIn_scr h hs ht
    have q4 := h1.2.2.2.1.2.2.2.2.1.trans h1.1.1.2.2.2.2.1
    exact zb_Boats_crowdB_38 hK p dd k _ (n 4) l7 l8 q7 q8 (by omega) hd hk (by omega) (by omega) (hle _) q4 (fun _ => kk M1 hs ht) (fun q => absurd q (by omega))
  | succ m ih =>
    intro j M1 l7 l8 q7 q8 hj hs ht
    have h1 := zIn_scr h hs ht
    have e72 : M1 72 = M 72 := hs.1 72 rfl (by decide) (by decide) (by decide) (by decide) (by decide) (by decide)
    have q4 := h1.2.2.2.1.2.2.2.2.1.trans h1.1.1.2.2.2.2.1
    refine zb_Boats_crowdB_38 hK p dd k _ j l7 l8 q7 q8 (by omega) hd hk (by omega) (show n 4 ≤ 8 by omega) (hle _) q4 (fun q => absurd q (by omega)) (fun _ => ?_)
    refine sp_tr (d := d + 20) (u := 59) hK h1 ⟨by omega, hk, by omega⟩ (fun M2 j2 => ?_)
    obtain ⟨s2, t2⟩ := zJc_sc j2
    have hX := j2.2.2.2.2.2.2.2.1
    have hv := j2.2.2.2.2.2.2.2.2.2 dd hd
    rw [zpl_my hX.2.2.2.2.1 hX.2.2.2.2.2.2.2.2.1, zmy_u hX.2.2.2.2.1 (by omega) (show 59 ≤ 60 by omega), e72] at hv
    have e := fun l7 l8 q7 q8 => ih (j + 1) M2 l7 l8 q7 q8 (by omega) (zSc_tr hs s2) t2
    have st : zct (fun bt => (zmy (M 72) bt k 60 (n 0) (n 5) (n 3) (zDD (M 72) n) dd).testBit p) (j + 1) = zct (fun bt => (zmy (M 72) bt k 60 (n 0) (n 5) (n 3) (zDD (M 72) n) dd).testBit p) j + ((fun bt => (zmy (M 72) bt k 60 (n 0) (n 5) (n 3) (zDD (M 72) n) dd).testBit p) j).toNat := rfl
    rw [st] at e
    have hv2 : zmy (M 72) j k 60 (n 0) (n 5) (n 3) (zDD (M 72) n) dd < 1024 := zp1024 (zmy_lt dd) (show n 0 ≤ 10 by omega)
    have hpw : 2 ^ p < 1024 := zp2 (by omega)
    refine zb_Boats_crowdB_63 (nb := n 4) hK p dd k _ j l7 l8 q7 q8 (by omega) hd hk (by omega) (by omega) (hle _) hv hv2 hpw (fun q => ?_) (fun q => ?_)
    · have e := e (.int (nI (zmy (M 72) j k 60 (n 0) (n 5) (n 3) (zDD (M 72) n) dd))) (.int (zbi (decide ((zmy (M 72) j k 60 (n 0) (n 5) (n 3) (zDD (M 72) n) dd).testBit p = true)))) rfl rfl
      rw [show ((fun bt => (zmy (M 72) bt k 60 (n 0) (n 5) (n 3) (zDD (M 72) n) dd).testBit p) j) = false from eq_false_of_ne_true q] at e
      exact e
    · have e := e (.int (nI (zmy (M 72) j k 60 (n 0) (n 5) (n 3) (zDD (M 72) n) dd))) (.int (zbi (decide ((zmy (M 72) j k 60 (n 0) (n 5) (n 3) (zDD (M 72) n) dd).testBit p = true)))) rfl rfl
      rw [show ((fun bt => (zmy (M 72) bt k 60 (n 0) (n 5) (n 3) (zDD (M 72) n) dd).testBit p) j) = true from q] at e
      exact e
theorem lp_crMB (hK : zKok K) (hSw : zSw K) (h : zIn M n n') {p dd k : Nat} (hp : p < n 0) (hd : dd < 60) (hk : k < 60) (kk : ∀ M', zSc M M' → zTab M' → F (some (.int (nI (zct (fun bt => (zmy (M 72) bt k 60 (n 0) (n 5) (n 3) (zDD (M 72) n) dd).testBit p) (n 4))))) (X, b, zLay, K, B, M')) : ∀ (m j : Nat) (M1 : Nat → Nat → Int32) (l7 : Value), l7.category = 1 → j + m = n 4 → zSc M M1 → zTab M1 → zEx (zCall (d + 29)) 10 false 1 zc_Model_crowd F 40 [.ref 71, .int (nI p), .int (nI dd), .int (nI k), .int 1, .int (nI (zct (fun bt => (zmy (M 72) bt k 60 (n 0) (n 5) (n 3) (zDD (M 72) n) dd).testBit p) j)), .int (nI j), l7] [] (X, b, zLay, K, B, M1) := by
  have hb := h.1.2
  have hle := fun j => zct_le (fun bt => (zmy (M 72) bt k 60 (n 0) (n 5) (n 3) (zDD (M 72) n) dd).testBit p) j
  intro m
  induction m with
  | zero =>
    intro j M1 l7 q7 hj hs ht
    have hj : j = n 4 := by omega
    subst hj
    have h1 := zIn_scr h hs ht
    exact zb_Model_crowdB_40 hK p dd k _ (n 4) l7 q7 (by omega) hd hk (by omega) (by omega) (hle _) h1.1.1.2.2.2.2.1 (fun _ => kk M1 hs ht) (fun q => absurd q (by omega))
  | succ m ih =>
    intro j M1 l7 q7 hj hs ht
    have h1 := zIn_scr h hs ht
    have e72 : M1 72 = M 72 := hs.1 72 rfl (by decide) (by decide) (by decide) (by decide) (by decide) (by decide)
    refine zb_Model_crowdB_40 hK p dd k _ j l7 q7 (by omega) hd hk (by omega) (show n 4 ≤ 8 by omega) (hle _) h1.1.1.2.2.2.2.1 (fun q => absurd q (by omega)) (fun _ => ?_)
    refine sp_Mmay (d := d + 9) hK h1 (by omega) hd hk (fun M2 s2 t2 => ?_)
    rw [e72]
    have e := fun l7 q7 => ih (j + 1) M2 l7 q7 (by omega) (zSc_tr hs s2) t2
    have st : zct (fun bt => (zmy (M 72) bt k 60 (n 0) (n 5) (n 3) (zDD (M 72) n) dd).testBit p) (j + 1) = zct (fun bt => (zmy (M 72) bt k 60 (n 0) (n 5) (n 3) (zDD (M 72) n) dd).testBit p) j + ((fun bt => (zmy (M 72) bt k 60 (n 0) (n 5) (n 3) (zDD (M 72) n) dd).testBit p) j).toNat := rfl
    rw [st] at e
    have hv2 : zmy (M 72) j k 60 (n 0) (n 5) (n 3) (zDD (M 72) n) dd < 1024 := zp1024 (zmy_lt dd) (show n 0 ≤ 10 by omega)
    have hpw : 2 ^ p < 1024 := zp2 (by omega)
    refine zb_Model_crowdB_59 (nb := n 4) p dd k _ j l7 _ q7 (by omega) hd hk (by omega) (by omega) (hle _) hv2 hpw (fun q => ?_) (fun q => ?_)
    · have e := e (.int (nI (zmy (M 72) j k 60 (n 0) (n 5) (n 3) (zDD (M 72) n) dd))) rfl
      rw [show ((fun bt => (zmy (M 72) bt k 60 (n 0) (n 5) (n 3) (zDD (M 72) n) dd).testBit p) j) = false from q] at e
      exact e
    · have e := e (.int (nI (zmy (M 72) j k 60 (n 0) (n 5) (n 3) (zDD (M 72) n) dd))) rfl
      rw [show ((fun bt => (zmy (M 72) bt k 60 (n 0) (n 5) (n 3) (zDD (M 72) n) dd).testBit p) j) = true from q] at e
      exact e
end CW
theorem zop_crowd (X : zX) (a0 a1 a2 a3 : Int32) : zOp zInv X zm_Boats_crowd zm_Model_crowd [.int a0, .int a1, .int a2, .int a3] := by
  refine zop_of (fun d K B M n n' hK hSw h => ?_)
  have hT := zIn_tab h
  have hb := h.1.2
  by_cases hv : (0 ≤ a0.toInt ∧ a0.toInt < n 0) ∧ (0 ≤ a1.toInt ∧ a1.toInt < 60) ∧ (0 ≤ a2.toInt ∧ a2.toInt < 60) ∧ (a3.toInt = 0 ∨ a3.toInt = 1)
  · obtain ⟨p, hp, rfl⟩ := znat (x := a0) (n := n 0) hv.1.1 hv.1.2 (by omega)
    obtain ⟨dd, hd, rfl⟩ := znat (x := a1) (n := 60) hv.2.1.1 hv.2.1.2 (by decide)
    obtain ⟨k, hk, rfl⟩ := znat (x := a2) (n := 60) hv.2.2.1.1 hv.2.2.1.2 (by decide)
    rcases hv.2.2.2 with h3 | h3
    · have e3 : a3 = 0 := Int32.toInt_inj.mp h3
      subst e3
      refine ⟨nI (zct (fun bt => Nat.beq (zmy (M 72) bt k 60 (n 0) (n 5) (n 3) (zDD (M 72) n) dd) (2 ^ p)) (n 4)), fun F kk => ?_, fun K2 B2 M2 hK2 hS2 hs h2 F kk => ?_⟩
      · refine zb_Boats_crowdA_0 (d := d + 170) hK p dd k (zIn_ck h).1 (by omega) hp hd hk ?_
        exact lp_crCA (d := d + 170) hK hSw h hp hd hk (fun M1 s1 t1 => kk K B M1 hK hSw s1 t1) (n 4) 0 M .null .null rfl rfl (by omega) (zSc_rfl M) hT
      · have e72 : M2 72 = M 72 := hs.1 72 rfl (by decide) (by decide) (by decide) (by decide) (by decide) (by decide)
        refine zb_Model_crowdA_0 (d := d + 170) hK2 p dd k h2.1.1.1 (by omega) hp hd hk ?_
        refine lp_crMA (d := d + 170) hK2 hS2 h2 hp hd hk (fun M1 s1 t1 => ?_) (n 4) 0 M2 .null rfl (by omega) (zSc_rfl M2) (zIn_tab h2)
        rw [e72]
        exact kk K2 B2 M1 hK2 hS2 s1 t1
    · have e3 : a3 = 1 := Int32.toInt_inj.mp h3
      subst e3
      refine ⟨nI (zct (fun bt => (zmy (M 72) bt k 60 (n 0) (n 5) (n 3) (zDD (M 72) n) dd).testBit p) (n 4)), fun F kk => ?_, fun K2 B2 M2 hK2 hS2 hs h2 F kk => ?_⟩
      · refine zb_Boats_crowdB_0 (d := d + 170) hK p dd k (zIn_ck h).1 (by omega) hp hd hk ?_
        exact lp_crCB (d := d + 170) hK hSw h hp hd hk (fun M1 s1 t1 => kk K B M1 hK hSw s1 t1) (n 4) 0 M .null .null rfl rfl (by omega) (zSc_rfl M) hT
      · have e72 : M2 72 = M 72 := hs.1 72 rfl (by decide) (by decide) (by decide) (by decide) (by decide) (by decide)
        refine zb_Model_crowdB_0 (d := d + 170) hK2 p dd k h2.1.1.1 (by omega) hp hd hk ?_
        refine lp_crMB (d := d + 170) hK2 hS2 h2 hp hd hk (fun M1 s1 t1 => ?_) (n 4) 0 M2 .null rfl (by omega) (zSc_rfl M2) (zIn_tab h2)
        rw [e72]
        exact kk K2 B2 M1 hK2 hS2 s1 t1
  · refine ⟨-1, zop_no hK hSw hT (fun F kk => ?_), fun K2 B2 M2 hK2 hS2 hs h2 => zop_no hK2 hS2 (zIn_tab h2) (fun F kk => ?_)⟩
    · obtain ⟨⟨⟨c0, c1, c2, c3, c4, c5, c6, c7⟩, b0, b1, b2, b3, b4, b5, b6, b7⟩, -, -, ⟨q0, q1, q2, q3, q4, q5, q6, q7⟩, -⟩ := id h
      have t0 : (M 1 1).toInt = n 0 := by rw [q0.trans c0, znI (by omega)]
      have u0 : (M 72 0).toInt = n 0 := by rw [c0, znI (by omega)]
      have v0 : (M 72 0 - 1).toInt = (n 0 : Int) - 1 := by rw [c0, zsub1 (by omega)]
      exact zb_Boats_crowdR_0 (d := d + 170) hK _ _ _ _ (fun g0 => kk) (fun g0 g1 => kk) (fun g0 g1 g2 => kk) (fun g0 g1 g2 g3 => (by exfalso; simp only [zlt, zle, zeq, zl0, zlm, zl1, zl3, zl4, zl8, zl9, zl10, zl15, zl20, zl30, zl59, zl60, t0, u0, v0] at g0 g1 g2 g3 hv; omega)) (fun g0 g1 g2 g3 => kk)
    · obtain ⟨⟨⟨c0, c1, c2, c3, c4, c5, c6, c7⟩, b0, b1, b2, b3, b4, b5, b6, b7⟩, -, -, ⟨q0, q1, q2, q3, q4, q5, q6, q7⟩, -⟩ := id h2
      have t0 : (M2 1 1).toInt = n 0 := by rw [q0.trans c0, znI (by omega)]
      have u0 : (M2 72 0).toInt = n 0 := by rw [c0, znI (by omega)]
      have v0 : (M2 72 0 - 1).toInt = (n 0 : Int) - 1 := by rw [c0, zsub1 (by omega)]
      exact zb_Model_crowdR_0 (d := d + 170) hK2 _ _ _ _ (fun g0 => kk) (fun g0 g1 => kk) (fun g0 g1 g2 => kk) (fun g0 g1 g2 g3 => (by exfalso; simp only [zlt, zle, zeq, zl0, zlm, zl1, zl3, zl4, zl8, zl9, zl10, zl15, zl20, zl30, zl59, zl60, t0, u0, v0] at g0 g1 g2 g3 hv; omega)) (fun g0 g1 g2 g3 => kk)
