/-! ===== asked of a boat that has journeys ===== -/
def zAsk (A : Nat → Int32) (n : Nat → Nat) (a0 a1 : Int32) : Prop := ∃ bt k, a0 = nI bt ∧ a1 = nI k ∧ bt < n 4 ∧ k < 60 ∧ zpos A bt k 60 (n 0) (n 5) (n 3) (zDD A n) = true
section AK
variable {d : Nat} {F : Option Value → zS → Prop} {X : zX} {b : Nat × Nat} {K : Nat → Nat → Option Nat} {B : Nat → Nat → Int64} {M : Nat → Nat → Int32} {n n' : Nat → Nat}
theorem sp_hasJA (hK : zKok K) (h : zIn M n n') (a0 a1 : Int32) (k0 : ¬ zAsk (M 72) n a0 a1 → ∀ M', zSc M M' → zTab M' → F (some (.int 0)) (X, b, zLay, K, B, M')) (k1 : ∀ bt k M', a0 = nI bt → a1 = nI k → bt < n 4 → k < 60 → zpos (M 72) bt k 60 (n 0) (n 5) (n 3) (zDD (M 72) n) = true → zJc (M 72) M M' bt k 59 (n 0) (n 1) (n 2) (n 3) (n 5) (zDD (M 72) n) → F (some (.int 1)) (X, b, zLay, K, B, M')) : zCall (d + 10) zm_Boats_hasJourneys [.ref 0, .int a0, .int a1] (X, b, zLay, K, B, M) F := by
  have hb := h.1.2
  obtain ⟨⟨⟨c0, c1, c2, c3, c4, c5, c6, c7⟩, b0, b1, b2, b3, b4, b5, b6, b7⟩, -, -, ⟨q0, q1, q2, q3, q4, q5, q6, q7⟩, -⟩ := id h
  have t4 : (M 13 0).toInt = n 4 := by rw [q4.trans c4, znI (by omega)]
  by_cases hw : (0 ≤ a0 ∧ a0 < M 13 0) ∧ (0 ≤ a1 ∧ a1 < 60)
  · simp only [zlt, zle, zl0, zl60, t4] at hw
    obtain ⟨bt, h1, rfl⟩ := znat (x := a0) (n := n 4) hw.1.1 hw.1.2 (by omega)
    obtain ⟨k, hk, rfl⟩ := znat (x := a1) (n := 60) hw.2.1 hw.2.2 (by decide)
    refine sp_hasJ hK h h1 hk (fun M1 j1 => ?_)
    obtain ⟨s1, t1⟩ := zJc_sc j1
    have u6 := zpos_u (bt := bt) (k := k) (pc := n 3) (D := zDD (M 72) n) (zIn_sn h).2.2.2.2 (show 59 ≤ 59 by omega) (show 59 ≤ 60 by omega)
    rw [u6]
    cases p1 : zpos (M 72) bt k 60 (n 0) (n 5) (n 3) (zDD (M 72) n)
    · refine k0 ?_ M1 s1 t1
      rintro ⟨bt2, k2, e1, e2, l1, l2, p2⟩
      have e1 := (nI_eq (by omega) (by omega)).mp e1
      have e2 := (nI_eq (by omega) (by omega)).mp e2
      rw [← e1, ← e2, p1] at p2
      exact absurd p2 (by decide)
    · exact k1 bt k M1 rfl rfl h1 hk p1 j1
  · refine sp_hasJ0 hK hw (k0 ?_ M (zSc_rfl M) (zIn_tab h))
    rintro ⟨bt, k, rfl, rfl, l1, l2, -⟩
    exact hw ⟨zy_lt (q4.trans c4) l1 (by omega), zy_day l2⟩
theorem sp_canAskA (hK : zKok K) (h : zIn M n n') (a0 ru a1 : Int32) (k0 : ¬ (zAsk (M 72) n a0 a1 ∧ ((-1) ≤ ru.toInt ∧ ru.toInt < n 7)) → ∀ M', zSc M M' → zTab M' → F (some (.int 0)) (X, b, zLay, K, B, M')) (k1 : ∀ bt k M', a0 = nI bt → a1 = nI k → bt < n 4 → k < 60 → ((-1) ≤ ru.toInt ∧ ru.toInt < n 7) → zpos (M 72) bt k 60 (n 0) (n 5) (n 3) (zDD (M 72) n) = true → zJr M M' bt k 60 (n 0) (n 5) (n 3) (zDD (M 72) n) → F (some (.int 1)) (X, b, zLay, K, B, M')) : zCall (d + 10) zm_Model_canAsk [.ref 71, .int a0, .int ru, .int a1] (X, b, zLay, K, B, M) F := by
  have hb := h.1.2
  obtain ⟨⟨⟨c0, c1, c2, c3, c4, c5, c6, c7⟩, b0, b1, b2, b3, b4, b5, b6, b7⟩, -⟩ := id h
  have v4 : (M 72 4 - 1).toInt = (n 4 : Int) - 1 := by rw [c4, zsub1 (by omega)]
  have v7 : (M 72 7 - 1).toInt = (n 7 : Int) - 1 := by rw [c7, zsub1 (by omega)]
  by_cases hw : (0 ≤ a0 ∧ a0 ≤ M 72 4 - 1) ∧ ((-1) ≤ ru ∧ ru ≤ M 72 7 - 1) ∧ (0 ≤ a1 ∧ a1 ≤ 59)
  · have hw' := hw
    simp only [zle, zl0, zl59, zlm, v4, v7] at hw'
    obtain ⟨bt, h1, rfl⟩ := znat (x := a0) (n := n 4) hw'.1.1 (by omega) (by omega)
    obtain ⟨k, hk, rfl⟩ := znat (x := a1) (n := 60) hw'.2.2.1 (by omega) (by decide)
    refine sp_canAsk hK h h1 hw.2.1 hk (fun M1 j1 => ?_)
    obtain ⟨s1, t1⟩ := zJr_sc j1
    cases p1 : zpos (M 72) bt k 60 (n 0) (n 5) (n 3) (zDD (M 72) n)
    · refine k0 ?_ M1 s1 (t1 (zIn_tab h))
      rintro ⟨⟨bt2, k2, e1, e2, l1, l2, p2⟩, -⟩
      have e1 := (nI_eq (by omega) (by omega)).mp e1
      have e2 := (nI_eq (by omega) (by omega)).mp e2
      rw [← e1, ← e2, p1] at p2
      exact absurd p2 (by decide)
    · exact k1 bt k M1 rfl rfl h1 hk ⟨hw'.2.1.1, by omega⟩ p1 j1
  · refine sp_canAsk0 hK hw (k0 ?_ M (zSc_rfl M) (zIn_tab h))
    rintro ⟨⟨bt, k, rfl, rfl, l1, l2, -⟩, r1, r2⟩
    refine hw ⟨zy_le c4 l1 (by omega), ?_, zy_day9 l2⟩
    simp only [zle, zlm, v7]
    exact ⟨r1, by omega⟩
end AK
/-- the class's journeys, ready to be settled again -/
theorem zJc_si {M M1 : Nat → Nat → Int32} {n n' : Nat → Nat} {bt k : Nat} (h : zIn M n n') (hp : zpos (M 72) bt k 60 (n 0) (n 5) (n 3) (zDD (M 72) n) = true) (j : zJc (M 72) M M1 bt k 59 (n 0) (n 1) (n 2) (n 3) (n 5) (zDD (M 72) n)) : zSi (M 72) M1 (n 0) (n 1) (n 2) (n 3) (n 5) (zDD (M 72) n) (zfi (M 72) bt k 60 (n 5)) (zla (M 72) bt k 60 (n 5) - 1) (zal (M 72) (n 0) bt k 60 (n 5)) := by
  have hSo := (zIn_sn h).2.2.2.2
  obtain ⟨x1, x2, x3, x4, x5, x6⟩ := zJc_n h j
  obtain ⟨f1, f2, f3, f4, f5⟩ := zpos_fg hSo hp
  have fl := zfl (bt := bt) (k := k) (u := 60) hSo
  refine ⟨by rw [x1, zfI_n f1], by rw [x2, f5], ⟨f2, f3⟩, ?_, fun e r h1 h2 h3 => ?_, x6, fun e => zal_lt _ _ _ _ _ _ _⟩
  · rw [x5 _ (by omega)]
    unfold zav
    rw [(fl.2.2.2.1 f1).2.1, cond_true]
  · rw [x5 e (by omega)]
    exact zav_and h3
theorem zop_look (X : zX) (a0 a1 a2 a3 : Int32) : zOp zInv X zm_Boats_look zm_Model_look [.int a0, .int a1, .int a2, .int a3] := by
  refine zop_of (fun d K B M n n' hK hSw h => ?_)
  have hT := zIn_tab h
  have hb := h.1.2
  have hSo := (zIn_sn h).2.2.2.2
  by_cases hv : zAsk (M 72) n a0 a2 ∧ (0 ≤ a1.toInt ∧ a1.toInt < 60) ∧ (a3 = 0 ∨ a3 = 1)
  · obtain ⟨⟨bt, k, rfl, rfl, h1, hk, hp⟩, hv1, hv3⟩ := hv
    obtain ⟨dd, hd, rfl⟩ := znat (x := a1) (n := 60) hv1.1 hv1.2 (by decide)
    obtain ⟨f1, f2, f3, f4, f5⟩ := zpos_fg hSo hp
    have fl := zfl (bt := bt) (k := k) (u := 60) hSo
    have ml : zmy (M 72) bt k 60 (n 0) (n 5) (n 3) (zDD (M 72) n) dd < 2 ^ (n 0) := zmy_lt dd
    have vl : ∀ p, (zlv (n 0) (n 3) (zDD (M 72) n) (zal (M 72) (n 0) bt k 60 (n 5)) (zfi (M 72) bt k 60 (n 5)) (zla (M 72) bt k 60 (n 5) - 1) dd p).toInt < 100000 := fun p => zlv_lt f3 p
    have or_ := zlkS_or (cand := zmy (M 72) bt k 60 (n 0) (n 5) (n 3) (zDD (M 72) n) dd) (v := zlv (n 0) (n 3) (zDD (M 72) n) (zal (M 72) (n 0) bt k 60 (n 5)) (zfi (M 72) bt k 60 (n 5)) (zla (M 72) bt k 60 (n 5) - 1) dd) vl (n 0) (by omega)
    refine ⟨if zfi (M 72) bt k 60 (n 5) ≤ dd ∧ dd ≤ zla (M 72) bt k 60 (n 5) - 1 then (if a3 = 0 then (zlkS (zmy (M 72) bt k 60 (n 0) (n 5) (n 3) (zDD (M 72) n) dd) (zlv (n 0) (n 3) (zDD (M 72) n) (zal (M 72) (n 0) bt k 60 (n 5)) (zfi (M 72) bt k 60 (n 5)) (zla (M 72) bt k 60 (n 5) - 1) dd) (n 0)).1 else (zlkS (zmy (M 72) bt k 60 (n 0) (n 5) (n 3) (zDD (M 72) n) dd) (zlv (n 0) (n 3) (zDD (M 72) n) (zal (M 72) (n 0) bt k 60 (n 5)) (zfi (M 72) bt k 60 (n 5)) (zla (M 72) bt k 60 (n 5) - 1) dd) (n 0)).2) else -1, fun F kk => ?_, fun K2 B2 M2 hK2 hS2 hs h2' F kk => ?_⟩
    · refine zb_Boats_lookR_0 (d := d + 170) _ _ _ _ (fun q => absurd hv3 q) (fun _ q => absurd (zy_day hd) q) (fun _ _ => ?_)
      refine sp_hasJ (d := d + 189) hK h h1 hk (fun M1 j1 => ?_)
      obtain ⟨s1, t1⟩ := zJc_sc j1
      have u6 := zpos_u (bt := bt) (k := k) (pc := n 3) (D := zDD (M 72) n) hSo (show 59 ≤ 59 by omega) (show 59 ≤ 60 by omega)
      rw [u6, hp]
      obtain ⟨x1, x2, x3, x4, x5, x6⟩ := zJc_n h j1
      refine zb_Boats_lookP_33 (d := d + 170) hK _ dd _ _ 1 hd (x4 dd hd) ?_
      refine lp_lookC (d := d + 170) (A := M 72) (np := n 0) (nw := n 1) (ns := n 2) (pc := n 3) (m := n 5) (D := zDD (M 72) n) (f := zfi (M 72) bt k 60 (n 5)) (g := zla (M 72) bt k 60 (n 5) - 1) (dd := dd) (cand := zmy (M 72) bt k 60 (n 0) (n 5) (n 3) (zDD (M 72) n) dd) (al := zal (M 72) (n 0) bt k 60 (n 5)) hK (fun _ => zJc_si h hp j1) x6.1.1 (by omega) f3 hd (zp1024 ml (by omega)) (fun p hp => ?_) (fun hne e p hp => ?_) (fun p hp r hr => ?_) (zal_lt _ _ _ _ _ _ _) (fun M3 w1 => ?_) (n 0) 0 M1 .null .null .null rfl rfl rfl (by omega) (fun _ _ _ => rfl) (fun _ _ => rfl)
      · rw [x5 dd hd]; exact zav_and (zp2lt hp)
      · rw [x5 dd hd]
        unfold zav
        rw [e, (fl.2.2.2.1 f1).2.1, cond_true]
        exact zb_not p hp _ (zp1024 (zal_lt _ _ _ _ _ _ _) (by omega))
      · rw [x5 dd hd]
        unfold zav
        cases e : zsd (M 72) bt k 60 (n 5) dd
        · rw [cond_false, zb_m1, Int32.and_comm, zb_not p hp r (zp1024 hr (by omega)), zal_no e]
          congr 1
          rw [Nat.and_comm (2 ^ n 0 - 1) (1023 - 2 ^ p), Nat.and_assoc, zand_full hr, Nat.and_comm]
        · rw [cond_true, zb_not p hp _ (zp1024 (zal_lt _ _ _ _ _ _ _) (by omega)), zb_and]
      · have s3 : zSc M1 M3 := zSc_w (fun c hc => w1 c (fun q => by rw [q] at hc; exact absurd hc (by decide)) (fun q => by rw [q] at hc; exact absurd hc (by decide)))
        have t3 : zTab M3 := zTab_w (fun c _ _ => w1 c (by omega) (by omega)) t1
        have e := kk K B M3 hK hSw (zSc_tr s1 s3) t3
        by_cases hin : zfi (M 72) bt k 60 (n 5) ≤ dd ∧ dd ≤ zla (M 72) bt k 60 (n 5) - 1
        · rw [if_pos hin] at e
          obtain ⟨p, hp'⟩ := zmy_ne (zIn_kxD h) hSo hp (zla (M 72) bt k 60 (n 5) - 1 - dd) (by omega)
          rw [show zla (M 72) bt k 60 (n 5) - 1 - (zla (M 72) bt k 60 (n 5) - 1 - dd) = dd by omega, ← zmy_in hp hin.1 hin.2 f4] at hp'
          have hpn : p < n 0 := by
            rcases Nat.lt_or_ge p (n 0) with q | q
            · exact q
            · rw [Nat.testBit_lt_two_pow (Nat.lt_of_lt_of_le ml (Nat.pow_le_pow_right (by decide) q))] at hp'
              exact absurd hp' (by decide)
          rcases or_ with ⟨-, o⟩ | ⟨p2, hp2, o⟩
          · rw [o p hpn] at hp'; exact absurd hp' (by decide)
          · have ed : zlkD (zlkS (zmy (M 72) bt k 60 (n 0) (n 5) (n 3) (zDD (M 72) n) dd) (zlv (n 0) (n 3) (zDD (M 72) n) (zal (M 72) (n 0) bt k 60 (n 5)) (zfi (M 72) bt k 60 (n 5)) (zla (M 72) bt k 60 (n 5) - 1) dd) (n 0)) = (zlkS (zmy (M 72) bt k 60 (n 0) (n 5) (n 3) (zDD (M 72) n) dd) (zlv (n 0) (n 3) (zDD (M 72) n) (zal (M 72) (n 0) bt k 60 (n 5)) (zfi (M 72) bt k 60 (n 5)) (zla (M 72) bt k 60 (n 5) - 1) dd) (n 0)).2 := by
              unfold zlkD
              rw [if_neg (by rw [o]; exact zn1 (by omega))]
            rw [ed]
            exact e
        · rw [if_neg hin] at e
          have m0 : zmy (M 72) bt k 60 (n 0) (n 5) (n 3) (zDD (M 72) n) dd = 0 := by
            unfold zmy
            rw [if_neg (fun q => hin ⟨q.2.1, by omega⟩)]
          rw [m0] at or_ ⊢
          rcases or_ with ⟨o, -⟩ | ⟨p2, hp2, o⟩
          · rw [o]
            by_cases q : a3 = 0
            · rw [if_pos q]; exact e
            · rw [if_neg q]; exact e
          · exfalso
            have z : ∀ j, zlkS 0 (zlv (n 0) (n 3) (zDD (M 72) n) (zal (M 72) (n 0) bt k 60 (n 5)) (zfi (M 72) bt k 60 (n 5)) (zla (M 72) bt k 60 (n 5) - 1) dd) j = (-1, 100000) := by
              intro j
              induction j with
              | zero => rfl
              | succ j ih =>
                unfold zlkS
                rw [if_neg (fun q => by rw [Nat.zero_testBit] at q; exact absurd q.1 (by decide)), ih]
            rw [z] at o
            exact zn1 (show p2 < 1000 by omega) o.symm
    · have e72 : M2 72 = M 72 := hs.1 72 rfl (by decide) (by decide) (by decide) (by decide) (by decide) (by decide)
      have hv3' : (0 : Int32) ≤ a3 ∧ a3 ≤ (1 : Int32) := by
        rcases hv3 with q | q
        · rw [q]; decide
        · rw [q]; decide
      refine zb_Model_lookR_0 (d := d + 170) _ _ _ _ (fun q => absurd (zy_day9 hd) q) (fun _ q => absurd hv3' q) (fun _ _ => ?_)
      refine sp_canAskA (d := d + 189) hK2 h2' _ _ _ (fun q => ?_) (fun bt2 k2 M1 e1 e2 l1 l2 hr p2 j1 => ?_)
      · exfalso
        refine q ⟨⟨bt, k, rfl, rfl, h1, hk, by rw [e72]; exact hp⟩, ?_⟩
        rw [zlm]
        exact ⟨by omega, by omega⟩
      · have e1 := (nI_eq (by omega) (by omega)).mp e1
        have e2 := (nI_eq (by omega) (by omega)).mp e2
        subst e1 e2
        obtain ⟨s1, t1⟩ := zJr_sc j1
        have t1 := t1 (zIn_tab h2')
        have q71 := zJr_fg j1 (zIn_sn h2').2.2.2.2 (by rw [e72]; exact f1)
        have at_ := fun e a b => zJr_at j1 (e := e) (by rw [e72]; exact f1) a b
        have lead : zLi M1 (n 0) (n 5) (n 3) (zfi (M 72) bt k 60 (n 5)) (zla (M 72) bt k 60 (n 5) - 1) (zal (M 72) (n 0) bt k 60 (n 5)) (zDD (M 72) n) := by
          have a5 := j1.2.2.2.2.1
          have a6 := j1.2.2.2.2.2.1
          rw [e72] at a5 a6 q71
          exact ⟨q71.1, q71.2.1, ⟨f2, f3⟩, a5, a6, fun e => zal_lt _ _ _ _ _ _ _⟩
        rw [e72] at q71 at_
        refine zb_Model_lookP_24 (d := d + 170) hK2 _ dd _ _ hd q71.1 q71.2.1 ⟨f2, f3⟩ (fun q => (at_ dd q.1 (by omega)).1) (fun q => (at_ dd q.1 (by omega)).2) (fun q => ?_) (fun q => ?_)
        · have mi := zmy_in hp q.1 q.2 f4
          have e0 : zld (fun d S => zrc (n 0) (n 3) (zDD (M 72) n d) S) (zal (M 72) (n 0) bt k 60 (n 5)) (zfi (M 72) bt k 60 (n 5)) (dd - zfi (M 72) bt k 60 (n 5)) &&& zbk (fun d S => zrc (n 0) (n 3) (zDD (M 72) n d) S) (zal (M 72) (n 0) bt k 60 (n 5)) (zla (M 72) bt k 60 (n 5) - 1) (zla (M 72) bt k 60 (n 5) - 1 - dd) = zmy (M 72) bt k 60 (n 0) (n 5) (n 3) (zDD (M 72) n) dd := mi.symm
          rw [e0]
          refine lp_lookM (d := d + 170) hK2 lead (by rw [s1.1 72 rfl (by decide) (by decide) (by decide) (by decide) (by decide) (by decide)]; exact h2'.1.1.1) (by omega) hd (zp1024 ml (by omega)) (fun M3 w1 => ?_) (n 0) 0 M1 .null .null .null rfl rfl rfl (by omega) (fun _ _ _ => rfl)
          have s3 : zSc M1 M3 := zSc_w (fun c hc => w1 c (fun q => by rw [q] at hc; exact absurd hc (by decide)) (fun q => by rw [q] at hc; exact absurd hc (by decide)))
          have t3 : zTab M3 := zTab_w (fun c _ _ => w1 c (by omega) (by omega)) t1
          have e := kk K2 B2 M3 hK2 hS2 (zSc_tr s1 s3) t3
          rw [if_pos q] at e
          exact e
        · have e := kk K2 B2 M1 hK2 hS2 s1 t1
          rw [if_neg q] at e
          exact e
  · refine ⟨-1, fun F kk => ?_, fun K2 B2 M2 hK2 hS2 hs h2' F kk => ?_⟩
    · have z := kk K B M hK hSw (zSc_rfl M) hT
      refine zb_Boats_lookR_0 (d := d + 170) _ _ _ _ (fun _ => z) (fun _ _ => z) (fun g1 g2 => ?_)
      refine sp_hasJA (d := d + 189) hK h _ _ (fun _ M1 s1 t1 => ?_) (fun bt k M1 e1 e2 l1 l2 p1 j1 => ?_)
      · exact zb_Boats_lookN_33 (d := d + 170) _ _ _ _ 1 (kk K B M1 hK hSw s1 t1)
      · exfalso
        simp only [zlt, zle, zl0, zl60] at g2
        exact hv ⟨⟨bt, k, e1, e2, l1, l2, p1⟩, g2, g1⟩
    · have e72 : M2 72 = M 72 := hs.1 72 rfl (by decide) (by decide) (by decide) (by decide) (by decide) (by decide)
      have z := kk K2 B2 M2 hK2 hS2 (zSc_rfl M2) (zIn_tab h2')
      refine zb_Model_lookR_0 (d := d + 170) _ _ _ _ (fun _ => z) (fun _ _ => z) (fun g1 g2 => ?_)
      refine sp_canAskA (d := d + 189) hK2 h2' _ _ _ (fun _ M1 s1 t1 => ?_) (fun bt k M1 e1 e2 l1 l2 hr p1 j1 => ?_)
      · exact zb_Model_lookN_24 (d := d + 170) _ _ _ _ (kk K2 B2 M1 hK2 hS2 s1 t1)
      · exfalso
        simp only [zle, zl0, zl59, zl1] at g1 g2
        refine hv ⟨⟨bt, k, e1, e2, l1, l2, by rw [← e72]; exact p1⟩, ⟨g1.1, by omega⟩, ?_⟩
        simp only [zeq, zl0, zl1]
        omega
