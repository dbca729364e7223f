/-! ===== zop_swapped ===== -/
theorem zJc_si2 {M M1 : Nat → Nat → Int32} {n n' : Nat → Nat} {bt k : Nat} (h : zIn M n n') (f1 : zfi (M 72) bt k 60 (n 5) < 60) (j : zJc (M 72) M M1 bt k 59 (n 0) (n 1) (n 2) (n 3) (n 5) (zDD (M 72) n)) : zSi (M 72) M1 (n 0) (n 1) (n 2) (n 3) (n 5) (zDD (M 72) n) (zfi (M 72) bt k 60 (n 5)) (zla (M 72) bt k 60 (n 5) - 1) (zal (M 72) (n 0) bt k 60 (n 5)) := by
  have hSo := (zIn_sn h).2.2.2.2
  obtain ⟨x1, x2, x3, x4, x5, x6⟩ := zJc_n h j
  obtain ⟨f2, f3, f4, f5, f6⟩ := zfi_fg (bt := bt) (k := k) (u := 60) hSo f1
  refine ⟨by rw [x1, zfI_n f1], by rw [x2, f5], ⟨f2, f3⟩, ?_, fun e r h1 h2 h3 => ?_, x6, fun e => zal_lt _ _ _ _ _ _ _⟩
  · rw [x5 _ (by omega)]
    unfold zav
    rw [f6, cond_true]
  · rw [x5 e (by omega)]
    exact zav_and h3
theorem zJc_siO {M M1 : Nat → Nat → Int32} {n n' : Nat → Nat} {bt k : Nat} (h : zIn M n n') (f1 : zfi (M 72) bt k 60 (n 5) < 60) (j : zJcO (M 72) M M1 bt k 59 (n 0) (n 1) (n 2) (n 3) (n 5) (zDD (M 72) n)) : zSiO (M 72) M1 (n 0) (n 1) (n 2) (n 3) (n 5) (zDD (M 72) n) (zfi (M 72) bt k 60 (n 5)) (zla (M 72) bt k 60 (n 5) - 1) (zal (M 72) (n 0) bt k 60 (n 5)) := by
  have hSo := (zIn_sn h).2.2.2.2
  obtain ⟨x1, x2, x3, x4, x5, x6⟩ := zJcO_n h j
  obtain ⟨f2, f3, f4, f5, f6⟩ := zfi_fg (bt := bt) (k := k) (u := 60) hSo f1
  refine ⟨by rw [x1, zfI_n f1], by rw [x2, f5], ⟨f2, f3⟩, ?_, fun e r h1 h2 h3 => ?_, x6, fun e => zal_lt _ _ _ _ _ _ _⟩
  · rw [x5 _ (by omega)]
    unfold zav
    rw [f6, cond_true]
  · rw [x5 e (by omega)]
    exact zav_and h3
theorem zop_swapped (X : zX) (a0 a1 a2 a3 : Int32) : zOp zInv X zm_Boats_swapped zm_Model_swapped [.int a0, .int a1, .int a2, .int a3] := by
  refine zop_of (fun d K B M n n' hK hSw h => ?_)
  have hT := zIn_tab h
  have hb := h.1.2
  have hSo := (zIn_sn h).2.2.2.2
  by_cases hv : (0 ≤ a0.toInt ∧ a0.toInt < n 4) ∧ (0 ≤ a1.toInt ∧ a1.toInt < n 4) ∧ (0 ≤ a2.toInt ∧ a2.toInt < 60) ∧ a0 ≠ a1 ∧ (-1 : Int32) ≤ a3
  · obtain ⟨o1, h1, rfl⟩ := znat (x := a0) (n := n 4) hv.1.1 hv.1.2 (by omega)
    obtain ⟨o2, h2, rfl⟩ := znat (x := a1) (n := n 4) hv.2.1.1 hv.2.1.2 (by omega)
    obtain ⟨k, hk, rfl⟩ := znat (x := a2) (n := 60) hv.2.2.1.1 hv.2.2.1.2 (by decide)
    refine ⟨zswr (zswc (n 0) (n 3) (n 5) (zDD (M 72) n) (M 72) o1 o2 k) a3 60 0 0, fun F kk => ?_, fun K2 B2 M2 hK2 hS2 hs h2' F kk => ?_⟩
    · have b4 : M 13 0 = nI (n 4) := h.2.2.2.1.2.2.2.2.1.trans h.1.1.2.2.2.2.1
      refine zb_Boats_swappedR_0 (d := d + 170) hK _ _ _ _ (fun q => absurd (zy_lt b4 h1 (by omega)) q) (fun _ q => absurd (zy_lt b4 h2 (by omega)) q) (fun _ _ q => absurd q hv.2.2.2.1) (fun _ _ _ q => absurd (zy_day hk) q) (fun _ _ _ _ _ => ?_) (fun _ _ _ _ q => absurd hv.2.2.2.2 q)
      refine zb_Boats_swapped_36 (d := d + 170) hK _ _ _ _ ?_
      refine sp_tr (d := d + 190) (u := 59) hK h ⟨by omega, hk, by omega⟩ (fun M1 j1 => ?_)
      obtain ⟨s1, t1⟩ := zJc_sc j1
      have i1 := zIn_scr h s1 t1
      have e72 : M1 72 = M 72 := s1.1 72 rfl (by decide) (by decide) (by decide) (by decide) (by decide) (by decide)
      refine zb_Boats_swapped_48 (d := d + 170) hK _ _ _ _ ?_
      refine sp_trO (d := d + 190) (u := 59) hK i1 ⟨by omega, hk, by omega⟩ (fun M3 j3 => ?_)
      obtain ⟨s3, t3⟩ := zJcO_sc j3
      obtain ⟨x1, x2, x3, x4, x5, x6⟩ := zJc_n h j1
      obtain ⟨y1, y2, y3, y4, y5, y6⟩ := zJcO_n i1 j3
      have siO := fun q => zJc_siO i1 q j3
      rw [e72] at y1 y2 y3 y4 y5 y6 siO
      have si1 := fun q => zJc_si2 h q j1
      have c3 : ∀ c, c ≠ 1 → c ≠ 9 → c ≠ 10 → c ≠ 11 → c ≠ 12 → c ≠ 46 → c ≠ 47 → c ≠ 48 → M3 c = M1 c := j3.1
      have e41 : M3 41 = M1 41 := c3 41 (by decide) (by decide) (by decide) (by decide) (by decide) (by decide) (by decide) (by decide)
      have e42 : M3 42 = M1 42 := c3 42 (by decide) (by decide) (by decide) (by decide) (by decide) (by decide) (by decide) (by decide)
      have si3 : zfi (M 72) o1 k 60 (n 5) < 60 → zSi (M 72) M3 (n 0) (n 1) (n 2) (n 3) (n 5) (zDD (M 72) n) (zfi (M 72) o1 k 60 (n 5)) (zla (M 72) o1 k 60 (n 5) - 1) (zal (M 72) (n 0) o1 k 60 (n 5)) := fun q => by
        obtain ⟨a1, a2, a3, a4, a5, a6, a7⟩ := si1 q
        exact ⟨by rw [e41]; exact a1, by rw [e41]; exact a2, a3, by rw [e42]; exact a4, by rw [e42]; exact a5, y6, a7⟩
      rw [← e41] at x1 x3
      rw [← e42] at x5
      have fl1 := zfl (bt := o1) (k := k) (u := 60) hSo
      have fl2 := zfl (bt := o2) (k := k) (u := 60) hSo
      have fin : ∀ M4 : Nat → Nat → Int32, (∀ c, c ≠ 41 → c ≠ 43 → c ≠ 46 → c ≠ 48 → M4 c = M3 c) → F (some (.int (zswr (zswc (n 0) (n 3) (n 5) (zDD (M 72) n) (M 72) o1 o2 k) a3 60 0 0))) (X, (0, 0), zLay, K, B, M4) := fun M4 w1 => by
        have s4 : zSc M3 M4 := zSc_w (fun c hc => w1 c (fun q => by rw [q] at hc; exact absurd hc (by decide)) (fun q => by rw [q] at hc; exact absurd hc (by decide)) (fun q => by rw [q] at hc; exact absurd hc (by decide)) (fun q => by rw [q] at hc; exact absurd hc (by decide)))
        have t4 : zTab M4 := zTab_w (fun c _ _ => w1 c (by omega) (by omega) (by omega) (by omega)) t3
        exact kk K B M4 hK hSw (zSc_tr s1 (zSc_tr s3 s4)) t4
      have noF : (∀ dd, dd < 60 → zswc (n 0) (n 3) (n 5) (zDD (M 72) n) (M 72) o1 o2 k dd = false) → zEx (zCall (d + 199)) 9 false 1 zc_Boats_swapped F 93 [.ref 0, .int (nI o1), .int (nI o2), .int (nI k), .int a3, .int 0, .int 0, .int 0] [] (X, (0, 0), zLay, K, B, M3) := fun q => by
        have e := fin M3 (fun _ _ _ _ _ => rfl)
        rw [zswr_f q 60 0 0 (by omega)] at e
        refine zb_Boats_swappedF_93 (d := d + 170) o1 o2 k a3 0 0 (by omega) (by omega) (fun z => absurd z (by omega)) (fun z => absurd z (by omega)) (fun _ z => ?_) (fun _ z => ?_)
        · rw [if_neg z] at e; exact e
        · rw [if_pos z] at e; exact e
      have yesT : (!(zpos (M 72) o1 k 60 (n 0) (n 5) (n 3) (zDD (M 72) n)) || !(zpos (M 72) o2 k 60 (n 0) (n 5) (n 3) (zDD (M 72) n))) = true → zEx (zCall (d + 199)) 9 false 1 zc_Boats_swapped F 93 [.ref 0, .int (nI o1), .int (nI o2), .int (nI k), .int a3, .int 1, .int 0, .int 0] [] (X, (0, 0), zLay, K, B, M3) := fun q => by
        have ec : zswc (n 0) (n 3) (n 5) (zDD (M 72) n) (M 72) o1 o2 k = zswp (n 0) (n 3) (n 5) (zDD (M 72) n) (M 72) o1 o2 k := by
          funext dd
          unfold zswc
          rw [q, Bool.and_true]
        rw [ec] at fin
        exact lp_swC (d := d + 170) hK (by omega) hSo si3 siO x5 y5 60 0 0 M3 (by omega) (by omega) (fun _ _ _ _ _ => rfl) (fun _ _ => rfl) (fun _ _ => rfl) fin
      have noSeen : ∀ o, zfi (M 72) o k 60 (n 5) = 60 → ∀ dd, dd < 60 → zsd (M 72) o k 60 (n 5) dd = false := fun o q dd hd => by
        apply eq_false_of_ne_true
        intro z
        have := ((zfl (bt := o) (k := k) (u := 60) hSo).2.2.2.2 dd z).1
        omega
      have c1 : zfi (M 72) o1 k 60 (n 5) = 60 → ∀ dd, dd < 60 → zswc (n 0) (n 3) (n 5) (zDD (M 72) n) (M 72) o1 o2 k dd = false := fun q dd hd => by
        unfold zswc zswp
        rw [noSeen o1 q dd hd]; rfl
      have c2 : zfi (M 72) o2 k 60 (n 5) = 60 → ∀ dd, dd < 60 → zswc (n 0) (n 3) (n 5) (zDD (M 72) n) (M 72) o1 o2 k dd = false := fun q dd hd => by
        unfold zswc zswp
        rw [noSeen o2 q dd hd, Bool.false_and, Bool.and_false]; rfl
      have m1 := zfI_60 fl1.1
      have m2 := zfI_60 fl2.1
      refine zb_Boats_swapped_60 (d := d + 170) hK o1 o2 k a3 x1 x3 y1 y3 (fun z1 z2 => noF (c1 (m1.mp z1))) (fun z1 _ _ => noF (c1 (m1.mp z1))) (fun z1 z2 z3 => yesT (by rw [zbf z3, Bool.not_false, Bool.or_true])) (fun z1 z2 z3 => noF (c2 (m2.mp z3))) (fun z1 z2 z3 z4 => noF (fun dd _ => ?_)) (fun z1 z2 z3 z4 => yesT (by rw [zbf z4, Bool.not_false, Bool.or_true])) (fun z1 z2 => yesT (by rw [zbf z2]; rfl))
      unfold zswc
      rw [zbt z2, zbt z4]
      exact Bool.and_false _
    · have e72 : M2 72 = M 72 := hs.1 72 rfl (by decide) (by decide) (by decide) (by decide) (by decide) (by decide)
      have b4 := h2'.1.1.2.2.2.2.1
      refine zb_Model_swappedR_0 (d := d + 170) hK2 _ _ _ _ (fun q => absurd (zy_le b4 h1 (by omega)) q) (fun _ q => absurd (zy_le b4 h2 (by omega)) q) (fun _ _ q => absurd q hv.2.2.2.1) (fun _ _ _ q => absurd (zy_day9 hk) q) (fun _ _ _ _ _ => ?_) (fun _ _ _ _ q => absurd hv.2.2.2.2 q)
      refine zb_Model_swapped_36 (d := d + 170) _ _ _ _ ?_
      refine sp_laysAll (d := d + 195) hK2 (zIn_cn h2') (fun M3 f1 r1 => ?_)
      refine zb_Model_swapped_40 (d := d + 170) _ _ _ _ ?_
      have q72 : M3 72 = M2 72 := f1 72 (by decide)
      have hB := fun dd => zD_base (s := n 2) (d := dd) (zCn_w (zIn_cn h2'))
      have hR : zRf87 M3 (n 0) (n 5) (n 3) (zDD (M2 72) n) := ⟨by rw [q72]; exact zIn_sn h2', by rw [q72]; exact h2'.1.1.2.2.2.1, by omega, fun dd hd => r1 dd hd, fun dd x y => (hB dd).2.2 x y, fun dd x y => (hB dd).2.1 x y⟩
      refine lp_swM (d := d + 170) hK2 hR ⟨by omega, by omega, hk⟩ 60 0 0 M3 (by omega) (by omega) (fun _ _ _ _ _ => rfl) (fun _ _ _ => rfl) (fun M4 w1 w2 => ?_)
      rw [q72, e72]
      have s4 : zSc M2 M4 := by
        refine ⟨fun c hc g1 g2 g3 g4 g5 g6 => ?_, fun i _ _ => ?_, ?_, ?_, ?_⟩
        · have z := (zsc_41 hc).2
          rw [w1 c g6 (by omega) (by omega) (by omega), f1 c (by omega)]
        · rw [w1 1 (by decide) (by decide) (by decide) (by decide), f1 1 (by decide)]
        · rw [w2 3 (by decide) (by decide), f1 71 (by decide)]
        · rw [w2 4 (by decide) (by decide), f1 71 (by decide)]
        · rw [w2 5 (by decide) (by decide), f1 71 (by decide)]
      have t4 : zTab M4 := zTab_w (fun c g1 g2 => by rw [w1 c (by omega) (by omega) (by omega) (by omega), f1 c (by omega)]) (zIn_tab h2')
      exact kk K2 B2 M4 hK2 hS2 s4 t4
  · refine ⟨-1, zop_no hK hSw hT (fun F kk => ?_), fun K2 B2 M2 hK2 hS2 hs h2 => zop_no hK2 hS2 (zIn_tab h2) (fun F kk => ?_)⟩
    · obtain ⟨⟨⟨c0, c1, c2, c3, c4, c5, c6, c7⟩, b0, b1, b2, b3, b4, b5, b6, b7⟩, -, -, ⟨q0, q1, q2, q3, q4, q5, q6, q7⟩, -⟩ := id h
      have t4 : (M 13 0).toInt = n 4 := by rw [q4.trans c4, znI (by omega)]
      refine zb_Boats_swappedR_0 (d := d + 170) hK _ _ _ _ (fun _ => kk) (fun _ _ => kk) (fun _ _ _ => kk) (fun _ _ _ _ => kk) (fun g0 g1 g2 g3 g4 => ?_) (fun _ _ _ _ _ => kk)
      exfalso
      simp only [zlt, zle, zl0, zl60, t4] at g0 g1 g3
      exact hv ⟨g0, g1, g3, g2, g4⟩
    · obtain ⟨⟨⟨c0, c1, c2, c3, c4, c5, c6, c7⟩, b0, b1, b2, b3, b4, b5, b6, b7⟩, -⟩ := id h2
      have v4 : (M2 72 4 - 1).toInt = (n 4 : Int) - 1 := by rw [c4, zsub1 (by omega)]
      refine zb_Model_swappedR_0 (d := d + 170) hK2 _ _ _ _ (fun _ => kk) (fun _ _ => kk) (fun _ _ _ => kk) (fun _ _ _ _ => kk) (fun g0 g1 g2 g3 g4 => ?_) (fun _ _ _ _ _ => kk)
      exfalso
      simp only [zle, zl0, zl59, v4] at g0 g1 g3
      exact hv ⟨⟨g0.1, by omega⟩, ⟨g1.1, by omega⟩, ⟨g3.1, by omega⟩, g2, g4⟩
