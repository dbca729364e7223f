/-! ===== miles ===== -/
theorem zop_miles (X : zX) (a0 a1 a2 : Int32) : zOp zInv X zm_Boats_miles zm_Model_miles [.int a0, .int a1, .int a2] := by
  refine zop_of (fun d K B M n n' hK hSw h => ?_)
  have hCk := zIn_ck h
  have hT := zIn_tab h
  by_cases hv : (-1 ≤ a0.toInt ∧ a0.toInt < 60) ∧ (0 ≤ a1.toInt ∧ a1.toInt < n 0) ∧ (0 ≤ a2.toInt ∧ a2.toInt < n 0)
  · have hb0 := hCk.2.2.2.2.1.1
    obtain ⟨p, hp, rfl⟩ := znat (x := a1) (n := n 0) hv.2.1.1 hv.2.1.2 (by omega)
    obtain ⟨q, hq, rfl⟩ := znat (x := a2) (n := n 0) hv.2.2.1 hv.2.2.2 (by omega)
    have key : ∀ dd : Nat, zD (zrd (M 72)) (n 1) (n 2) dd p q < 9999 ∨ zD (zrd (M 72)) (n 1) (n 2) dd p q = 100000 := by
      intro dd
      have hw := zCn_w (zIn_cn h)
      have b3 := (zD_base (s := n 2) (d := dd) hw).2.2 p q
      by_cases e : zD (zrd (M 72)) (n 1) (n 2) dd p q < 100000
      · have := zD_bound hw (by omega) (by omega) e
        omega
      · omega
    have cls : ∀ (M1 : Nat → Nat → Int32) (t dd : Nat), zSc M M1 → zTb M1 t dd → M1 11 (100 * t + 10 * p + q) = nI (min 9999 (zD (zrd (M 72)) (n 1) (n 2) dd p q)) := by
      intro M1 t dd hs htb
      have e1 := hs.2.1
      have c1 : (M1 1 1).toNatClampNeg = n 0 ∧ (M1 1 5).toNatClampNeg = n 1 ∧ (M1 1 9).toNatClampNeg = n 2 := by
        rw [e1 1 (by decide) (by decide), e1 5 (by decide) (by decide), e1 9 (by decide) (by decide)]
        exact ⟨(zCk_cl hCk).1, (zCk_cl hCk).2.1, (zCk_cl hCk).2.2.1⟩
      have eg : zcd M1 = zcd M := by
        funext c i
        unfold zcd
        by_cases hc : 3 ≤ c ∧ c ≤ 8
        · rw [if_pos hc, if_pos hc]
          have : zsc c = false := by
            have : c = 3 ∨ c = 4 ∨ c = 5 ∨ c = 6 ∨ c = 7 ∨ c = 8 := by omega
            rcases this with rfl | rfl | rfl | rfl | rfl | rfl <;> rfl
          rw [hs.1 c this (by omega) (by omega) (by omega) (by omega) (by omega) (by omega)]
        · rw [if_neg hc, if_neg hc]
      have := htb.1 p q (by rw [c1.1]; exact hp) (by rw [c1.1]; exact hq)
      rw [c1.2.1, c1.2.2, eg, zIn_D h] at this
      exact this
    have hsc : ∀ M1 : Nat → Nat → Int32, (∀ c, c ≠ 87 → M1 c = M c) → zSc M M1 := fun M1 hf => zSc_w (fun c hc => hf c (by rintro rfl; cases hc))
    by_cases hd0 : a0.toInt = -1
    · have e0 : a0 = -1 := Int32.toInt_inj.mp hd0
      subst e0
      refine ⟨if zD (zrd (M 72)) (n 1) (n 2) 60 p q < 9999 then nI (zD (zrd (M 72)) (n 1) (n 2) 60 p q) else -1, fun F kk => ?_, fun K2 B2 M2 hK2 hS2 hs h2 F kk => ?_⟩
      · refine zb_Boats_milesa_0 (v := 0) (d := d + 180) hK p q hCk.1 hb0 hp hq ?_
        refine sp_freshen (d := d + 194) hK hCk hT (fun M1 f1 f2 f3 f4 => ?_)
        have hs := zSc_fresh f1 f2
        have e11 := cls M1 0 60 hs f4.1
        refine zb_Boats_milesa_37 (d := d + 180) hK p q (by rw [f2 1 (by decide) (by decide)]; exact hCk.1) hb0 hp hq (by rw [← e11]; congr 1; omega) (by omega) (fun hne => ?_) (fun heq => ?_)
        · have := kk K B M1 hK hSw hs (Or.inr ⟨f3, f4⟩)
          rw [if_pos (by have := key 60; omega)] at this
          rw [Nat.min_eq_right (by have := key 60; omega)]
          exact this
        · have := kk K B M1 hK hSw hs (Or.inr ⟨f3, f4⟩)
          rw [if_neg (by omega)] at this
          exact this
      · have e72 : M2 72 = M 72 := hs.1 72 rfl (by decide) (by decide) (by decide) (by decide) (by decide) (by decide)
        have hc0 : M2 72 0 = nI (n 0) := h2.1.1.1
        refine zb_Model_milesa_0 (v := 0) (d := d + 180) hK2 p q hc0 hb0 hp hq ?_
        refine sp_laysMiles (d := d + 196) (dd := 60) hK2 (zIn_cn h2) (by decide) (fun M1 f1 r1 => ?_)
        have hs1 : zSc M2 M1 := zSc_w (fun c hc => f1.1 c (by rintro rfl; cases hc))
        have ht1 : zTab M1 := zTab_w (fun c a b => f1.1 c (by omega)) (zIn_tab h2)
        have e87 := r1 p q (by omega) (by omega)
        rw [e72] at e87
        refine zb_Model_milesa_47 (d := d + 180) hK2 p q (by rw [f1.1 72 (by decide)]; exact hc0) hb0 hp hq e87 (by have := key 60; omega) (fun hlt => ?_) (fun hge => ?_)
        · have := kk K2 B2 M1 hK2 hS2 hs1 ht1
          rw [if_pos (by have := key 60; omega)] at this
          exact this
        · have := kk K2 B2 M1 hK2 hS2 hs1 ht1
          rw [if_neg (by omega)] at this
          exact this
    · obtain ⟨dd, hdd, rfl⟩ := znat (x := a0) (n := 60) (by omega) hv.1.2 (by decide)
      refine ⟨if zD (zrd (M 72)) (n 1) (n 2) dd p q < 9999 then nI (zD (zrd (M 72)) (n 1) (n 2) dd p q) else -1, fun F kk => ?_, fun K2 B2 M2 hK2 hS2 hs h2 F kk => ?_⟩
      · refine zb_Boats_milesb_0 (v := 0) (t := 0) (d := d + 180) hK dd p q hdd hCk.1 hb0 hp hq ?_
        refine sp_freshen (d := d + 194) hK hCk hT (fun M1 f1 f2 f3 f4 => ?_)
        have hs := zSc_fresh f1 f2
        obtain ⟨t, ht, h9, htb⟩ := f4.2 dd hdd
        have e11 := cls M1 t dd hs htb
        refine zb_Boats_milesb_37 (d := d + 180) hK dd p q hdd (by rw [f2 1 (by decide) (by decide)]; exact hCk.1) hb0 hp hq ht h9 e11 (by omega) (fun hne => ?_) (fun heq => ?_)
        · have := kk K B M1 hK hSw hs (Or.inr ⟨f3, f4⟩)
          rw [if_pos (by have := key dd; omega)] at this
          rw [Nat.min_eq_right (by have := key dd; omega)]
          exact this
        · have := kk K B M1 hK hSw hs (Or.inr ⟨f3, f4⟩)
          rw [if_neg (by omega)] at this
          exact this
      · have e72 : M2 72 = M 72 := hs.1 72 rfl (by decide) (by decide) (by decide) (by decide) (by decide) (by decide)
        have hc0 : M2 72 0 = nI (n 0) := h2.1.1.1
        refine zb_Model_milesb_0 (v := 0) (d := d + 180) hK2 dd p q hdd hc0 hb0 hp hq ?_
        refine sp_laysMiles (d := d + 196) (dd := dd) hK2 (zIn_cn h2) (by omega) (fun M1 f1 r1 => ?_)
        have hs1 : zSc M2 M1 := zSc_w (fun c hc => f1.1 c (by rintro rfl; cases hc))
        have ht1 : zTab M1 := zTab_w (fun c a b => f1.1 c (by omega)) (zIn_tab h2)
        have e87 := r1 p q (by omega) (by omega)
        rw [e72] at e87
        refine zb_Model_milesb_47 (d := d + 180) hK2 dd p q hdd (by rw [f1.1 72 (by decide)]; exact hc0) hb0 hp hq e87 (by have := key dd; omega) (fun hlt => ?_) (fun hge => ?_)
        · have := kk K2 B2 M1 hK2 hS2 hs1 ht1
          rw [if_pos (by have := key dd; omega)] at this
          exact this
        · have := kk K2 B2 M1 hK2 hS2 hs1 ht1
          rw [if_neg (by omega)] at this
          exact this
  · refine ⟨-1, zop_no hK hSw hT (fun F kk => ?_), fun K2 B2 M2 hK2 hS2 hs h2 => zop_no hK2 hS2 (zIn_tab h2) (fun F kk => ?_)⟩
    · obtain ⟨⟨⟨c0, c1, c2, c3, c4, c5, c6, c7⟩, b0, b1, b2, b3, b4, b5, b6, b7⟩, -, -, ⟨q0, q1, q2, q3, q4, q5, q6, q7⟩, -⟩ := id h
      have t0 : (M 1 1).toInt = n 0 := by rw [q0.trans c0, znI (by omega)]
      have u0 : (M 72 0).toInt = n 0 := by rw [c0, znI (by omega)]
      have v0 : (M 72 0 - 1).toInt = (n 0 : Int) - 1 := by rw [c0, zsub1 (by omega)]
      exact zb_Boats_milesR_0 (d := d + 180) hK _ _ _ (fun g0 g1 => kk) (fun g0 g1 g2 => (by exfalso; simp only [zlt, zle, zeq, zl0, zlm, zl1, zl3, zl4, zl8, zl9, zl10, zl15, zl20, zl30, zl59, zl60, t0, u0, v0] at g0 g1 g2 hv; omega)) (fun g0 g1 g2 => kk) (fun g0 g1 => kk) (fun g0 g1 g2 => kk) (fun g0 g1 g2 g3 => (by exfalso; simp only [zlt, zle, zeq, zl0, zlm, zl1, zl3, zl4, zl8, zl9, zl10, zl15, zl20, zl30, zl59, zl60, t0, u0, v0] at g0 g1 g2 g3 hv; omega)) (fun g0 g1 g2 g3 => kk)
    · obtain ⟨⟨⟨c0, c1, c2, c3, c4, c5, c6, c7⟩, b0, b1, b2, b3, b4, b5, b6, b7⟩, -, -, ⟨q0, q1, q2, q3, q4, q5, q6, q7⟩, -⟩ := id h2
      have t0 : (M2 1 1).toInt = n 0 := by rw [q0.trans c0, znI (by omega)]
      have u0 : (M2 72 0).toInt = n 0 := by rw [c0, znI (by omega)]
      have v0 : (M2 72 0 - 1).toInt = (n 0 : Int) - 1 := by rw [c0, zsub1 (by omega)]
      exact zb_Model_milesR_0 (d := d + 180) hK2 _ _ _ (fun g0 => kk) (fun g0 g1 => kk) (fun g0 g1 g2 => (by exfalso; simp only [zlt, zle, zeq, zl0, zlm, zl1, zl3, zl4, zl8, zl9, zl10, zl15, zl20, zl30, zl59, zl60, t0, u0, v0] at g0 g1 g2 hv; omega)) (fun g0 g1 g2 => kk)
