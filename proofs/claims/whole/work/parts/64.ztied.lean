/-! ===== zop_tied ===== -/
/-- led and back of a boat, as meant -/
def zLd (A : Nat → Int32) (n : Nat → Nat) (bt k u d : Nat) : Nat := zld (fun d S => zrc (n 0) (n 3) (zDD A n d) S) (zal A (n 0) bt k u (n 5)) (zfi A bt k u (n 5)) (d - zfi A bt k u (n 5))
def zBk (A : Nat → Int32) (n : Nat → Nat) (bt k u d : Nat) : Nat := zbk (fun d S => zrc (n 0) (n 3) (zDD A n d) S) (zal A (n 0) bt k u (n 5)) (zla A bt k u (n 5) - 1) (zla A bt k u (n 5) - 1 - d)
theorem zmy_in {A : Nat → Int32} {n : Nat → Nat} {bt k u d : Nat} (hp : zpos A bt k u (n 0) (n 5) (n 3) (zDD A n) = true) (h1 : zfi A bt k u (n 5) ≤ d) (h2 : d ≤ zla A bt k u (n 5) - 1) (h3 : 1 ≤ zla A bt k u (n 5)) : zmy A bt k u (n 0) (n 5) (n 3) (zDD A n) d = zLd A n bt k u d &&& zBk A n bt k u d := by
  unfold zmy zLd zBk
  rw [if_pos ⟨hp, h1, by omega⟩]
/-- what tied answers -/
def ztv (A : Nat → Int32) (n : Nat → Nat) (o1 o2 k : Nat) : Int32 :=
  if (zpos A o1 k 60 (n 0) (n 5) (n 3) (zDD A n) = true ∧ zpos A o2 k 60 (n 0) (n 5) (n 3) (zDD A n) = true) ∧ max (zfi A o1 k 60 (n 5)) (zfi A o2 k 60 (n 5)) ≤ min (zla A o1 k 60 (n 5) - 1) (zla A o2 k 60 (n 5) - 1) then
    (if ztc (fun d S => zrc (n 0) (n 3) (zDD A n d) S) (fun d => zmy A o1 k 60 (n 0) (n 5) (n 3) (zDD A n) d &&& zmy A o2 k 60 (n 0) (n 5) (n 3) (zDD A n) d) (zmy A o1 k 60 (n 0) (n 5) (n 3) (zDD A n) (max (zfi A o1 k 60 (n 5)) (zfi A o2 k 60 (n 5))) &&& zmy A o2 k 60 (n 0) (n 5) (n 3) (zDD A n) (max (zfi A o1 k 60 (n 5)) (zfi A o2 k 60 (n 5)))) (max (zfi A o1 k 60 (n 5)) (zfi A o2 k 60 (n 5))) (min (zla A o1 k 60 (n 5) - 1) (zla A o2 k 60 (n 5) - 1) - max (zfi A o1 k 60 (n 5)) (zfi A o2 k 60 (n 5))) = 0 then 0 else 1)
  else -1
theorem ztc_ext {rc : Nat → Nat → Nat} {a a2 : Nat → Nat} {s0 fr : Nat} (j : Nat) (h : ∀ i, i < j → a (fr + i + 1) = a2 (fr + i + 1)) : ztc rc a s0 fr j = ztc rc a2 s0 fr j := by
  induction j with
  | zero => rfl
  | succ j ih =>
    show rc (fr + j + 1) (ztc rc a s0 fr j) &&& a (fr + j + 1) = rc (fr + j + 1) (ztc rc a2 s0 fr j) &&& a2 (fr + j + 1)
    rw [ih (fun i hi => h i (by omega)), h j (by omega)]
/-- the reference's way to it -/
theorem ztv_ref {A : Nat → Int32} {n : Nat → Nat} {o1 o2 k : Nat} (hD : ∀ d x y, zDD A n d x y = zDD A n d y x) (hS : zSok A (n 0) (n 5)) (p1 : zpos A o1 k 60 (n 0) (n 5) (n 3) (zDD A n) = true) (p2 : zpos A o2 k 60 (n 0) (n 5) (n 3) (zDD A n) = true) {fr to : Nat} (hfr : fr = max (zfi A o1 k 60 (n 5)) (zfi A o2 k 60 (n 5))) (hto : to = min (zla A o1 k 60 (n 5) - 1) (zla A o2 k 60 (n 5) - 1)) (hle : fr ≤ to) : ztv A n o1 o2 k = if zts (fun d S => zrc (n 0) (n 3) (zDD A n d) S) (fun d => zal A (n 0) o2 k 60 (n 5) d &&& zal A (n 0) o1 k 60 (n 5) d) (zLd A n o2 k 60 fr &&& zLd A n o1 k 60 fr) fr (to - fr) &&& zBk A n o2 k 60 to &&& zBk A n o1 k 60 to = 0 then 0 else 1 := by
  obtain ⟨x1, x2, x3, x4, -⟩ := zpos_fg hS p1
  obtain ⟨y1, y2, y3, y4, -⟩ := zpos_fg hS p2
  unfold ztv
  rw [← hfr, ← hto, if_pos ⟨⟨p1, p2⟩, hle⟩]
  have m1 : ∀ d, fr ≤ d → d ≤ to → zmy A o1 k 60 (n 0) (n 5) (n 3) (zDD A n) d = zLd A n o1 k 60 d &&& zBk A n o1 k 60 d := fun d h1 h2 => zmy_in p1 (by omega) (by omega) x4
  have m2 : ∀ d, fr ≤ d → d ≤ to → zmy A o2 k 60 (n 0) (n 5) (n 3) (zDD A n) d = zLd A n o2 k 60 d &&& zBk A n o2 k 60 d := fun d h1 h2 => zmy_in p2 (by omega) (by omega) y4
  rw [m1 fr (Nat.le_refl _) hle, m2 fr (Nat.le_refl _) hle]
  rw [ztc_ext (a2 := fun d => (zLd A n o1 k 60 d &&& zBk A n o1 k 60 d) &&& (zLd A n o2 k 60 d &&& zBk A n o2 k 60 d)) (to - fr) (fun i hi => by
    show zmy A o1 k 60 (n 0) (n 5) (n 3) (zDD A n) (fr + i + 1) &&& zmy A o2 k 60 (n 0) (n 5) (n 3) (zDD A n) (fr + i + 1) = _
    rw [m1 _ (by omega) (by omega), m2 _ (by omega) (by omega)])]
  have e : zts (fun d S => zrc (n 0) (n 3) (zDD A n d) S) (fun d => zal A (n 0) o2 k 60 (n 5) d &&& zal A (n 0) o1 k 60 (n 5) d) (zLd A n o2 k 60 fr &&& zLd A n o1 k 60 fr) fr (to - fr) &&& zBk A n o2 k 60 to &&& zBk A n o1 k 60 to = ztc (fun d S => zrc (n 0) (n 3) (zDD A n d) S) (fun d => (zLd A n o1 k 60 d &&& zBk A n o1 k 60 d) &&& (zLd A n o2 k 60 d &&& zBk A n o2 k 60 d)) ((zLd A n o1 k 60 fr &&& zBk A n o1 k 60 fr) &&& (zLd A n o2 k 60 fr &&& zBk A n o2 k 60 fr)) fr (to - fr) := by
    apply zne0_iff
    intro p
    have z := (ztie (np := n 0) (pc := n 3) (D := zDD A n) hD (al1 := zal A (n 0) o1 k 60 (n 5)) (al2 := zal A (n 0) o2 k 60 (n 5)) (f1 := zfi A o1 k 60 (n 5)) (g1 := zla A o1 k 60 (n 5) - 1) (f2 := zfi A o2 k 60 (n 5)) (g2 := zla A o2 k 60 (n 5) - 1) (fr := fr) (to := to) (by omega) (by omega) (by omega) (by omega) rfl (L1 := zLd A n o1 k 60) (L2 := zLd A n o2 k 60) (B1 := zBk A n o1 k 60) (B2 := zBk A n o2 k 60) (fun _ => rfl) (fun _ => rfl) (fun _ => rfl) (fun _ => rfl) (to - fr) (by omega) p).2
    rw [show fr + (to - fr) = to by omega] at z
    rw [← z]
    simp only [Nat.testBit_and, Bool.and_eq_true]
    exact ⟨fun q => ⟨q.1.1, q.2, q.1.2⟩, fun q => ⟨⟨q.1, q.2.2⟩, q.2.1⟩⟩
  rw [e]
theorem zIn_kxD {M : Nat → Nat → Int32} {n n' : Nat → Nat} (h : zIn M n n') : ∀ d x y, zDD (M 72) n d x y = zDD (M 72) n d y x := fun dd x y => (zD_base (s := n 2) (d := dd) (zCn_w (zIn_cn h))).2.1 x y
theorem zop_tied (X : zX) (a0 a1 a2 : Int32) : zOp zInv X zm_Boats_tied zm_Model_tied [.int a0, .int a1, .int a2] := by
  refine zop_of (fun d K B M n n' hK hSw h => ?_)
  have hT := zIn_tab h
  have hb := h.1.2
  have hSo := (zIn_sn h).2.2.2.2
  by_cases hv : (0 ≤ a0.toInt ∧ a0.toInt < n 4) ∧ (0 ≤ a1.toInt ∧ a1.toInt < n 4) ∧ (0 ≤ a2.toInt ∧ a2.toInt < 60) ∧ a0 ≠ a1
  · obtain ⟨o1, h1, rfl⟩ := znat (x := a0) (n := n 4) hv.1.1 hv.1.2 (by omega)
    obtain ⟨o2, h2, rfl⟩ := znat (x := a1) (n := n 4) hv.2.1.1 hv.2.1.2 (by omega)
    obtain ⟨k, hk, rfl⟩ := znat (x := a2) (n := 60) hv.2.2.1.1 hv.2.2.1.2 (by decide)
    have hne : o1 ≠ o2 := fun q => hv.2.2.2 (by rw [q])
    refine ⟨ztv (M 72) n o1 o2 k, fun F kk => ?_, fun K2 B2 M2 hK2 hS2 hs h2' F kk => ?_⟩
    · refine zb_Boats_tiedR_0 (d := d + 170) _ _ _ (fun q => absurd q hv.2.2.2) (fun _ => ?_)
      refine sp_hasJ (d := d + 189) hK h h1 hk (fun M1 j1 => ?_)
      obtain ⟨s1, t1⟩ := zJc_sc j1
      obtain ⟨x1, x2, x3, x4, x5, x6⟩ := zJc_n h j1
      have x3' := j1.2.2.2.2.2.2.2.2.1
      rw [x3] at x3'
      have i1 := zIn_scr h s1 t1
      have e72 : M1 72 = M 72 := s1.1 72 rfl (by decide) (by decide) (by decide) (by decide) (by decide) (by decide)
      have hb4 : M1 13 0 = nI (n 4) := i1.2.2.2.1.2.2.2.2.1.trans i1.1.1.2.2.2.2.1
      rw [← x3']
      cases p1 : zpos (M 72) o1 k 60 (n 0) (n 5) (n 3) (zDD (M 72) n)
      · refine zb_Boats_tiedN_11 (d := d + 170) _ _ _ ?_
        have e := kk K B M1 hK hSw s1 t1
        unfold ztv at e
        rw [if_neg (fun q => by rw [p1] at q; exact absurd q.1.1 (by decide))] at e
        exact e
      · refine zb_Boats_tiedQ_11 (d := d + 170) hK _ _ _ (fun _ => ?_) (fun q => absurd (zy_lt hb4 h2 (by omega)) q)
        refine zb_Boats_tied_24 (d := d + 170) hK _ _ _ ?_
        refine sp_trO (d := d + 190) (u := 59) hK i1 ⟨by omega, hk, by omega⟩ (fun M3 j3 => ?_)
        obtain ⟨s3, t3⟩ := zJcO_sc j3
        obtain ⟨y1, y2, y3, y4, y5, y6⟩ := zJcO_n i1 j3
        rw [e72] at y1 y2 y3 y4 y5 y6
        have e := kk K B M3 hK hSw (zSc_tr s1 s3) t3
        have e41 : M3 41 = M1 41 := j3.1 41 (by decide) (by decide) (by decide) (by decide) (by decide) (by decide) (by decide) (by decide)
        have e43 : M3 43 = M1 43 := j3.1 43 (by decide) (by decide) (by decide) (by decide) (by decide) (by decide) (by decide) (by decide)
        cases p2 : zpos (M 72) o2 k 60 (n 0) (n 5) (n 3) (zDD (M 72) n)
        · rw [p2] at y3
          refine zb_Boats_tiedI_36 (d := d + 170) hK _ _ _ y3 ?_
          unfold ztv at e
          rw [if_neg (fun q => by rw [p2] at q; exact absurd q.1.2 (by decide))] at e
          exact e
        · rw [p2] at y3
          obtain ⟨f1, f2, f3, f4, f5⟩ := zpos_fg hSo p1
          obtain ⟨g1, g2, g3, g4, g5⟩ := zpos_fg hSo p2
          rw [zfI_n f1] at x1
          rw [f5] at x2
          rw [zfI_n g1] at y1
          rw [g5] at y2
          rw [← e41] at x1 x2
          rw [← e43] at x4
          have l1 : ∀ e, zmy (M 72) o1 k 60 (n 0) (n 5) (n 3) (zDD (M 72) n) e < 2 ^ (n 0) := fun e => zmy_lt e
          unfold ztv at e
          refine zb_Boats_tiedP_36 (d := d + 170) hK o1 o2 k x1 x2 y1 y2 y3 ⟨f2, f3, g2, g3⟩ x4 y4 (fun q => ?_) (fun q => ?_)
          · rw [if_pos ⟨⟨p1, p2⟩, q⟩] at e
            exact lp_tiedC (d := d + 170) hK y6 x4 y4 (by omega) (zand_lt (l1 _)) q e _ 0 (Nat.add_sub_cancel' q)
          · rw [if_neg (fun z => by have := z.2; omega)] at e
            exact e
    · have e72 : M2 72 = M 72 := hs.1 72 rfl (by decide) (by decide) (by decide) (by decide) (by decide) (by decide)
      have hD := (zIn_kxD h2')
      refine zb_Model_tied_0 (d := d + 170) hK2 o1 o2 k h2'.1.1.2.2.2.2.1 (by omega) h1 h2 hne hk (fun q => absurd q hne) (fun _ => ?_)
      refine sp_mj (d := d + 190) (u := 60) hK2 h2' ⟨by omega, hk, by omega⟩ (fun M3 j3 => ?_)
      obtain ⟨s3, t3⟩ := zJr_sc j3
      have t3 := t3 (zIn_tab h2')
      have i3 := zIn_scr h2' s3 t3
      have hSo2 := (zIn_sn h2').2.2.2.2
      have e := fun M' a b => kk K2 B2 M' hK2 hS2 a b
      rw [← e72] at e
      cases p1 : zpos (M2 72) o1 k 60 (n 0) (n 5) (n 3) (zDD (M2 72) n)
      · refine zb_Model_tiedN_36 (d := d + 170) _ _ _ ?_
        have e := e M3 s3 t3
        unfold ztv at e
        rw [if_neg (fun q => by rw [p1] at q; exact absurd q.1.1 (by decide))] at e
        exact e
      · refine zb_Model_tiedP_36 (d := d + 170) _ _ _ ?_
        refine sp_keep (d := d + 197) hK2 (fun M4 w1 w2 => ?_)
        obtain ⟨f1, f2, f3, f4, f5⟩ := zpos_fg hSo2 p1
        have q71 : M4 71 = M3 71 := w1 71 (by decide) (by decide) (by decide)
        have q72 : M4 72 = M2 72 := (w1 72 (by decide) (by decide) (by decide)).trans (s3.1 72 rfl (by decide) (by decide) (by decide) (by decide) (by decide) (by decide))
        have s4 : zSc M3 M4 := zSc_w (fun c hc => w1 c (fun q => by rw [q] at hc; exact absurd hc (by decide)) (fun q => by rw [q] at hc; exact absurd hc (by decide)) (fun q => by rw [q] at hc; exact absurd hc (by decide)))
        have t4 : zTab M4 := zTab_w (fun c _ _ => w1 c (by omega) (by omega) (by omega)) t3
        have i4 := zIn_scr i3 s4 t4
        refine zb_Model_tiedP_45 (d := d + 170) _ _ _ (by rw [q71, j3.2.2.1, zfI_n f1]) (by rw [q71, j3.2.2.2.1, f5]) ⟨f2, f3⟩ ?_
        refine sp_mj (d := d + 190) (u := 60) hK2 i4 ⟨by omega, hk, by omega⟩ (fun M5 j5 => ?_)
        obtain ⟨s5, t5⟩ := zJr_sc j5
        have t5 := t5 t4
        have e := e M5 (zSc_tr s3 (zSc_tr s4 s5)) t5
        rw [q72] at j5 ⊢
        cases p2 : zpos (M2 72) o2 k 60 (n 0) (n 5) (n 3) (zDD (M2 72) n)
        · refine zb_Model_tiedN_65 (d := d + 170) _ _ _ _ _ ?_
          unfold ztv at e
          rw [if_neg (fun q => by rw [p2] at q; exact absurd q.1.2 (by decide))] at e
          exact e
        · obtain ⟨g1, g2, g3, g4, g5⟩ := zpos_fg hSo2 p2
          have a1 : ∀ x, x < 60 → M5 94 x = nI (zal (M2 72) (n 0) o1 k 60 (n 5) x) := fun x hx => by
            rw [j5.1 94 (by decide) (by decide) (by decide) (by decide) (by decide), (w2 x hx).1, j3.2.2.2.2.1 x hx]
          have l1 : ∀ x, zfi (M2 72) o1 k 60 (n 5) ≤ x ∧ x ≤ zla (M2 72) o1 k 60 (n 5) - 1 → M5 95 x = nI (zLd (M2 72) n o1 k 60 x) := fun x hx => by
            rw [j5.1 95 (by decide) (by decide) (by decide) (by decide) (by decide), (w2 x (by omega)).2.1, (zJr_at j3 f1 hx.1 (by omega)).1]
            rfl
          have b1 : ∀ x, zfi (M2 72) o1 k 60 (n 5) ≤ x ∧ x ≤ zla (M2 72) o1 k 60 (n 5) - 1 → M5 96 x = nI (zBk (M2 72) n o1 k 60 x) := fun x hx => by
            rw [j5.1 96 (by decide) (by decide) (by decide) (by decide) (by decide), (w2 x (by omega)).2.2, (zJr_at j3 f1 hx.1 (by omega)).2]
            rfl
          have j6 : zJr M4 M5 o2 k 60 (n 0) (n 5) (n 3) (zDD (M2 72) n) := j5
          have aa : ∀ x, x < 60 → M5 88 x = nI (zal (M2 72) (n 0) o2 k 60 (n 5) x) := fun x hx => by
            rw [j6.2.2.2.2.1 x hx, q72]
          have l2 : ∀ x, zfi (M2 72) o2 k 60 (n 5) ≤ x ∧ x ≤ zla (M2 72) o2 k 60 (n 5) - 1 → M5 89 x = nI (zLd (M2 72) n o2 k 60 x) := fun x hx => by
            have z := zJr_at j6 (by rw [q72]; exact g1) (e := x) (by rw [q72]; exact hx.1) (by rw [q72]; omega)
            rw [q72] at z
            exact z.1
          have b2 : ∀ x, zfi (M2 72) o2 k 60 (n 5) ≤ x ∧ x ≤ zla (M2 72) o2 k 60 (n 5) - 1 → M5 90 x = nI (zBk (M2 72) n o2 k 60 x) := fun x hx => by
            have z := zJr_at j6 (by rw [q72]; exact g1) (e := x) (by rw [q72]; exact hx.1) (by rw [q72]; omega)
            rw [q72] at z
            exact z.2
          have hf : M5 71 33 = nI (zfi (M2 72) o2 k 60 (n 5)) := by rw [j6.2.2.1, q72, zfI_n g1]
          have hg : M5 71 34 = nI (zla (M2 72) o2 k 60 (n 5) - 1) := by rw [j6.2.2.2.1, q72, g5]
          have lt1 : ∀ x, zLd (M2 72) n o1 k 60 x < 2 ^ (n 0) := fun x => zld_lt (fun e => zal_lt _ _ _ _ _ _ _) _ _
          have lt2 : ∀ x, zLd (M2 72) n o2 k 60 x < 2 ^ (n 0) := fun x => zld_lt (fun e => zal_lt _ _ _ _ _ _ _) _ _
          have go : ∀ fr to, fr = max (zfi (M2 72) o1 k 60 (n 5)) (zfi (M2 72) o2 k 60 (n 5)) → to = min (zla (M2 72) o1 k 60 (n 5) - 1) (zla (M2 72) o2 k 60 (n 5) - 1) → fr ≤ to → zEx (zCall (d + 199)) 10 false 1 zc_Model_tied F 142 [.ref 71, .int (nI o1), .int (nI o2), .int (nI k), .int (nI fr), .int (nI to), .int (nI (zLd (M2 72) n o2 k 60 fr &&& zLd (M2 72) n o1 k 60 fr)), .int (nI (fr + 1))] [] (X, (0, 0), zLay, K2, B2, M5) := by
            intro fr to hfr hto hle
            rw [ztv_ref hD hSo2 p1 p2 hfr hto hle] at e
            exact lp_tiedM (d := d + 170) (np := n 0) (pc := n 3) (m := n 5) (D := zDD (M2 72) n) (A1 := zal (M2 72) (n 0) o1 k 60 (n 5)) (A2 := zal (M2 72) (n 0) o2 k 60 (n 5)) (B1 := zBk (M2 72) n o1 k 60) (B2 := zBk (M2 72) n o2 k 60) (s0 := zLd (M2 72) n o2 k 60 fr &&& zLd (M2 72) n o1 k 60 fr) hK2 (by omega) j6.2.2.2.2.2.1 (fun x hx => aa x (by omega)) (fun x hx => a1 x (by omega)) (fun x hx => b2 x (by omega)) (fun x hx => b1 x (by omega)) (by omega) (zand_lt (lt2 _)) hle e (to - fr) 0 (Nat.add_sub_cancel' hle)
          have no : (¬ max (zfi (M2 72) o1 k 60 (n 5)) (zfi (M2 72) o2 k 60 (n 5)) ≤ min (zla (M2 72) o1 k 60 (n 5) - 1) (zla (M2 72) o2 k 60 (n 5) - 1)) → F (some (.int (-1))) (X, (0, 0), zLay, K2, B2, M5) := by
            intro q
            unfold ztv at e
            rw [if_neg (fun z => q z.2)] at e
            exact e
          exact zb_Model_tiedQ_65 (d := d + 170) (L1 := zLd (M2 72) n o1 k 60) (L2 := zLd (M2 72) n o2 k 60) hK2 o1 o2 k _ _ hf hg ⟨f2, f3, g2, g3⟩ l2 l1 (fun z1 z2 z3 => go _ _ (by omega) (by omega) z3) (fun z1 z2 z3 => no (by omega)) (fun z1 z2 z3 => go _ _ (by omega) (by omega) z3) (fun z1 z2 z3 => no (by omega)) (fun z1 z2 z3 => go _ _ (by omega) (by omega) z3) (fun z1 z2 z3 => no (by omega)) (fun z1 z2 z3 => go _ _ (by omega) (by omega) z3) (fun z1 z2 z3 => no (by omega))
  · refine ⟨-1, fun F kk => ?_, fun K2 B2 M2 hK2 hS2 hs h2 => zop_no hK2 hS2 (zIn_tab h2) (fun F kk => ?_)⟩
    · have z := kk K B M hK hSw (zSc_rfl M) hT
      obtain ⟨⟨⟨c0, c1, c2, c3, c4, c5, c6, c7⟩, b0, b1, b2, b3, b4, b5, b6, b7⟩, -, -, ⟨q0, q1, q2, q3, q4, q5, q6, q7⟩, -⟩ := id h
      have t4 : (M 13 0).toInt = n 4 := by rw [q4.trans c4, znI (by omega)]
      refine zb_Boats_tiedR_0 (d := d + 170) _ _ _ (fun _ => z) (fun hne => ?_)
      by_cases hw : (0 ≤ a0 ∧ a0 < M 13 0) ∧ (0 ≤ a2 ∧ a2 < 60)
      · simp only [zlt, zle, zl0, zl60, t4] at hw
        obtain ⟨o1, h1, rfl⟩ := znat (x := a0) (n := n 4) hw.1.1 hw.1.2 (by omega)
        obtain ⟨k, hk, rfl⟩ := znat (x := a2) (n := 60) hw.2.1 hw.2.2 (by decide)
        refine sp_hasJ (d := d + 189) hK h h1 hk (fun M1 j1 => ?_)
        obtain ⟨s1, t1⟩ := zJc_sc j1
        have z := kk K B M1 hK hSw s1 t1
        cases zpos (M 72) o1 k 59 (n 0) (n 5) (n 3) (zDD (M 72) n)
        · exact zb_Boats_tiedN_11 (d := d + 170) _ _ _ z
        · refine zb_Boats_tiedQ_11 (d := d + 170) hK _ _ _ (fun q => ?_) (fun _ => z)
          have e13 : M1 13 = M 13 := j1.1 13 (by decide) (by decide) (by decide) (by decide) (by decide) (by decide) (by decide) (by decide)
          rw [e13] at q
          exfalso
          simp only [zlt, zle, zl0, t4] at q
          exact hv ⟨hw.1, q, hw.2, hne⟩
      · refine sp_hasJ0 (d := d + 189) hK hw ?_
        exact zb_Boats_tiedN_11 (d := d + 170) _ _ _ z
    · obtain ⟨⟨⟨c0, c1, c2, c3, c4, c5, c6, c7⟩, b0, b1, b2, b3, b4, b5, b6, b7⟩, -⟩ := id h2
      have v4 : (M2 72 4 - 1).toInt = (n 4 : Int) - 1 := by rw [c4, zsub1 (by omega)]
      refine zb_Model_tiedR_0 (d := d + 170) hK2 _ _ _ (fun g0 => kk) (fun g0 g1 => kk) (fun _ _ _ => kk) (fun _ _ _ _ => kk) (fun g0 g1 g2 g3 => ?_)
      exfalso
      simp only [zlt, zle, zl0, zl59, v4] at g0 g1 g3
      exact hv ⟨⟨g0.1, by omega⟩, ⟨g1.1, by omega⟩, ⟨g3.1, by omega⟩, g2⟩
