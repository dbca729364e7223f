/-! ===== send, appeal ===== -/
theorem zop_at {X : zX} {mb mm : Nat} {as : List Value} {d : Nat} {K : Nat → Nat → Option Nat} {B : Nat → Nat → Int64} {M : Nat → Nat → Int32} {n n' : Nat → Nat} {v : Int32} (hn : zIn M n n') (h1 : zAns X d mb (.ref 0 :: as) K B M v) (h2 : ∀ K2 B2 M2, zKok K2 → zSw K2 → zSc M M2 → zIn M2 n n' → zAns X d mm (.ref 71 :: as) K2 B2 M2 v) : zCall (d + 200) mb (.ref 0 :: as) (X, (0, 0), zLay, K, B, M) (fun v S1 => ∃ (x : Int32) (K1 : Nat → Nat → Option Nat) (B1 : Nat → Nat → Int64) (M1 : Nat → Nat → Int32), v = some (.int x) ∧ S1 = (X, (0, 0), zLay, K1, B1, M1) ∧ zCall (d + 200) mm (.ref 71 :: as) (X, (0, 0), zLay, K1, B1, M1) (fun v' S2 => ∃ (K2 : Nat → Nat → Option Nat) (B2 : Nat → Nat → Int64) (M2 : Nat → Nat → Int32), v' = some (.int x) ∧ S2 = (X, (0, 0), zLay, K2, B2, M2) ∧ zInv K2 B2 M2)) := by
  refine h1 _ (fun K1 B1 M1 k1 s1 c1 t1 => ⟨v, K1, B1, M1, rfl, rfl, ?_⟩)
  have i1 := zIn_scr hn c1 t1
  exact h2 K1 B1 M1 k1 s1 c1 i1 _ (fun K2 B2 M2 k2 s2 c2 t2 => ⟨K2, B2, M2, rfl, rfl, k2, s2, n, n', zIn_scr i1 c2 t2⟩)
/-- the memory with the letters of another -/
def zMz (M M2 : Nat → Nat → Int32) : Nat → Nat → Int32 := fun c => if c = 23 ∨ c = 24 ∨ c = 25 ∨ c = 72 then M c else M2 c
theorem zMz_o {M M2 : Nat → Nat → Int32} {c : Nat} (h : ¬ (c = 23 ∨ c = 24 ∨ c = 25 ∨ c = 72)) : zMz M M2 c = M2 c := if_neg h
theorem zMz_i {M M2 : Nat → Nat → Int32} {c : Nat} (h : c = 23 ∨ c = 24 ∨ c = 25 ∨ c = 72) : zMz M M2 c = M c := if_pos h
theorem zIn_let {M M2 : Nat → Nat → Int32} {n n' : Nat → Nat} (h : zIn M n n') (hs : zSc M (zMz M M2)) (hT : zTab M2) (h72 : ∀ j, j < 420 ∨ 478 ≤ j → M2 72 j = M 72 j) (hl : zLt M2 (M2 72) 23 24 25 (n 7)) : zIn M2 n n' := by
  have hb := h.1.2
  have hi := zIn_scr h hs (zTab_w (fun c _ _ => zMz_o (by omega)) hT)
  have e : ∀ c, ¬ (c = 23 ∨ c = 24 ∨ c = 25 ∨ c = 72) → M2 c = zMz M M2 c := fun c hc => (zMz_o hc).symm
  have e72 : zMz M M2 72 = M 72 := zMz_i (by omega)
  obtain ⟨a1, a2, a3, a4, a5, a6, a7, a8, a9, a10, a11, a12, a13, a14⟩ := hi
  rw [e72] at a1 a6
  have es : ∀ k : Nat → Nat, zSame (zMz M M2) M2 k := fun k => by
    unfold zSame
    rw [e 2 (by decide), e 3 (by decide), e 4 (by decide), e 5 (by decide), e 6 (by decide), e 7 (by decide), e 8 (by decide), e 14 (by decide), e 15 (by decide), e 16 (by decide), e 17 (by decide), e 18 (by decide), e 19 (by decide), e 20 (by decide), e 21 (by decide)]
    exact ⟨fun _ _ => rfl, fun _ _ => ⟨rfl, rfl, rfl⟩, fun _ _ => ⟨rfl, rfl, rfl⟩, fun _ _ => ⟨rfl, rfl, rfl, rfl⟩, fun _ _ => ⟨rfl, rfl, rfl, rfl⟩⟩
  refine ⟨?_, by rw [e 73 (by decide)]; exact a2, a3, ?_, ?_, ?_, ?_, hl, ?_, ?_, ?_, hT, ?_, ?_⟩
  · unfold zCs
    rw [h72 0 (by decide), h72 1 (by decide), h72 2 (by decide), h72 3 (by decide), h72 4 (by decide), h72 5 (by decide), h72 6 (by decide), h72 7 (by decide)]
    exact a1
  · unfold zCc at a4 ⊢
    rw [h72 0 (by decide), h72 1 (by decide), h72 2 (by decide), h72 3 (by decide), h72 4 (by decide), h72 5 (by decide), h72 6 (by decide), h72 7 (by decide), e 1 (by decide), e 13 (by decide), e 0 (by decide)]
    rw [e72] at a4
    exact a4
  · unfold zCi
    rw [e 73 (by decide), e 26 (by decide)]
    exact a5
  · exact zRw_self a6 (es n) (fun j hj => h72 j (by unfold zUsed at hj; omega))
  · rw [e 73 (by decide)]; exact zRw_self a7 (es n') (fun _ _ => rfl)
  · rw [e 73 (by decide)]; exact zLt_keep a9 (e 28 (by decide)) (e 29 (by decide)) (e 30 (by decide)) (fun _ _ _ => rfl) (Nat.le_refl _)
  · unfold zTp
    rw [e 71 (by decide), e 31 (by decide), e 32 (by decide), e 74 (by decide)]
    exact a10
  · rw [e 71 (by decide), e 31 (by decide)]
    exact a11
  · exact fun t ht => zTx_same (fun c hc => e c (by omega)) (a13 t ht)
  · unfold zNr
    rw [e 34 (by decide)]
    exact a14
theorem zSc_mz {M Mx M1 My M2 : Nat → Nat → Int32} (s1 : zSc M Mx) (e1 : ∀ c, c ≠ 23 → c ≠ 24 → c ≠ 25 → M1 c = Mx c) (s2 : zSc M1 My) (e2 : ∀ c, c ≠ 72 → M2 c = My c) : zSc M (zMz M M2) := by
  obtain ⟨p1, p2, p3, p4, p5⟩ := s1
  obtain ⟨r1, r2, r3, r4, r5⟩ := s2
  have e71 : zMz M M2 71 = My 71 := (zMz_o (by decide)).trans (e2 71 (by decide))
  have f71 : M1 71 = Mx 71 := e1 71 (by decide) (by decide) (by decide)
  have f1 : M1 1 = Mx 1 := e1 1 (by decide) (by decide) (by decide)
  refine ⟨fun c c1 c2 c3 c4 c5 c6 c7 => ?_, fun i i1 i2 => ?_, ?_, ?_, ?_⟩
  · by_cases q : c = 23 ∨ c = 24 ∨ c = 25 ∨ c = 72
    · exact zMz_i q
    · rw [zMz_o q, e2 c (by omega), r1 c c1 c2 c3 c4 c5 c6 c7, e1 c (by omega) (by omega) (by omega)]
      exact p1 c c1 c2 c3 c4 c5 c6 c7
  · rw [zMz_o (by decide), e2 1 (by decide), r2 i i1 i2, f1]
    exact p2 i i1 i2
  · rw [e71, r3, f71]; exact p3
  · rw [e71, r4, f71]; exact p4
  · rw [e71, r5, f71]; exact p5
theorem zLt_set {M M2 : Nat → Nat → Int32} {A A2 : Nat → Int32} {nt bt kn : Nat} (h : zLt M A 23 24 25 nt) (hs : ∀ b, b < 8 → b ≠ bt → M2 23 b = M 23 b ∧ A2 (420 + b) = A (420 + b)) (hr : ∀ b i, b < 8 → i < 3 → b ≠ bt ∨ i < kn → M2 25 (3 * b + i) = M 25 (3 * b + i) ∧ M2 24 (3 * b + i) = M 24 (3 * b + i) ∧ A2 (430 + 3 * b + i) = A (430 + 3 * b + i) ∧ A2 (454 + 3 * b + i) = A (454 + 3 * b + i)) (hb : zLt1 M2 A2 23 24 25 nt bt) : zLt M2 A2 23 24 25 nt := by
  intro b h8
  by_cases e : b = bt
  · rw [e]; exact hb
  · obtain ⟨k, h1, h2, h3, h4⟩ := h b h8
    obtain ⟨g1, g2⟩ := hs b h8 e
    refine ⟨k, h1, g1.trans h2, g2.trans h3, fun i hi => ?_⟩
    obtain ⟨f1, f2, f3, f4⟩ := hr b i h8 (by omega) (Or.inl e)
    rw [f1, f2, f3, f4]
    exact h4 i hi
section SE
variable {d : Nat} {F : Option Value → zS → Prop} {X : zX} {b : Nat × Nat} {K : Nat → Nat → Option Nat} {B : Nat → Nat → Int64} {M M1 : Nat → Nat → Int32} {n n' : Nat → Nat} {bt k u : Nat}
theorem sp_mj2 (hK : zKok K) (h : zIn M n n') (e : M1 72 = M 72) (ha : bt < 8 ∧ k < 60 ∧ u ≤ 60) (kk : ∀ M', zJr M1 M' bt k u (n 0) (n 5) (n 3) (zDD (M 72) n) → F (some (.int (zbi (zpos (M 72) bt k u (n 0) (n 5) (n 3) (zDD (M 72) n))))) (X, b, zLay, K, B, M')) : zCall (d + 9) zm_Model_journeys [.ref 71, .int (nI bt), .int (nI k), .int (nI u)] (X, b, zLay, K, B, M1) F := by
  have hb := (zIn_ck h).2.2.2.2.1
  rw [← e] at kk
  exact sp_Mjourneys hK (by rw [e]; exact zIn_cn h) (by rw [e]; exact zIn_sn h) (by rw [e]; exact h.1.1.2.2.2.1) (by omega) (fun _ => rfl) ha kk
theorem sp_canAsk2 (hK : zKok K) (h : zIn M n n') (e : M1 72 = M 72) {ru : Int32} (hbt : bt < n 4) (hr : (-1) ≤ ru.toInt ∧ ru.toInt < n 7) (hk : k < 60) (hp : zpos (M 72) bt k 60 (n 0) (n 5) (n 3) (zDD (M 72) n) = true) (kk : ∀ M', zJr M1 M' bt k 60 (n 0) (n 5) (n 3) (zDD (M 72) n) → F (some (.int 1)) (X, b, zLay, K, B, M')) : zCall (d + 10) zm_Model_canAsk [.ref 71, .int (nI bt), .int ru, .int (nI k)] (X, b, zLay, K, B, M1) F := by
  have hb := h.1.2
  have w7 : (M1 72 7 - 1).toInt = (n 7 : Int) - 1 := by rw [e, h.1.1.2.2.2.2.2.2.2, zsub1 (by omega)]
  refine zb_Model_canAsk_0 hK bt ru k (by rw [e]; exact h.1.1.2.2.2.2.1) (by omega) hbt hk (by simp only [zle, zlm, w7]; exact ⟨hr.1, by omega⟩) ?_
  refine sp_mj2 (u := 60) hK h e ⟨by omega, hk, by omega⟩ (fun M2 j2 => ?_)
  rw [hp]
  exact zb_Model_canAsk_31 bt ru k _ (fun q => absurd q (by decide)) (fun _ => kk M2 j2)
theorem zJr_RJ2 {M2 : Nat → Nat → Int32} (h : zIn M n n') (e : M1 72 = M 72) (hp : zpos (M 72) bt k u (n 0) (n 5) (n 3) (zDD (M 72) n) = true) (j : zJr M1 M2 bt k u (n 0) (n 5) (n 3) (zDD (M 72) n)) : zRJ (M 72) n bt k u M2 := by
  have hSo : zSok (M1 72) (n 0) (n 5) := by rw [e]; exact (zIn_sn h).2.2.2.2
  have hp' : zpos (M1 72) bt k u (n 0) (n 5) (n 3) (zDD (M1 72) n) = true := by rw [e]; exact hp
  have j' : zJr M1 M2 bt k u (n 0) (n 5) (n 3) (zDD (M1 72) n) := by rw [e]; exact j
  have main : zRJ (M1 72) n bt k u M2 := by
    obtain ⟨f1, f2, f3, f4, f5⟩ := zpos_fg hSo hp'
    have q := zJr_fg j' hSo f1
    exact ⟨q.1, q.2.1, fun e h1 h2 => (zJr_at j' f1 h1 (by omega)).1, fun e h1 h2 => (zJr_at j' f1 h1 (by omega)).2, j'.2.2.2.2.2.1, hSo, h.1.2.1, hp'⟩
  rw [e] at main
  exact main
theorem zJc_CJ2 (h : zIn M n n') (hp : zpos (M 72) bt k u (n 0) (n 5) (n 3) (zDD (M 72) n) = true) (j : zJc (M 72) M M1 bt k u (n 0) (n 1) (n 2) (n 3) (n 5) (zDD (M 72) n)) : zCJ (M 72) n bt k u M1 := by
  have hSo := (zIn_sn h).2.2.2.2
  obtain ⟨f1, f2, f3, f4, f5⟩ := zpos_fg hSo hp
  have hb := h.1.2
  obtain ⟨-, -, -, -, x1, x2, -, x6, -, x4⟩ := j
  exact ⟨by rw [x1, zfI_n f1], by rw [x2, f5], fun e he => by rw [x4 e he, zpl_my hSo (zIn_kxD h)]; rfl, x6, hb.2.2.2.1, hb.1, hp⟩
end SE
def zAcc (kc k : Nat) (x : Int32) (br : Bool) : Prop := kc < 3 ∧ (kc = 0 ∨ ¬ (nI k - x) < (14 : Int32)) ∧ br = true
section SD
variable {d : Nat} {F : Option Value → zS → Prop} {X : zX} {K : Nat → Nat → Option Nat} {B : Nat → Nat → Int64} {M : Nat → Nat → Int32} {n n' : Nat → Nat} {bt k kc tx : Nat} {ru x : Int32} {cl : Nat → Option (List (Nat × Nat))}
theorem sp_sendC (hK : zKok K) (hSw : zSw K) (h : zIn M n n') (h1 : bt < n 4) (hk : k < 60) (hp : zpos (M 72) bt k 60 (n 0) (n 5) (n 3) (zDD (M 72) n) = true) (hr : (-1) ≤ ru.toInt ∧ ru.toInt < n 7) (r1 : zRtx (n 7) ru tx) (r2 : ∀ M2, zSc M M2 → zRc M2 tx cl ∧ zRr M2 ru cl) (hkc : M 23 bt = nI kc) (hk3 : kc ≤ 3) (hx : 0 < kc → M 25 (3 * bt + kc - 1) = x) (k1 : zAcc kc k x (zbr (M 72) n bt k 60 cl) → ∀ K' M', zKok K' → zSw K' → zSc M M' → zTab M' → F (some (.int (nI (kc + 1)))) (X, (0, 0), zLay, K', B, (zu (zu (zu M' 24 (3 * bt + kc) ru) 25 (3 * bt + kc) (nI k)) 23 bt (nI (kc + 1))))) (k0 : ¬ zAcc kc k x (zbr (M 72) n bt k 60 cl) → ∀ K' M', zKok K' → zSw K' → zSc M M' → zTab M' → F (some (.int (-1))) (X, (0, 0), zLay, K', B, M')) : zCall (d + 200) zm_Boats_send [.ref 0, .int (nI bt), .int ru, .int (nI k)] (X, (0, 0), zLay, K, B, M) F := by
  have hb := h.1.2
  obtain ⟨⟨⟨c0, c1, c2, c3, c4, c5, c6, c7⟩, b0, b1, b2, b3, b4, b5, b6, b7⟩, -, -, ⟨q0, q1, q2, q3, q4, q5, q6, q7⟩, -⟩ := id h
  have t7 : (M 0 7).toInt = n 7 := by rw [q7.trans c7, znI (by omega)]
  refine zb_Boats_sendR_0 (d := d + 170) _ _ _ (fun q => ?_) (fun _ => ?_)
  · exfalso
    simp only [zle, zlt, zlm, t7] at q
    exact q hr
  refine sp_hasJA (d := d + 189) hK h _ _ (fun q => absurd ⟨bt, k, rfl, rfl, h1, hk, hp⟩ q) (fun bt2 k2 M1 e1 e2 l1 l2 p2 j1 => ?_)
  have e1 := (nI_eq (by omega) (by omega)).mp e1
  have e2 := (nI_eq (by omega) (by omega)).mp e2
  subst e1 e2
  obtain ⟨s1, t1⟩ := zJc_sc j1
  have cj := zJc_CJ h hp j1
  have rc := (r2 M1 s1).1
  have ph := zPh_in (zIn_scr h s1 t1) rc
  obtain ⟨z1, z2, z3, z4, z5⟩ := zsc_keep s1
  rw [z5] at ph
  have h07 : M1 0 7 = nI (n 7) := by rw [z3]; exact q7.trans c7
  have e23 : M1 23 = M 23 := s1.1 23 rfl (by decide) (by decide) (by decide) (by decide) (by decide) (by decide)
  have e25 : M1 25 = M 25 := s1.1 25 rfl (by decide) (by decide) (by decide) (by decide) (by decide) (by decide)
  have go : kc < 3 → (kc = 0 ∨ ¬ (nI k - x) < (14 : Int32)) → zCall (d + 199) zm_Boats_breaks [.ref 0, .int (nI bt), .ref tx, .int (nI k)] (X, (0, 0), zLay, K, B, M1) (zGo (d + 199) 9 false 1 zc_Boats_send F 42 [.ref 0, .int (nI bt), .int ru, .int (nI k)] [] (0, 0)) := by
    intro g1 g2
    refine sp_brC (d := d + 175) hK hSw cj ph (by omega) hk (fun K3 M3 k3 w3 u3 => ?_)
    have s3 := zSc_tr s1 (zFb_sc u3)
    refine zb_Boats_sendP_42 (d := d + 170) k3 bt ru k _ (by omega) (by rw [u3 23 (by omega), e23]; exact hkc) g1 (fun z => ?_) (fun z => ?_)
    · exact k1 ⟨g1, g2, by cases y : zbr (M 72) n bt k 60 cl with
        | true => rfl
        | false => rw [y] at z; exact absurd rfl z⟩ K3 M3 k3 w3 s3 (zFb_tab u3 t1)
    · exact k0 (fun q => by rw [q.2.2] at z; exact absurd z (by decide)) K3 M3 k3 w3 s3 (zFb_tab u3 t1)
  exact zb_Boats_sendP_14 (d := d + 170) (kc := kc) (x := x) hK bt ru k h07 r1 (zRc_tx rc) (by omega) hk (by rw [e23]; exact hkc) hk3 (fun q => by rw [e25]; exact hx q) (fun g1 g2 => go g1 (Or.inl g2)) (fun g1 g2 _ g3 => k0 (fun q => by rcases q.2.1 with y | y; exact absurd y g2; exact absurd g3 y) K M1 hK hSw s1 t1) (fun g1 g2 _ g3 => go g1 (Or.inr g3)) (fun _ g2 g3 => absurd g3 g2) (fun _ g2 g3 => absurd g3 g2) (fun g1 => k0 (fun q => absurd q.1 (by omega)) K M1 hK hSw s1 t1)
theorem sp_sendM {M1 : Nat → Nat → Int32} (hK : zKok K) (h : zIn M n n') (e : M1 72 = M 72) (h1 : bt < n 4) (hk : k < 60) (hp : zpos (M 72) bt k 60 (n 0) (n 5) (n 3) (zDD (M 72) n) = true) (hr : (-1) ≤ ru.toInt ∧ ru.toInt < n 7) (rr : zRr M1 ru cl) (hkc : M 72 (420 + bt) = nI kc) (hk3 : kc ≤ 3) (hx : 0 < kc → M 72 (429 + 3 * bt + kc) = x) (k1 : zAcc kc k x (zbr (M 72) n bt k 60 cl) → ∀ B' M', zSc M1 M' → (∀ c, 1 ≤ c → c ≤ 12 → M' c = M1 c) → F (some (.int (M' 72 (420 + bt) + 1))) (X, (0, 0), zLay, K, B', (zu (zu (zu M' 72 (430 + 3 * bt + kc) (nI k)) 72 (454 + 3 * bt + kc) ru) 72 (420 + bt) (M' 72 (420 + bt) + 1)))) (k0 : ¬ zAcc kc k x (zbr (M 72) n bt k 60 cl) → ∀ B' M', zSc M1 M' → (∀ c, 1 ≤ c → c ≤ 12 → M' c = M1 c) → F (some (.int (-1))) (X, (0, 0), zLay, K, B', M')) : zCall (d + 200) zm_Model_send [.ref 71, .int (nI bt), .int ru, .int (nI k)] (X, (0, 0), zLay, K, B, M1) F := by
  have hb := h.1.2
  refine zb_Model_sendR_0 (d := d + 170) _ _ _ ?_
  refine sp_canAsk2 (d := d + 189) hK h e h1 hr hk hp (fun M2 j2 => ?_)
  have s2 := (zJr_sc j2).1
  have w2 : ∀ c, 1 ≤ c → c ≤ 12 → M2 c = M1 c := fun c c1 c2 => j2.1 c (by omega) (by omega) (by omega) (by omega) (by omega)
  have e2 : M2 72 = M1 72 := zJr_72 j2
  have rq := zRq_in h (zJr_RJ2 h e hp j2) (e2.trans e) (zRr_same (zsc_keep s2).2.1 rr)
  refine zb_Model_sendP_7 (d := d + 170) (kc := kc) hK bt ru k (by omega) (by rw [e2, e]; exact hkc) hk3 (fun z => k0 (fun q => absurd q.1 (by omega)) B M2 s2 w2) (fun z => ?_)
  refine sp_brO (d := d + 175) hK rq (by omega) hk (fun B3 M3 u3 => ?_)
  have s3 := zSc_tr s2 (zGr_sc u3)
  have w3 : ∀ c, 1 ≤ c → c ≤ 12 → M3 c = M1 c := fun c c1 c2 => (u3 c (by omega) (by omega) (by omega) (by omega)).trans (w2 c c1 c2)
  have e3 : M3 72 = M 72 := (u3 72 (by decide) (by decide) (by decide) (by decide)).trans (e2.trans e)
  have nb : ∀ w : Int32, zu (zu M3 72 (430 + 3 * bt + kc) (nI k)) 72 (454 + 3 * bt + kc) w 72 (420 + bt) = M3 72 (420 + bt) := fun w => by
    rw [zu_at, if_neg (by omega), zu_at, if_neg (by omega)]
  have yes : zbi (zbr (M 72) n bt k 60 cl) ≠ 0 → zbr (M 72) n bt k 60 cl = true := fun z => by
    cases y : zbr (M 72) n bt k 60 cl with
    | true => rfl
    | false => rw [y] at z; exact absurd rfl z
  refine zb_Model_sendP_31 (d := d + 170) (kc := kc) (x := x) hK bt ru k _ (by omega) (by rw [e3]; exact hkc) (by omega) (fun q => by rw [e3]; exact hx q) (fun z z2 => ?_) (fun z z2 z3 => ?_) (fun z z2 z3 => ?_) (fun z => ?_)
  · have := k1 ⟨by omega, Or.inl (by omega), yes z⟩ B3 M3 s3 w3
    rw [nb]
    exact this
  · have := k1 ⟨by omega, Or.inr (fun q => by simp only [zle, zlt] at q z3; omega), yes z⟩ B3 M3 s3 w3
    rw [nb]
    exact this
  · refine k0 (fun q => ?_) B3 M3 s3 w3
    rcases q.2.1 with y | y
    · omega
    · simp only [zle, zlt] at y z3
      omega
  · exact k0 (fun q => by rw [q.2.2] at z; exact absurd z (by decide)) B3 M3 s3 w3
end SD
theorem zlet_of {M : Nat → Nat → Int32} {n n' : Nat → Nat} (h : zIn M n n') {bt : Nat} (hb : bt < 8) : ∃ kc, kc ≤ 3 ∧ M 23 bt = nI kc ∧ M 72 (420 + bt) = nI kc ∧ ∀ i, i < kc → M 25 (3 * bt + i) = M 72 (430 + 3 * bt + i) ∧ M 24 (3 * bt + i) = M 72 (454 + 3 * bt + i) ∧ (∃ x, x < 60 ∧ M 72 (430 + 3 * bt + i) = nI x) ∧ (M 72 (454 + 3 * bt + i) = -1 ∨ ∃ t, t < n 7 ∧ M 72 (454 + 3 * bt + i) = nI t) := h.2.2.2.2.2.2.2.1 bt hb
theorem zop_send (X : zX) (a0 a1 a2 : Int32) : zOp zInv X zm_Boats_send zm_Model_send [.int a0, .int a1, .int a2] := by
  intro d K B M hI
  obtain ⟨hK, hSw, n, n', h⟩ := hI
  have hT := zIn_tab h
  have hb := h.1.2
  obtain ⟨⟨⟨c0, c1, c2, c3, c4, c5, c6, c7⟩, b0, b1, b2, b3, b4, b5, b6, b7⟩, -, -, ⟨q0, q1, q2, q3, q4, q5, q6, q7⟩, -⟩ := id h
  have t7 : (M 0 7).toInt = n 7 := by rw [q7.trans c7, znI (by omega)]
  by_cases hv : zAsk (M 72) n a0 a2 ∧ ((-1) ≤ a1.toInt ∧ a1.toInt < n 7)
  · obtain ⟨⟨bt, k, rfl, rfl, h1, hk, hp⟩, hr⟩ := hv
    obtain ⟨tx, cl, r1, r2⟩ := zRul2 h hr
    obtain ⟨kc, k3, l1, l2, l3⟩ := zlet_of h (bt := bt) (by omega)
    have lx : 0 < kc → M 25 (3 * bt + kc - 1) = M 72 (429 + 3 * bt + kc) := fun q => by
      have := (l3 (kc - 1) (by omega)).1
      rw [show 3 * bt + (kc - 1) = 3 * bt + kc - 1 by omega, show 430 + 3 * bt + (kc - 1) = 429 + 3 * bt + kc by omega] at this
      exact this
    by_cases ha : zAcc kc k (M 72 (429 + 3 * bt + kc)) (zbr (M 72) n bt k 60 cl)
    · refine sp_sendC hK hSw h h1 hk hp hr r1 r2 l1 k3 lx (fun _ K3 M3 k3' w3 s3 t3 => ?_) (fun q => absurd ha q)
      refine ⟨nI (kc + 1), K3, B, _, rfl, rfl, ?_⟩
      have e3 : M3 72 = M 72 := (zsc_keep s3).2.2.2.2
      generalize hM1 : (zu (zu (zu M3 24 (3 * bt + kc) a1) 25 (3 * bt + kc) (nI k)) 23 bt (nI (kc + 1))) = M1
      have u1 : ∀ c, c ≠ 23 → c ≠ 24 → c ≠ 25 → M1 c = M3 c := fun c d1 d2 d3 => by rw [← hM1, zu_oc d1, zu_oc d3, zu_oc d2]
      have e1 : M1 72 = M 72 := (u1 72 (by decide) (by decide) (by decide)).trans e3
      refine sp_sendM (M := M) (cl := cl) k3' h e1 h1 hk hp hr (zRr_same (fun c d1 d2 => u1 c (by omega) (by omega) (by omega)) (r2 M3 s3).2) l2 k3 (fun _ => rfl) (fun _ B4 M4 s4 w4 => ?_) (fun q => absurd ha q)
      have e4 : M4 72 = M 72 := (zsc_keep s4).2.2.2.2.trans e1
      have f4 : ∀ c, c = 23 ∨ c = 24 ∨ c = 25 → M4 c = M1 c := fun c hc => by
        rcases hc with q | q | q <;> (rw [q]; exact s4.1 _ rfl (by decide) (by decide) (by decide) (by decide) (by decide) (by decide))
      have v4 : M4 72 (420 + bt) + 1 = nI (kc + 1) := by rw [e4, l2, nI_1]
      rw [v4]
      refine ⟨K3, B4, _, rfl, rfl, k3', w3, n, n', ?_⟩
      generalize hM2 : (zu (zu (zu M4 72 (430 + 3 * bt + kc) (nI k)) 72 (454 + 3 * bt + kc) a1) 72 (420 + bt) (nI (kc + 1))) = M2
      have u2 : ∀ c, c ≠ 72 → M2 c = M4 c := fun c hc => by rw [← hM2, zu_oc hc, zu_oc hc, zu_oc hc]
      have a2 : ∀ j, M2 72 j = if j = 420 + bt then nI (kc + 1) else if j = 454 + 3 * bt + kc then a1 else if j = 430 + 3 * bt + kc then nI k else M 72 j := fun j => by rw [← hM2, zu_at, zu_at, zu_at, e4]
      have g23 : ∀ j, M2 23 j = if j = bt then nI (kc + 1) else M 23 j := fun j => by
        rw [u2 23 (by decide), f4 23 (by omega), ← hM1, zu_at, zu_oc (by decide), zu_oc (by decide), s3.1 23 rfl (by decide) (by decide) (by decide) (by decide) (by decide) (by decide)]
      have g24 : ∀ j, M2 24 j = if j = 3 * bt + kc then a1 else M 24 j := fun j => by
        rw [u2 24 (by decide), f4 24 (by omega), ← hM1, zu_oc (by decide), zu_oc (by decide), zu_at, s3.1 24 rfl (by decide) (by decide) (by decide) (by decide) (by decide) (by decide)]
      have g25 : ∀ j, M2 25 j = if j = 3 * bt + kc then nI k else M 25 j := fun j => by
        rw [u2 25 (by decide), f4 25 (by omega), ← hM1, zu_oc (by decide), zu_at, zu_oc (by decide), s3.1 25 rfl (by decide) (by decide) (by decide) (by decide) (by decide) (by decide)]
      have k2 := ha.1
      refine zIn_let h (zSc_mz s3 u1 s4 u2) (zTab_w (fun c d1 d2 => by rw [u2 c (by omega), w4 c d1 d2, u1 c (by omega) (by omega) (by omega)]) t3) (fun j hj => ?_) (zLt_set (kn := kc) (bt := bt) h.2.2.2.2.2.2.2.1 (fun b h8 hne => ?_) (fun b i h8 i3 hor => ?_) ?_)
      · rw [a2, if_neg (by omega), if_neg (by omega), if_neg (by omega)]
      · rw [g23, if_neg hne, a2, if_neg (by omega), if_neg (by omega), if_neg (by omega)]
        exact ⟨rfl, rfl⟩
      · rw [g25, if_neg (by omega), g24, if_neg (by omega), a2, if_neg (by omega), if_neg (by omega), if_neg (by omega), a2, if_neg (by omega), if_neg (by omega), if_neg (by omega)]
        exact ⟨rfl, rfl, rfl, rfl⟩
      · refine ⟨kc + 1, by omega, by rw [g23, if_pos rfl], by rw [a2, if_pos rfl], fun i hi => ?_⟩
        by_cases y : i = kc
        · subst y
          rw [g25, if_pos rfl, g24, if_pos rfl, a2, if_neg (by omega), if_neg (by omega), if_pos rfl, a2, if_neg (by omega), if_pos rfl]
          refine ⟨rfl, rfl, ⟨k, hk, rfl⟩, ?_⟩
          by_cases y : a1 = -1
          · exact Or.inl y
          · right
            have h0 : 0 ≤ a1.toInt := by
              rcases Int.lt_or_le a1.toInt 0 with q | q
              · exact absurd (Int32.toInt_inj.mp (show a1.toInt = (-1 : Int32).toInt by rw [zlm]; omega)) y
              · exact q
            obtain ⟨t, ht, e⟩ := znat (x := a1) (n := n 7) h0 hr.2 (by omega)
            exact ⟨t, ht, e⟩
        · rw [g25, if_neg (by omega), g24, if_neg (by omega), a2, if_neg (by omega), if_neg (by omega), if_neg (by omega), a2, if_neg (by omega), if_neg (by omega), if_neg (by omega)]
          exact l3 i (by omega)
    · refine zop_at (v := -1) h (fun F kk => ?_) (fun K2 B2 M2 hK2 hS2 hs h2' F kk => ?_)
      · exact sp_sendC hK hSw h h1 hk hp hr r1 r2 l1 k3 lx (fun q => absurd q ha) (fun _ K3 M3 k3' w3 s3 t3 => kk K3 B M3 k3' w3 s3 t3)
      · have e72 : M2 72 = M 72 := (zsc_keep hs).2.2.2.2
        exact sp_sendM (M := M) (cl := cl) hK2 h e72 h1 hk hp hr (r2 M2 hs).2 l2 k3 (fun _ => rfl) (fun q => absurd q ha) (fun _ B4 M4 s4 w4 => kk K2 B4 M4 hK2 hS2 s4 (zTab_w w4 (zIn_tab h2')))
  · refine zop_at (v := -1) h (fun F kk => ?_) (fun K2 B2 M2 hK2 hS2 hs h2' F kk => ?_)
    · have z := kk K B M hK hSw (zSc_rfl M) hT
      refine zb_Boats_sendR_0 (d := d + 170) _ _ _ (fun _ => z) (fun g1 => ?_)
      refine sp_hasJA (d := d + 189) hK h _ _ (fun _ M1 s1 t1 => ?_) (fun bt k M1 e1 e2 l1 l2 p1 j1 => ?_)
      · exact zb_Boats_sendN_14 (d := d + 170) _ _ _ (kk K B M1 hK hSw s1 t1)
      · simp only [zle, zlt, zlm, t7] at g1
        exact absurd ⟨⟨bt, k, e1, e2, l1, l2, p1⟩, g1⟩ hv
    · have e72 : M2 72 = M 72 := (zsc_keep hs).2.2.2.2
      refine zb_Model_sendR_0 (d := d + 170) _ _ _ ?_
      refine sp_canAskA (d := d + 189) hK2 h2' _ _ _ (fun _ M1 s1 t1 => ?_) (fun bt k M1 e1 e2 l1 l2 hr p1 j1 => ?_)
      · exact zb_Model_sendN_7 (d := d + 170) _ _ _ (kk K2 B2 M1 hK2 hS2 s1 t1)
      · exact absurd ⟨⟨bt, k, e1, e2, l1, l2, by rw [← e72]; exact p1⟩, hr⟩ hv
