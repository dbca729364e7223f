/-! ===== reading a text: the class's reader ===== -/
def ztH (X : zX) (K : Nat → Nat → Option Nat) (tx stc : Nat) : Prop := zKok K ∧ X 1001 = some (7, zknf) ∧ zget zLay tx = some (.inl 8) ∧ K tx 0 = some stc ∧ zget zLay stc = some (.inr (0, 300)) ∧ (tx ≠ stc ∧ 37 < tx ∧ 37 < stc)
def ztC (M : Nat → Nat → Int32) (T : Nat → Nat) (len tx stc w p : Nat) (c : List (Nat × Nat)) : Prop := ztT M T len ∧ zTk M T len p ∧ p ≤ len ∧ M 31 2 = 0 ∧ (M 31 8 = nI (3 + w) ∧ w < 4 ∧ M 31 3 = -1) ∧ M tx 1 = nI c.length ∧ c.length ≤ 300 ∧ ∀ i, i < c.length → M stc i = zcc (c.getD i (0, 0))
def ztB (M : Nat → Nat → Int32) (T : Nat → Nat) (len tx stc w f a : Nat) : Prop := ztT M T len ∧ (∃ p, zTk M T len p ∧ p ≤ len) ∧ M 31 2 = nI f ∧ (1 ≤ f ∧ f ≤ 5) ∧ M 31 3 = nI a ∧ (M 31 8 = nI (3 + w) ∧ w < 4) ∧ ∃ z, z ≤ 300 ∧ M tx 1 = nI z
def ztP (M : Nat → Nat → Int32) (T : Nat → Nat) (len tx stc w : Nat) (o : zO) : Prop := match o with
  | Sum.inl (p, c) => ztC M T len tx stc w p c
  | Sum.inr (f, a) => ztB M T len tx stc w f a
def ztF (tx stc : Nat) (M M2 : Nat → Nat → Int32) : Prop := ∀ c, c ≠ 31 → c ≠ tx → c ≠ stc → M2 c = M c
theorem ztF_rfl (tx stc : Nat) (M : Nat → Nat → Int32) : ztF tx stc M M := fun _ _ _ _ => rfl
theorem ztF_tr {tx stc : Nat} {M M2 M3 : Nat → Nat → Int32} (h : ztF tx stc M M2) (k : ztF tx stc M2 M3) : ztF tx stc M M3 := fun c h1 h2 h3 => (k c h1 h2 h3).trans (h c h1 h2 h3)
theorem ztF_l {tx stc : Nat} {M M2 : Nat → Nat → Int32} (h : zLf M M2) : ztF tx stc M M2 := fun c h1 _ _ => h.1 c h1
theorem zcc_v {k v : Nat} (hk : k < 256) (hv : v ≤ 10000) : ((nI v) <<< (8 &&& 31)) ||| (nI k) = zcc (k, v) := by
  unfold zcc
  apply Int32.toBitVec_inj.mp
  apply BitVec.eq_of_toNat_eq
  have e1 : (nI v).toBitVec.toNat = v := pk_tn (by omega)
  have e2 : (nI k).toBitVec.toNat = k := pk_tn (by omega)
  have e3 : (nI (256 * v + k)).toBitVec.toNat = 256 * v + k := pk_tn (by omega)
  have e8 : ((8 : Int32) &&& 31) = 8 := rfl
  rw [e8, e3, Int32.toBitVec_or, BitVec.toNat_or, e2, Int32.toBitVec_shiftLeft]
  have e4 : ((nI v).toBitVec <<< ((8 : Int32).toBitVec.smod 32)).toNat = v * 256 := by
    have : ((8 : Int32).toBitVec.smod 32) = 8#32 := by decide
    rw [this]
    show ((nI v).toBitVec <<< (8#32).toNat).toNat = v * 256
    rw [BitVec.toNat_shiftLeft, e1, Nat.shiftLeft_eq]
    show v * 2 ^ 8 % 2 ^ 32 = v * 256
    omega
  rw [e4, show v * 256 = 2 ^ 8 * v by omega, ← Nat.two_pow_add_eq_or_of_lt (by omega)]
theorem zcc_c {k : Nat} (hk : k < 256) : ((0 : Int32) <<< ((8 : Int32) &&& 31)) ||| (nI k) = zcc (k, 0) := zcc_v (v := 0) hk (by omega)
section PRS
variable {X : zX} {K : Nat → Nat → Option Nat} {B : Nat → Nat → Int64} {T : Nat → Nat} {len tx stc w : Nat}
theorem ztC_adv {M M2 : Nat → Nat → Int32} {p q : Nat} {c : List (Nat × Nat)} (hH : ztH X K tx stc) (h : ztC M T len tx stc w p c) (l : zLf M M2) (k : zTk M2 T len q) (hq : q ≤ len) : ztC M2 T len tx stc w q c := by
  obtain ⟨h1, h2, h3, h4, h5, h6, h7, h8⟩ := h
  have t := hH.2.2.2.2.2
  exact ⟨ztT_f l h1, k, hq, by rw [l.2 2 (by decide) (by decide) (by decide) (by decide)]; exact h4, by rw [l.2 8 (by decide) (by decide) (by decide) (by decide), l.2 3 (by decide) (by decide) (by decide) (by decide)]; exact h5, by rw [l.1 tx (by omega)]; exact h6, h7, by rw [l.1 stc (by omega)]; exact h8⟩
theorem ztB_adv {M M2 : Nat → Nat → Int32} {q f a : Nat} (hH : ztH X K tx stc) (h : ztB M T len tx stc w f a) (l : zLf M M2) (k : zTk M2 T len q) (hq : q ≤ len) : ztB M2 T len tx stc w f a := by
  obtain ⟨h1, -, h3, h4, h5, h6, h7⟩ := h
  have t := hH.2.2.2.2.2
  exact ⟨ztT_f l h1, ⟨q, k, hq⟩, by rw [l.2 2 (by decide) (by decide) (by decide) (by decide)]; exact h3, h4, by rw [l.2 3 (by decide) (by decide) (by decide) (by decide)]; exact h5, by rw [l.2 8 (by decide) (by decide) (by decide) (by decide)]; exact h6, by rw [l.1 tx (by omega)]; exact h7⟩
theorem ztB_of {M : Nat → Nat → Int32} {p f : Nat} {v : Int32} {c : List (Nat × Nat)} (hH : ztH X K tx stc) (h : ztC M T len tx stc w p c) (hv : v = nI f) (hf : 1 ≤ f ∧ f ≤ 5) : ztB (zu (zu M 31 2 v) 31 3 (nI (ztst T len p))) T len tx stc w f (ztst T len p) := by
  obtain ⟨h1, h2, h3, h4, h5, h6, h7, h8⟩ := h
  have t := hH.2.2.2.2.2
  have e : ∀ i, i ≠ 2 → i ≠ 3 → (zu (zu M 31 2 v) 31 3 (nI (ztst T len p))) 31 i = M 31 i := fun i i1 i2 => by rw [zu_at, if_neg i2, zu_at, if_neg i1]
  have e2 : ∀ c, c ≠ 31 → (zu (zu M 31 2 v) 31 3 (nI (ztst T len p))) c = M c := fun c hc => by rw [zu_oc hc, zu_oc hc]
  refine ⟨⟨by rw [e 1 (by decide) (by decide)]; exact h1.1, h1.2.1, by rw [e2 32 (by decide)]; exact h1.2.2⟩, ⟨p, ?_, h3⟩, by rw [zu_at, if_neg (by decide), zu_at, if_pos rfl, hv], hf, by rw [zu_at, if_pos rfl], ⟨by rw [e 8 (by decide) (by decide)]; exact h5.1, h5.2.1⟩, c.length, h7, by rw [e2 tx (by omega)]; exact h6⟩
  unfold zTk
  rw [e 4 (by decide) (by decide), e 5 (by decide) (by decide), e 6 (by decide) (by decide), e 7 (by decide) (by decide)]
  exact h2
theorem ztF_31 {M M2 : Nat → Nat → Int32} {i : Nat} {v : Int32} (h : ztF tx stc M M2) : ztF tx stc M (zu M2 31 i v) := fun c h1 h2 h3 => by rw [zu_oc h1]; exact h c h1 h2 h3
theorem sp_addC {d : Nat} {F : Option Value → zS → Prop} {b : Nat × Nat} {M : Nat → Nat → Int32} {p k v : Nat} {c : List (Nat × Nat)} (hH : ztH X K tx stc) (h : ztC M T len tx stc w p c) (hc : c.length < 300) (hk : k < 256) (hv : v ≤ 10000) (kk : ∀ M', ztC M' T len tx stc w p (c ++ [(k, v)]) → ztF tx stc M M' → F none (X, b, zLay, K, B, M')) : zCall (d + 1) zm_Text_add [.ref tx, .int (nI k), .int (nI v)] (X, b, zLay, K, B, M) F := by
  obtain ⟨h1, h2, h3, h4, h5, h6, h7, h8⟩ := h
  obtain ⟨g1, g2, g3, g4, g5, g6⟩ := hH
  refine zb_Text_add_0 k v g3 g4 g5 h6 h7 g6 (fun z => absurd z (by omega)) (fun _ => ?_)
  rw [zcc_v hk hv]
  have e : ∀ c', c' ≠ tx → c' ≠ stc → (zu (zu M stc c.length (zcc (k, v))) tx 1 (nI (c.length + 1))) c' = M c' := fun c' i1 i2 => by rw [zu_oc i1, zu_oc i2]
  refine kk _ ⟨⟨by rw [e 31 (by omega) (by omega)]; exact h1.1, h1.2.1, by rw [e 32 (by omega) (by omega)]; exact h1.2.2⟩, by unfold zTk; rw [e 31 (by omega) (by omega)]; exact h2, h3, by rw [e 31 (by omega) (by omega)]; exact h4, by rw [e 31 (by omega) (by omega)]; exact h5, by rw [zu_at, if_pos rfl, List.length_append]; rfl, by rw [List.length_append]; show c.length + 1 ≤ 300; omega, fun i hi => ?_⟩ (fun c' _ i1 i2 => e c' i1 i2)
  rw [List.length_append] at hi
  have hi : i < c.length + 1 := hi
  rw [zu_oc (by omega), zu_at]
  by_cases q : i = c.length
  · rw [if_pos q, q]
    simp [List.getD]
  · rw [if_neg q, h8 i (by omega)]
    simp [List.getD, List.getElem?_append_left (show i < c.length by omega)]
theorem sp_addB {d : Nat} {F : Option Value → zS → Prop} {b : Nat × Nat} {M : Nat → Nat → Int32} {k v f a : Nat} (hH : ztH X K tx stc) (h : ztB M T len tx stc w f a) (kk : ∀ M', ztB M' T len tx stc w f a → ztF tx stc M M' → F none (X, b, zLay, K, B, M')) : zCall (d + 1) zm_Text_add [.ref tx, .int (nI k), .int (nI v)] (X, b, zLay, K, B, M) F := by
  have h0 := h
  obtain ⟨h1, ⟨p, h2, h2'⟩, h3, h4, h5, h6, z, h7, h8⟩ := h
  obtain ⟨g1, g2, g3, g4, g5, g6⟩ := hH
  refine zb_Text_add_0 k v g3 g4 g5 h8 h7 g6 (fun _ => kk M h0 (ztF_rfl _ _ _)) (fun hz => ?_)
  have e : ∀ c' (y x : Int32), c' ≠ tx → c' ≠ stc → (zu (zu M stc z x) tx 1 y) c' = M c' := fun c' y x i1 i2 => by rw [zu_oc i1, zu_oc i2]
  exact kk _ ⟨⟨by rw [e 31 _ _ (by omega) (by omega)]; exact h1.1, h1.2.1, by rw [e 32 _ _ (by omega) (by omega)]; exact h1.2.2⟩, ⟨p, by unfold zTk; rw [e 31 _ _ (by omega) (by omega)]; exact h2, h2'⟩, by rw [e 31 _ _ (by omega) (by omega)]; exact h3, h4, by rw [e 31 _ _ (by omega) (by omega)]; exact h5, by rw [e 31 _ _ (by omega) (by omega)]; exact h6, z + 1, by omega, by rw [zu_at, if_pos rfl]⟩ (fun c' _ i1 i2 => e c' _ _ i1 i2)
/-- add behind a part that went well or not -/
theorem sp_addO {d : Nat} {F : Option Value → zS → Prop} {b : Nat × Nat} {M : Nat → Nat → Int32} {k : Nat} {o : zO} (hH : ztH X K tx stc) (h : ztP M T len tx stc w o) (hl : ∀ p c, o = .ok p c → c.length < 300) (hk : k < 256) (kk : ∀ M', ztP M' T len tx stc w (zadd o (k, 0)) → ztF tx stc M M' → F none (X, b, zLay, K, B, M')) : zCall (d + 1) zm_Text_add [.ref tx, .int (nI k), .int (nI 0)] (X, b, zLay, K, B, M) F := by
  cases o using zO.cs with
  | ok p c => exact sp_addC hH h (hl p c rfl) hk (by omega) kk
  | bad f a => exact sp_addB hH h kk
abbrev zDt (T : Nat → Nat) (len w L dp p : Nat) (c : List (Nat × Nat)) (o : zO) : Prop := zDv (ztk T len) (ztst T len) (ztnx T len) (ztnu T len) w L dp p c o
def zPs (X : zX) (K : Nat → Nat → Option Nat) (B : Nat → Nat → Int64) (T : Nat → Nat) (len tx stc w L dp f mi : Nat) (as : List Value) : Prop := ∀ (n : Nat) (F : Option Value → zS → Prop) (b : Nat × Nat) (M : Nat → Nat → Int32) (p : Nat) (c : List (Nat × Nat)), f ≤ n → ztC M T len tx stc w p c → c.length ≤ ztst T len p → (∀ o M', zDt T len w L dp p c o → ztP M' T len tx stc w o → ztF tx stc M M' → F none (X, b, zLay, K, B, M')) → zCall n mi as (X, b, zLay, K, B, M) F
theorem ztl3 {M : Nat → Nat → Int32} {p : Nat} {c : List (Nat × Nat)} (h : ztC M T len tx stc w p c) : len ≤ 300 := h.1.2.1
theorem pr_part5 {dp f : Nat} (hf : 19 ≤ f) (h : zPs X K B T len tx stc w 5 dp f zm_Reader_readOne [.ref 31, .ref tx, .int (nI dp)]) : zPs X K B T len tx stc w 5 dp (f + 1) zm_Reader_readPart [.ref 31, .ref tx, .int (nI 5), .int (nI dp)] := by
  intro n F b M p c hn hC hc kk
  obtain ⟨e, rfl⟩ : ∃ e, n = e + 20 := ⟨n - 20, by omega⟩
  refine zb_Reader_readPartL5_0 dp ?_
  exact h (e + 19) _ _ M p c (by omega) hC hc (fun o M' D P Fr => zb_Reader_readPart_25 5 dp (kk o M' D P Fr))
theorem pr_part2 {dp f : Nat} (hf : 19 ≤ f) (h : zPs X K B T len tx stc w 2 dp f zm_Reader_readAsk [.ref 31, .ref tx, .int (nI dp)]) : zPs X K B T len tx stc w 2 dp (f + 1) zm_Reader_readPart [.ref 31, .ref tx, .int (nI 2), .int (nI dp)] := by
  intro n F b M p c hn hC hc kk
  obtain ⟨e, rfl⟩ : ∃ e, n = e + 20 := ⟨n - 20, by omega⟩
  refine zb_Reader_readPartL2_0 dp ?_
  exact h (e + 19) _ _ M p c (by omega) hC hc (fun o M' D P Fr => zb_Reader_readPart_11 2 dp (kk o M' D P Fr))
theorem pr_partj {L dp f : Nat} (hL : L ≤ 4 ∧ L ≠ 2) (hf : 19 ≤ f) (h : zPs X K B T len tx stc w L dp f zm_Reader_readJoined [.ref 31, .ref tx, .int (nI L), .int (nI dp)]) : zPs X K B T len tx stc w L dp (f + 1) zm_Reader_readPart [.ref 31, .ref tx, .int (nI L), .int (nI dp)] := by
  intro n F b M p c hn hC hc kk
  obtain ⟨e, rfl⟩ : ∃ e, n = e + 20 := ⟨n - 20, by omega⟩
  refine zb_Reader_readPart_0 L dp hL.1 hL.2 (fun _ _ => ?_) (fun _ z => absurd z (by omega)) (fun z => absurd z hL.2)
  exact h (e + 19) _ _ M p c (by omega) hC hc (fun o M' D P Fr => zb_Reader_readPart_35 L dp (kk o M' D P Fr))
theorem pr_joined {L dp f : Nat} (hH : ztH X K tx stc) (h8 : dp ≤ 8) (hL : zJl L) (hf : 19 ≤ f) (h : zPs X K B T len tx stc w (L + 1) dp f zm_Reader_readPart [.ref 31, .ref tx, .int (nI (L + 1)), .int (nI dp)]) : zPs X K B T len tx stc w L dp (f + 1) zm_Reader_readJoined [.ref 31, .ref tx, .int (nI L), .int (nI dp)] := by
  intro n F b M0 p0 c0 hn hC0 hc0 kk0
  obtain ⟨e, rfl⟩ : ∃ e, n = e + 20 := ⟨n - 20, by omega⟩
  have hL4 : L ≤ 4 := by unfold zJl at hL; omega
  have hT := ztok T (len := len)
  have l3 := ztl3 hC0
  have badh : ∀ (i : Nat) (M : Nat → Nat → Int32) (l5 : Value) (f a : Nat), l5.category = 1 → i ≤ 300 → ztB M T len tx stc w f a → F none (X, b, zLay, K, B, M) → zEx (zCall (e + 19)) 6 false 0 zc_Reader_readJoined F 12 [.ref 31, .ref tx, .int (nI L), .int (nI dp), .int (nI i), l5] [] (X, b, zLay, K, B, M) := by
    intro i M l5 f a c5 hi hB k
    obtain ⟨h1, ⟨p, h2, h2'⟩, h3, h4, h5, h6, h7⟩ := hB
    have hp := hT p h2'
    have f0 : ¬ (nI f = (0 : Int32)) := fun q => by
      have := (nI_eq (b := 0) (by omega) (by omega)).mp q
      omega
    exact zb_Reader_readJoinedB_12 L dp i l5 c5 h2.1 hp.2.2.2.2.1 h3 hi (fun _ => k) (fun _ _ => k) (fun _ z => absurd z f0) (fun _ z => absurd z f0)
  have loop : ∀ (q i : Nat) (M : Nat → Nat → Int32) (p : Nat) (c : List (Nat × Nat)) (l5 : Value), l5.category = 1 → len ≤ ztst T len p + q → i ≤ ztst T len p → ztC M T len tx stc w p c → c.length ≤ ztst T len p → ztF tx stc M0 M → (∀ o M', zDt T len w (10 + L) dp p c o → ztP M' T len tx stc w o → ztF tx stc M0 M' → F none (X, b, zLay, K, B, M')) → zEx (zCall (e + 19)) 6 false 0 zc_Reader_readJoined F 12 [.ref 31, .ref tx, .int (nI L), .int (nI dp), .int (nI i), l5] [] (X, b, zLay, K, B, M) := by
    intro q
    induction q with
    | zero =>
      intro i M p c l5 c5 hq hi hC hc hF kk
      have hp := hT p hC.2.2.1
      have k0 : ztk T len p = 0 := by
        rcases Nat.eq_zero_or_pos (ztk T len p) with z | z
        · exact z
        · have := hp.2.2.1 (by omega); omega
      have nl : ztlv (ztk T len p) ≠ L := by rw [k0]; show 9 ≠ L; omega
      refine zb_Reader_readJoined_12 L dp i l5 c5 hC.2.1.1 hp.2.2.2.2.1 hC.2.2.2.1 (by omega) (fun _ => ?_) (fun _ _ => ?_) (fun _ z => absurd ((ztli_e hL4).mp z) nl)
      · exact kk _ M (zDv.ls hL nl) hC hF
      · exact kk _ M (zDv.ls hL nl) hC hF
    | succ q ih =>
      intro i M p c l5 c5 hq hi hC hc hF kk
      have hp := hT p hC.2.2.1
      refine zb_Reader_readJoined_12 L dp i l5 c5 hC.2.1.1 hp.2.2.2.2.1 hC.2.2.2.1 (by omega) (fun z => ?_) (fun _ z => ?_) (fun z1 z => ?_)
      · refine kk _ M (zDv.ls hL ?_) hC hF
        have k0 : ztk T len p = 0 := by
          rcases Nat.eq_zero_or_pos (ztk T len p) with z | z
          · exact z
          · have := hp.2.2.1 (by omega); omega
        rw [k0]; show 9 ≠ L; omega
      · exact kk _ M (zDv.ls hL (fun y => z ((ztli_e hL4).mpr y))) hC hF
      · have z := (ztli_e hL4).mp z
        have s := zTok_s hT hC.2.2.1 (ztlv_n0 z hL4)
        refine sp_adv (d := e + 13) hH.1 hC.1 hC.2.1.2.2.2 s.2 (fun M1 a1 a2 => ?_)
        have hC1 := ztC_adv hH hC a1 a2 s.2
        refine zb_Reader_readJoined_48 L dp i (ztk T len p) hL4 ?_
        refine h (e + 19) _ _ M1 (ztnx T len p) c (by omega) hC1 (by omega) (fun o1 M2 D2 P2 F2 => ?_)
        have Fr2 : ztF tx stc M0 M2 := ztF_tr hF (ztF_tr (ztF_l a1) F2)
        refine zb_Reader_readJoined_57 L dp i (ztk T len p) hH.2.2.1 ?_
        have lo : ∀ p1 c1, o1 = .ok p1 c1 → c1.length + 1 ≤ ztst T len p1 ∧ p1 ≤ len := fun p1 c1 q => by
          have := zDv_len hT D2 p1 c1 q s.2
          omega
        refine sp_addO (d := e + 18) hH P2 (fun p1 c1 q => by have := lo p1 c1 q; have := (hT p1 this.2).2.1; omega) (by omega) (fun M3 P3 F3 => ?_)
        have Fr3 := ztF_tr Fr2 F3
        refine zb_Reader_readJoined_64 L dp i (ztk T len p) z1 ?_
        cases o1 using zO.cs with
        | bad f a => exact badh (i + 1) M3 _ f a rfl (by omega) P3 (kk _ M3 (zDv.lb hL z D2) P3 Fr3)
        | ok p1 c1 =>
          have ll := lo p1 c1 rfl
          have s1 : ztst T len p + 1 ≤ ztst T len p1 := by
            have := zDv_len hT D2 p1 c1 rfl s.2
            have dl : c.length ≤ c1.length := by
              obtain ⟨e1, he, -⟩ := zDv_ty D2 p1 c1 rfl h8
              rw [he, List.length_append]; omega
            omega
          exact ih (i + 1) M3 p1 _ _ rfl (by omega) (by omega) P3 (by rw [List.length_append]; show c1.length + 1 ≤ _; omega) Fr3 (fun o M' D P Fr => kk o M' (zDv.lo hL z D2 D) P Fr)
  refine zb_Reader_readJoined_0 L dp hL4 ?_
  refine h (e + 19) _ _ M0 p0 c0 (by omega) hC0 hc0 (fun o1 M1 D1 P1 F1 => ?_)
  refine zb_Reader_readJoined_9 L dp ?_
  cases o1 using zO.cs with
  | bad f a => exact badh 0 M1 _ f a rfl (by omega) P1 (kk0 _ M1 (zDv.jb hL D1) P1 F1)
  | ok p1 c1 =>
    have ll := zDv_len hT D1 p1 c1 rfl hC0.2.2.1
    exact loop len 0 M1 p1 c1 _ rfl (by omega) (by omega) P1 (by omega) F1 (fun o M' D P Fr => kk0 o M' (zDv.jo hL D1 D) P Fr)
theorem pr_ask {dp f : Nat} (hH : ztH X K tx stc) (h8 : dp ≤ 8) (hf : 19 ≤ f) (hS : zPs X K B T len tx stc w 3 dp f zm_Reader_readJoined [.ref 31, .ref tx, .int (nI 3), .int (nI dp)]) (hA : dp < 8 → zPs X K B T len tx stc w 2 (dp + 1) f zm_Reader_readAsk [.ref 31, .ref tx, .int (nI (dp + 1))]) : zPs X K B T len tx stc w 2 dp (f + 1) zm_Reader_readAsk [.ref 31, .ref tx, .int (nI dp)] := by
  intro n F b M0 p c hn hC hc kk
  obtain ⟨e, rfl⟩ : ∃ e, n = e + 20 := ⟨n - 20, by omega⟩
  have hT := ztok T (len := len)
  have l3 := ztl3 hC
  have hp := hT p hC.2.2.1
  refine zb_Reader_readAsk_0 dp hC.2.1.1 hp.2.2.2.2.1 hC.2.2.2.1 hC.2.1.2.2.1 h8 (fun z => ?_) (fun z z2 => ?_) (fun z z2 => ?_)
  · refine hS (e + 19) _ _ M0 p c (by omega) hC hc (fun o1 M1 D1 P1 F1 => ?_)
    cases o1 using zO.cs with
    | bad f a =>
      obtain ⟨h1, ⟨q, h2, h2'⟩, h3, h4, h5, h6, h7⟩ := id P1
      have hq := hT q h2'
      have f0 : ¬ (nI f = (0 : Int32)) := fun q => by
        have := (nI_eq (b := 0) (by omega) (by omega)).mp q
        omega
      have k := kk _ M1 (zDv.ab z D1) P1 F1
      exact zb_Reader_readAskB_44 dp h2.1 hq.2.2.2.2.1 h3 h2.2.2.1 (fun _ y => absurd y f0) (fun _ _ => k) (fun _ _ y => absurd y f0) (fun _ _ _ => k) (fun _ y => absurd y f0)
    | ok p1 c1 =>
      have ll := zDv_len hT D1 p1 c1 rfl hC.2.2.1
      have hp1 := hT p1 ll.2
      refine zb_Reader_readAsk_44 dp P1.2.1.1 hp1.2.2.2.2.1 P1.2.2.2.1 P1.2.1.2.2.1 (fun y => ?_) (fun y => ?_)
      · have y := (ztli_e (L := 2) (by omega)).mp y
        have s := zTok_s hT ll.2 (ztlv_n0 y (by omega))
        refine sp_adv (d := e + 13) hH.1 P1.1 P1.2.1.2.2.2 s.2 (fun M2 a1 a2 => ?_)
        have hC2 := ztC_adv hH P1 a1 a2 s.2
        refine zb_Reader_readAsk_74 dp (ztk T len p1) ?_
        refine hS (e + 19) _ _ M2 (ztnx T len p1) c1 (by omega) hC2 (by omega) (fun o3 M3 D3 P3 F3 => ?_)
        refine zb_Reader_readAsk_81 dp (ztk T len p1) hH.2.2.1 ?_
        refine sp_addO (d := e + 18) hH P3 (fun p4 c4 q => by have := zDv_len hT D3 p4 c4 q s.2; have := (hT p4 this.2).2.1; omega) (by omega) (fun M4 P4 F4 => ?_)
        exact zb_Reader_readAsk_87 dp (ztk T len p1) (kk _ M4 (zDv.ao z D1 y D3) P4 (ztF_tr F1 (ztF_tr (ztF_l a1) (ztF_tr F3 F4))))
      · have y : ztlv (ztk T len p1) ≠ 2 := fun q => y ((ztli_e (L := 2) (by omega)).mpr q)
        exact kk _ _ (zDv.ax z D1 y) (ztB_of hH P1 rfl (by omega)) (ztF_31 (ztF_31 F1))
  · have s := zTok_s hT hC.2.2.1 (by omega)
    refine sp_adv (d := e + 13) hH.1 hC.1 hC.2.1.2.2.2 s.2 (fun M1 a1 a2 => ?_)
    have hC1 := ztC_adv hH hC a1 a2 s.2
    refine zb_Reader_readAsk_21 dp z2 ?_
    refine hA z2 (e + 19) _ _ M1 (ztnx T len p) c (by omega) hC1 (by omega) (fun o2 M2 D2 P2 F2 => ?_)
    refine zb_Reader_readAsk_29 dp hH.2.2.1 ?_
    refine sp_addO (d := e + 18) (k := 16) hH P2 (fun p4 c4 q => by have := zDv_len hT D2 p4 c4 q s.2; have := (hT p4 this.2).2.1; omega) (by omega) (fun M4 P4 F4 => ?_)
    exact zb_Reader_readAsk_36 dp (kk _ M4 (zDv.nt z z2 D2) P4 (ztF_tr (ztF_l a1) (ztF_tr F2 F4)))
  · exact kk _ _ (zDv.n8 z z2) (ztB_of hH hC rfl (by omega)) (ztF_31 (ztF_31 (ztF_rfl _ _ _)))
theorem pr_one {dp f : Nat} (hH : ztH X K tx stc) (h8 : dp ≤ 8) (hf : 19 ≤ f) (hS : dp < 8 → zPs X K B T len tx stc w 3 (dp + 1) f zm_Reader_readJoined [.ref 31, .ref tx, .int (nI 3), .int (nI (dp + 1))]) (hO : dp < 8 → zPs X K B T len tx stc w 5 (dp + 1) f zm_Reader_readOne [.ref 31, .ref tx, .int (nI (dp + 1))]) : zPs X K B T len tx stc w 5 dp (f + 1) zm_Reader_readOne [.ref 31, .ref tx, .int (nI dp)] := by
  intro n F b M0 p c hn hC hc kk
  obtain ⟨e, rfl⟩ : ∃ e, n = e + 20 := ⟨n - 20, by omega⟩
  have hT := ztok T (len := len)
  have l3 := ztl3 hC
  have hp := hT p hC.2.2.1
  have hw := hC.2.2.2.2.1
  have fr0 := ztF_rfl tx stc M0
  have addk : ∀ v, v ≤ 9999 → ztk T len p ≠ 0 → zDt T len w 5 dp p c (.ok (ztnx T len p) (c ++ [(ztk T len p, v)])) → zCall (e + 19) zm_Text_add [.ref tx, .int (nI (ztk T len p)), .int (nI v)] (X, (0, 0), zLay, K, B, M0) (zGo (e + 19) 6 false 0 zc_Reader_readOne F 107 [.ref 31, .ref tx, .int (nI dp)] [] b) := by
    intro v hv k0 D
    have s := zTok_s hT hC.2.2.1 k0
    have := (hT _ s.2).2.1
    refine sp_addC (d := e + 18) hH hC (by omega) (by omega) (by omega) (fun M1 P1 F1 => ?_)
    refine zb_Reader_readOne_107 dp P1.2.2.2.1 ?_
    refine sp_adv (d := e + 13) hH.1 P1.1 P1.2.1.2.2.2 s.2 (fun M2 a1 a2 => ?_)
    exact zb_Reader_readOne_118 dp (kk _ M2 D (ztC_adv hH P1 a1 a2 s.2) (ztF_tr F1 (ztF_l a1)))
  refine zb_Reader_readOne_0 (nu := ztnu T len p) (cl := 3 + w) dp hH.2.1 hC.2.1.1 hp.2.2.2.2.1 hC.2.2.2.1 hC.2.1.2.1 hp.2.2.2.2.2.1 hC.2.1.2.2.1 hw.1 (by omega) hH.2.2.1 h8 (fun z1 z2 z3 z4 => ?_) (fun z1 z2 z3 z4 z5 => ?_) (fun z1 z2 z3 z4 z5 z6 z7 => ?_) (fun _ _ z3 _ _ _ z7 => absurd z7 z3) (fun z1 z2 z3 z4 z5 z6 => ?_) (fun _ _ z3 _ z5 => absurd z3 z5) (fun z1 z2 z3 z4 _ => ?_) (fun z1 z2 z3 z4 => ?_) (fun z1 z2 z3 => ?_) (fun z1 z2 z3 => ?_) (fun z1 z2 => ?_) (fun z1 z2 => ?_)
  · exact kk _ _ (zDv.el z3 (by omega) z1 z2) (ztB_of hH hC rfl (by omega)) (ztF_31 (ztF_31 fr0))
  · exact kk _ _ (zDv.el z3 (by omega) z1 z2) (ztB_of hH hC rfl (by omega)) (ztF_31 (ztF_31 fr0))
  · rw [show 3 + w - 3 = w by omega] at z6
    exact addk 0 (by omega) (by omega) (zDv.wk z4 z5 z6)
  · rw [show 3 + w - 3 = w by omega] at z6
    exact kk _ _ (zDv.wb z4 z5 (Bool.eq_false_iff.mpr z6)) (ztB_of hH hC rfl (by omega)) (ztF_31 (ztF_31 fr0))
  · exact addk (ztnu T len p) z4 (by omega) (by rw [z3]; exact zDv.nk z3 z4)
  · exact kk _ _ (zDv.nb z3 z4) (ztB_of hH hC rfl (by omega)) (ztF_31 (ztF_31 fr0))
  · have s := zTok_s hT hC.2.2.1 (by omega)
    refine sp_adv (d := e + 13) hH.1 hC.1 hC.2.1.2.2.2 s.2 (fun M1 a1 a2 => ?_)
    have hC1 := ztC_adv hH hC a1 a2 s.2
    refine zb_Reader_readOne_58 dp z3 ?_
    refine hS z3 (e + 19) _ _ M1 (ztnx T len p) c (by omega) hC1 (by omega) (fun o2 M2 D2 P2 F2 => ?_)
    have Fr2 := ztF_tr (ztF_l a1) F2
    cases o2 using zO.cs with
    | bad f a =>
      obtain ⟨h1, ⟨q, h2, h2'⟩, h3, h4, h5, h6, h7⟩ := id P2
      have hq := hT q h2'
      have f0 : ¬ (nI f = (0 : Int32)) := fun q => by
        have := (nI_eq (b := 0) (by omega) (by omega)).mp q
        omega
      have k := kk _ M2 (zDv.pb z2 z3 D2) P2 Fr2
      exact zb_Reader_readOneB_67 dp h2.1 hq.2.2.2.2.1 h3 h2.2.2.1 (fun _ _ => k) (fun _ y => absurd y f0) (fun _ _ _ => k) (fun _ _ y => absurd y f0) (fun _ y => absurd y f0)
    | ok p1 c1 =>
      have ll := zDv_len hT D2 p1 c1 rfl s.2
      have hp1 := hT p1 ll.2
      refine zb_Reader_readOne_67 dp P2.2.1.1 hp1.2.2.2.2.1 P2.2.2.2.1 P2.2.1.2.2.1 (fun y => ?_) (fun y => ?_)
      · have s2 := zTok_s hT ll.2 (by omega)
        refine sp_adv (d := e + 13) hH.1 P2.1 P2.2.1.2.2.2 s2.2 (fun M3 a3 a4 => ?_)
        exact zb_Reader_readOne_118 dp (kk _ M3 (zDv.po z2 z3 D2 y) (ztC_adv hH P2 a3 a4 s2.2) (ztF_tr Fr2 (ztF_l a3)))
      · exact kk _ _ (zDv.px z2 z3 D2 y) (ztB_of hH P2 rfl (by omega)) (ztF_31 (ztF_31 Fr2))
  · exact kk _ _ (zDv.m8 (Or.inr z2) z3) (ztB_of hH hC rfl (by omega)) (ztF_31 (ztF_31 fr0))
  · have s := zTok_s hT hC.2.2.1 (by omega)
    refine sp_adv (d := e + 13) hH.1 hC.1 hC.2.1.2.2.2 s.2 (fun M1 a1 a2 => ?_)
    have hC1 := ztC_adv hH hC a1 a2 s.2
    refine zb_Reader_readOne_21 dp z2 ?_
    refine hO z2 (e + 19) _ _ M1 (ztnx T len p) c (by omega) hC1 (by omega) (fun o2 M2 D2 P2 F2 => ?_)
    refine zb_Reader_readOne_29 dp hH.2.2.1 ?_
    refine sp_addO (d := e + 18) (k := 30) hH P2 (fun p4 c4 q => by have := zDv_len hT D2 p4 c4 q s.2; have := (hT p4 this.2).2.1; omega) (by omega) (fun M4 P4 F4 => ?_)
    exact zb_Reader_readOne_36 dp (kk _ M4 (zDv.mo z1 z2 D2) P4 (ztF_tr (ztF_l a1) (ztF_tr F2 F4)))
  · exact kk _ _ (zDv.m8 (Or.inl z1) z2) (ztB_of hH hC rfl (by omega)) (ztF_31 (ztF_31 fr0))
theorem zPs_up {L dp f f2 mi : Nat} {as : List Value} (h : zPs X K B T len tx stc w L dp f mi as) (hf : f ≤ f2) : zPs X K B T len tx stc w L dp f2 mi as := fun n F b M p c hn => h n F b M p c (Nat.le_trans hf hn)
theorem pr_sum {dp f : Nat} (hH : ztH X K tx stc) (h8 : dp ≤ 8) (hf : 19 ≤ f) (h : zPs X K B T len tx stc w 5 dp f zm_Reader_readOne [.ref 31, .ref tx, .int (nI dp)]) : zPs X K B T len tx stc w 3 dp (f + 4) zm_Reader_readJoined [.ref 31, .ref tx, .int (nI 3), .int (nI dp)] := by
  have a := pr_joined (L := 4) hH h8 (Or.inr (Or.inr (Or.inr rfl))) (by omega) (pr_part5 hf h)
  exact pr_joined (L := 3) hH h8 (Or.inr (Or.inr (Or.inl rfl))) (by omega) (pr_partj ⟨by omega, by omega⟩ (by omega) a)
theorem pr_all (hH : ztH X K tx stc) : ∀ k, k ≤ 8 → zPs X K B T len tx stc w 5 (8 - k) (30 + 5 * k) zm_Reader_readOne [.ref 31, .ref tx, .int (nI (8 - k))] ∧ zPs X K B T len tx stc w 2 (8 - k) (36 + 5 * k) zm_Reader_readAsk [.ref 31, .ref tx, .int (nI (8 - k))] := by
  intro k
  induction k with
  | zero =>
    intro _
    have a : zPs X K B T len tx stc w 5 8 30 zm_Reader_readOne [.ref 31, .ref tx, .int (nI 8)] := pr_one (f := 29) hH (by omega) (by omega) (fun q => absurd q (by omega)) (fun q => absurd q (by omega))
    exact ⟨a, pr_ask (f := 35) hH (by omega) (by omega) (zPs_up (pr_sum hH (by omega) (by omega) a) (by omega)) (fun q => absurd q (by omega))⟩
  | succ k ih =>
    intro hk
    obtain ⟨i1, i2⟩ := ih (by omega)
    have e : 8 - k = (8 - (k + 1)) + 1 := by omega
    have s1 := pr_sum hH (by omega) (by omega) i1
    rw [e] at i1 i2 s1
    have a : zPs X K B T len tx stc w 5 (8 - (k + 1)) (30 + 5 * (k + 1)) zm_Reader_readOne [.ref 31, .ref tx, .int (nI (8 - (k + 1)))] := zPs_up (pr_one (f := 34 + 5 * k) hH (by omega) (by omega) (fun _ => zPs_up s1 (by omega)) (fun _ => zPs_up i1 (by omega))) (by omega)
    exact ⟨a, zPs_up (pr_ask (f := 40 + 5 * k) hH (by omega) (by omega) (zPs_up (pr_sum hH (by omega) (by omega) a) (by omega)) (fun _ => zPs_up i2 (by omega))) (by omega)⟩
theorem pr_top (hH : ztH X K tx stc) : zPs X K B T len tx stc w 3 0 80 zm_Reader_readJoined [.ref 31, .ref tx, .int (nI 3), .int (nI 0)] ∧ zPs X K B T len tx stc w 0 0 80 zm_Reader_readJoined [.ref 31, .ref tx, .int (nI 0), .int (nI 0)] := by
  obtain ⟨a, c⟩ := pr_all (X := X) (K := K) (B := B) (T := T) (len := len) (w := w) hH 8 (Nat.le_refl _)
  refine ⟨zPs_up (pr_sum hH (by omega) (by omega) a) (by omega), ?_⟩
  have b1 := pr_joined (L := 1) hH (by omega) (Or.inr (Or.inl rfl)) (by omega) (pr_part2 (by omega) c)
  exact zPs_up (pr_joined (L := 0) hH (by omega) (Or.inl rfl) (by omega) (pr_partj ⟨by omega, by omega⟩ (by omega) b1)) (by omega)
end PRS
