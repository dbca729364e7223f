/-! ===== a run of the pure machine is a run of the machine ===== -/
def zBx (p : Program) (R : Room) (s : State) (m : MethodId) (args : Array Value) (meth : Method) (c : Code) (cc : ByteArray) (own : Nat) (ini : Bool) (D : va_G) (dA : Nat → ClassId) (base : Nat) (xq adV : Nat → Nat) (H0 : Heap) (X : zX) (d : Nat) : Prop :=
  p.tables.exec = Jvm.exec ∧ c.code = cc ∧ (∃ C, zcn[own]? = some C ∧ s.vm.findClass C = some m.cls) ∧ (∀ w ∈ zWS, w.before args s = true) ∧ va_K D zcl (zTy dA) s ∧ zXt X (zq base xq) adV base H0 s ∧ (ini = true → meth.name = "<init>") ∧ H0.size = base ∧ (base ≤ s.heap.size ∧ ∀ a : Nat, a < base → s.heap[a]? = H0[a]?) ∧ d + 1 ≤ R.frames ∧ 60 * (d + 1) ≤ R.locals
/-- an end: which instruction gives which answer -/
def zRo (rt : Nat) (i : Instr) (v : Option Value) : Prop :=
  (i = .ireturn ∧ ∃ x : Int32, v = some (.int x) ∧ (rt = 1 ∨ (rt = 2 ∧ (x = 0 ∨ x = 1)))) ∨ (i = .lreturn ∧ rt = 3 ∧ ∃ x : Int64, v = some (.long x)) ∨ (i = .areturn ∧ rt = 4 ∧ ∃ a : Nat, v = some (.ref a)) ∨ (i = .return_ ∧ rt = 0 ∧ v = none)
theorem zdc_spec {cc : ByteArray} {o pc : Nat} {e : zE} (h : zdcB cc o pc e = true) : (∃ n, decode cc pc = .ok (e.1, n) ∧ (zsws e.1 = false → n = zil e.1)) ∧ zopB pc e = true := by
  unfold zdcB at h
  simp only [Bool.and_eq_true] at h
  refine ⟨?_, h.2⟩
  have h1 := h.1
  cases hd : decode cc pc with
  | error x => rw [hd] at h1; simp at h1
  | ok x =>
    obtain ⟨i, n⟩ := x
    rw [hd] at h1
    simp only [Bool.and_eq_true, Bool.or_eq_true, decide_eq_true_eq] at h1
    refine ⟨n, by rw [h1.1], fun hs => ?_⟩
    rcases h1.2 with h2 | h2
    · rw [h1.1] at h2; rw [h2] at hs; cases hs
    · rw [← h1.1]; exact Nat.eq_of_beq_eq_true h2
theorem zci_spec {own idx : Nat} {x : Int32 × Nat} (h : zlk2 zciL own idx = some x) {C : String} (hC : zcn[own]? = some C) : Cond.constant C idx x.1 ∈ zWS := by
  have h1 := zall_spec zci_ok h
  unfold zci_chk at h1
  rw [hC] at h1
  exact zWS_of h1
theorem zclo_spec {own idx : Nat} {x : Int64 × Nat} (h : zlk2 zclL own idx = some x) {C : String} (hC : zcn[own]? = some C) : Cond.constantLong C idx x.1 ∈ zWS := by
  have h1 := zall_spec zclo_ok h
  unfold zclo_chk at h1
  rw [hC] at h1
  exact zWS_of h1
theorem ztx_spec {own idx : Nat} {x : Nat × Nat} (h : zlk2 ztxL own idx = some x) : own = 11 ∧ ∃ t, 2000 ≤ x.1 ∧ zstr[x.1 - 2000]? = some t ∧ t.1 = idx := by
  have h1 := zall_spec ztx_ok h
  unfold ztx_chk at h1
  simp only [Bool.and_eq_true] at h1
  refine ⟨Nat.eq_of_beq_eq_true h1.1.1, ?_⟩
  cases hz : zstr[x.1 - 2000]? with
  | none => rw [hz] at h1; simp at h1
  | some t =>
    rw [hz] at h1
    simp only [Bool.and_eq_true] at h1
    exact ⟨t, Nat.le_of_ble_eq_true h1.1.2, rfl, Nat.eq_of_beq_eq_true h1.2.1⟩
theorem znest_no {own idx mi n cl row : Nat} {nb : Bool} (h : zlk2 zmlL own idx = some (mi, n, cl, nb, row)) (hm : zinfL.length ≤ mi) : nb = false := by
  have h1 := zall_spec znb_ok h
  simp only [Bool.or_eq_true, Bool.not_eq_true'] at h1
  rcases h1 with h1 | h1
  · exact h1
  · exact absurd (Nat.le_of_ble_eq_true h1) (by omega)
section ZS
variable {p : Program} {l : Launch} {e : Env} {R : Room} {s : State} {m : MethodId} {args : Array Value} {below : List Frame} {meth : Method} {c : Code} {D : va_G} {dA : Nat → ClassId} {base : Nat} {xq adV : Nat → Nat} {H0 : Heap} {X : zX} {Q : State → Prop} {cc : ByteArray}
set_option maxHeartbeats 4000000 in
theorem zclose (hZ : zAllOk) {own rt d : Nat} {ini : Bool} {cd : List (List (Nat × zE))} {F : Option Value → zS → Prop} {call : zC} (B : zBx p R s m args meth c cc own ini D dA base xq adV H0 X d) (hcd : zall cd (zdcB cc) = true) (hiv : zivA own cd = true)
    (hcall : ∀ mi as S F, zmiI mi → S.1 = X → S.2.1 = zam mi → call mi as S F → zMt l D dA base xq adV H0 X d mi as S F)
    (hret : ∀ (i : Instr) (v : Option Value) (pc : Nat) (ls : List Value) (S : zS), zRo rt i v → decode cc pc = .ok (i, 1) → F v S → zPw p l e R s m args below meth c D dA base xq H0 X Q pc ls v.toList S) :
    ∀ pc ls st S en, zlk2 cd (pc / 32) pc = some en → zwp call own ini rt (zPw p l e R s m args below meth c D dA base xq H0 X Q) F en pc ls st S → zPw p l e R s m args below meth c D dA base xq H0 X Q pc ls st S := by
  intro pc ls st S en he hw
  obtain ⟨hx, hb, ⟨C, hC, hown⟩, hts, hK, hXt, hini, hbase, ⟨hs1, hs2⟩, hRf, hRl⟩ := B
  obtain ⟨⟨n, hd, hn⟩, hop⟩ := zdc_spec (zall_spec hcd he)
  have hv := zall_spec hiv he
  obtain ⟨i, cv, tg, ts⟩ := en
  dsimp only at hd hn
  unfold zwp at hw
  unfold zopB at hop
  unfold zivB at hv
  dsimp only at hw hop hv
  cases i <;> dsimp only at hw hop hv
  case iconst k => rw [hn rfl] at hd; exact zi_iconst hx hb hd (by simpa using hop) hw
  case bipush k => rw [hn rfl] at hd; exact zi_bipush hx hb hd (by simpa using hop) hw
  case sipush k => rw [hn rfl] at hd; exact zi_sipush hx hb hd (by simpa using hop) hw
  case lconst k => rw [hn rfl] at hd; exact zi_lconst hx hb hd hw
  case ldc k =>
    rw [hn rfl] at hd
    split at hw
    · rename_i v hl
      exact zi_ldc hx hb hown (hts _ (zci_spec hl hC)) hd hw
    · split at hw
      · rename_i a hl
        obtain ⟨rfl, t, h1, h2, h3⟩ := ztx_spec hl
        have hC' : C = "BoatsMoveOn$Kind" := Option.some.inj (hC.symm.trans rfl)
        subst hC'
        have hR := hXt.2.2.2.2.1 _ _ h2
        rw [show 2000 + (a.1 - 2000) = a.1 by omega, h3] at hR
        exact zi_ldcs hx hb hown hR hd hw
      · exact hw.elim
  case ldc_w k =>
    rw [hn rfl] at hd
    split at hw
    · rename_i v hl
      exact zi_ldcw hx hb hown (hts _ (zci_spec hl hC)) hd hw
    · exact hw.elim
  case ldc2_w k =>
    rw [hn rfl] at hd
    split at hw
    · rename_i v hl
      exact zi_ldc2 hx hb hown (hts _ (zclo_spec hl hC)) hd hw
    · exact hw.elim
  case iload_n k => rw [hn rfl] at hd; exact zi_iloadn hx hb hd hw
  case iload k => rw [hn rfl] at hd; exact zi_iload hx hb hd hw
  case lload_n k => rw [hn rfl] at hd; exact zi_lloadn hx hb hd hw
  case lload k => rw [hn rfl] at hd; exact zi_lload hx hb hd hw
  case aload_n k => rw [hn rfl] at hd; exact zi_aloadn hx hb hd hw
  case aload k => rw [hn rfl] at hd; exact zi_aload hx hb hd hw
  case istore_n k =>
    rw [hn rfl] at hd
    split at hw
    · exact zi_istoren hx hb hd hw.1 hw.2
    · exact hw.elim
  case istore k =>
    rw [hn rfl] at hd
    split at hw
    · exact zi_istore hx hb hd hw.1 hw.2
    · exact hw.elim
  case lstore_n k =>
    rw [hn rfl] at hd
    split at hw
    · exact zi_lstoren hx hb hd hw.1 hw.2
    · exact hw.elim
  case lstore k =>
    rw [hn rfl] at hd
    split at hw
    · exact zi_lstore hx hb hd hw.1 hw.2
    · exact hw.elim
  case astore_n k =>
    rw [hn rfl] at hd
    split at hw
    · exact zi_astoren hx hb hd hw.1 hw.2
    · exact hw.elim
  case astore k =>
    rw [hn rfl] at hd
    split at hw
    · exact zi_astore hx hb hd hw.1 hw.2
    · exact hw.elim
  case iinc k v => rw [hn rfl] at hd; exact zi_iinc hx hb hd (by simpa using hop) hw.1 hw.2
  case idiv =>
    rw [hn rfl] at hd
    split at hw
    · exact zi_idiv hx hb hd hw.1 hw.2
    · exact hw.elim
  case irem =>
    rw [hn rfl] at hd
    split at hw
    · exact zi_irem hx hb hd hw.1 hw.2
    · exact hw.elim
  case ldiv =>
    rw [hn rfl] at hd
    split at hw
    · exact zi_ldiv hx hb hd hw.1 hw.2
    · exact hw.elim
  case ineg =>
    rw [hn rfl] at hd
    split at hw
    · exact zi_ineg hx hb hd hw
    · exact hw.elim
  case lneg =>
    rw [hn rfl] at hd
    split at hw
    · exact zi_lneg hx hb hd hw
    · exact hw.elim
  case i2l =>
    rw [hn rfl] at hd
    split at hw
    · exact zi_i2l hx hb hd hw
    · exact hw.elim
  case l2i =>
    rw [hn rfl] at hd
    split at hw
    · exact zi_l2i hx hb hd hw
    · exact hw.elim
  case i2b =>
    rw [hn rfl] at hd
    split at hw
    · exact zi_i2b hx hb hd hw
    · exact hw.elim
  case lcmp =>
    rw [hn rfl] at hd
    split at hw
    · exact zi_lcmp hx hb hd hw
    · exact hw.elim
  case dup =>
    rw [hn rfl] at hd
    split at hw
    · exact zi_dup hx hb hd hw.1 hw.2
    · exact hw.elim
  case dup_x1 =>
    rw [hn rfl] at hd
    split at hw
    · exact zi_dupx1 hx hb hd hw.1 hw.2.1 hw.2.2
    · exact hw.elim
  case dup2 =>
    rw [hn rfl] at hd
    split at hw
    · exact zi_dup2 hx hb hd hw.1 hw.2.1 hw.2.2
    · exact hw.elim
  case pop =>
    rw [hn rfl] at hd
    split at hw
    · exact zi_pop hx hb hd hw.1 hw.2
    · exact hw.elim
  case ifCond k o =>
    rw [hn rfl] at hd
    split at hw
    · exact zi_if hx hb hd (by simpa using hop) hw.1 hw.2
    · exact hw.elim
  case if_icmp k o =>
    rw [hn rfl] at hd
    split at hw
    · exact zi_icmp hx hb hd (by simpa using hop) hw.1 hw.2
    · exact hw.elim
  case goto o => rw [hn rfl] at hd; exact zi_goto hx hb hd (by simpa using hop) hw
  case tableswitch a b c' os =>
    simp only [Bool.and_eq_true, decide_eq_true_eq] at hop
    split at hw
    · exact zi_tsw hx hb hd hop.1.1.1 hop.1.1.2 hop.1.2 hw
    · exact hw.elim
  case lookupswitch a ps =>
    rw [Bool.and_eq_true, Bool.and_eq_true, decide_eq_true_eq] at hop
    split at hw
    · exact zi_lsw hx hb hd hop.1.1 hop.1.2 hop.2 hw
    · exact hw.elim
  case getfield k =>
    rw [hn rfl] at hd
    split at hw
    · rename_i hl
      split at hw
      · exact zi_getf hx hb hC hown hts hK hl hw.1 hd hw.2
      · exact hw.elim
    · exact hw.elim
  case putfield k =>
    rw [hn rfl] at hd
    split at hw
    · rename_i hl
      split at hw
      · exact zi_putf hx hb hC hown hts hK hini hbase hl hw.1 hw.2.1 hw.2.2.1 hd hw.2.2.2
      · exact hw.elim
    · exact hw.elim
  case getstatic k =>
    rw [hn rfl] at hd
    split at hw
    · rename_i hl
      exact zi_gets hx hb hC hown hts hXt hbase hs1 hs2 hl hd hw
    · exact hw.elim
  case iaload =>
    rw [hn rfl] at hd
    split at hw
    · split at hw
      · rename_i hl
        exact zi_iald hx hb hK hl hw.1 hd hw.2
      · split at hw
        · rename_i hl
          exact zi_iaX hx hb hXt hbase hs1 hs2 hl hw.1 hd hw.2
        · exact hw.elim
    · exact hw.elim
  case baload =>
    rw [hn rfl] at hd
    split at hw
    · split at hw
      · rename_i hl
        exact zi_bald hx hb hK (Or.inl hl) hw.1 hd hw.2
      · split at hw
        · rename_i hl
          exact zi_bald hx hb hK (Or.inr hl) hw.1 hd hw.2
        · exact hw.elim
    · exact hw.elim
  case laload =>
    rw [hn rfl] at hd
    split at hw
    · split at hw
      · rename_i hl
        exact zi_lald hx hb hK hl hw.1 hd hw.2
      · exact hw.elim
    · exact hw.elim
  case aaload =>
    rw [hn rfl] at hd
    split at hw
    · split at hw
      · rename_i hl
        exact zi_aald hx hb hK hl hw.1 hd hw.2
      · exact hw.elim
    · exact hw.elim
  case iastore =>
    rw [hn rfl] at hd
    split at hw
    · split at hw
      · rename_i hl
        exact zi_iast hx hb hK hl hw.1 hd hw.2
      · exact hw.elim
    · exact hw.elim
  case bastore =>
    rw [hn rfl] at hd
    split at hw
    · split at hw
      · rename_i hl
        exact zi_bast hx hb hK hl hw.1 hd hw.2
      · split at hw
        · rename_i hl
          exact zi_zast hx hb hK hl hw.1 hd hw.2
        · exact hw.elim
    · exact hw.elim
  case lastore =>
    rw [hn rfl] at hd
    split at hw
    · split at hw
      · rename_i hl
        exact zi_last hx hb hK hl hw.1 hd hw.2
      · exact hw.elim
    · exact hw.elim
  case aastore =>
    rw [hn rfl] at hd
    split at hw
    · split at hw
      · rename_i hl
        exact zi_aast hx hb hK hl hw.1 hw.2.1 hd hw.2.2
      · exact hw.elim
    · exact hw.elim
  case arraylength =>
    rw [hn rfl] at hd
    split at hw
    · split at hw
      · rename_i hl
        exact zi_alen hx hb hK hl hd hw
      · split at hw
        · rename_i hl
          exact zi_alX hx hb hXt hbase hs1 hs2 hl hd hw
        · exact hw.elim
    · exact hw.elim
  case new k =>
    rw [hn rfl] at hd
    split at hw
    · rename_i hl
      obtain ⟨N, h1, h2, h3, h4, h5⟩ := hw
      exact zi_new hx hb hC hown hts hK hl h1 h2 h3 h4 hd h5
    · exact hw.elim
  case newarray t =>
    rw [hn rfl] at hd
    split at hw
    · rename_i ht
      split at hw
      · obtain ⟨h1, h2, h3, h4, h5, h6⟩ := hw
        exact zi_newa hx hb hts hK ht h1 h2 h3 h4 h5 hd h6
      · exact hw.elim
    · exact hw.elim
  case anewarray k =>
    rw [hn rfl] at hd
    split at hw
    · rename_i hl
      split at hw
      · obtain ⟨rfl, h1, h2, h3, h4, h5, h6⟩ := hw
        exact zi_anew hx hb hC hown hts hK hXt.2.2.2.1 hl h1 h2 h3 h4 h5 hd h6
      · exact hw.elim
    · exact hw.elim
  case invokestatic k =>
    rw [hn rfl] at hd
    unfold ziS at hw
    split at hw
    · rename_i mi n' cl nb row hl
      rw [hl] at hv
      dsimp only at hv
      cases hm : Nat.beq mi 302
      · rw [hm] at hw
        simp only [cond_false] at hw
        cases hm3 : Nat.ble 303 mi
        · rw [hm3] at hw
          simp only [cond_false] at hw
          split at hw
          · rename_i as r htk
            have hlt : ∃ a b i, zkwL[mi]? = some (true, a, b, i) := by
              rw [Bool.or_eq_true] at hv
              rcases hv with hv | hv
              · have h302 := Nat.le_of_ble_eq_true hv
                have hne : ¬ mi = 302 := fun h => by rw [h] at hm; simp at hm
                have hn3 : ¬ 303 ≤ mi := fun h => by rw [Nat.ble_eq_true_of_le h] at hm3; cases hm3
                omega
              · cases hk : zkwL[mi]? with
                | none => rw [hk] at hv; cases hv
                | some x =>
                  obtain ⟨stt, a, b, i⟩ := x
                  rw [hk] at hv
                  dsimp only at hv
                  subst hv
                  exact ⟨a, b, i, rfl⟩
            obtain ⟨a, b, i, hk⟩ := hlt
            have hmi : mi < zinfL.length := by rw [zlens.2.1]; exact (List.getElem?_eq_some_iff.mp hk).1
            exact zi_invS hZ hx hb hC hown hts hK hXt hRf hRl hcall hl hmi ⟨a, b, i, hk⟩ htk hw.1 hd hw.2
          · exact hw.elim
        · rw [hm3] at hw
          simp only [cond_true] at hw
          split at hw
          · rename_i v r hmt
            exact zi_mth hx hb hC hown hts hRf hRl hl (znest_no hl (by rw [zinf_lenN]; have := Nat.le_of_ble_eq_true hm3; omega)) hmt hw.1 hd hw.2
          · exact hw.elim
      · rw [hm] at hw
        simp only [cond_true] at hw
        have hm' := Nat.eq_of_beq_eq_true hm
        subst hm'
        split at hw
        · obtain ⟨n0, n1, h1, h2, h3, h4, h5, h6, h7, h8, h9⟩ := hw
          exact zi_copy hx hb hC hown hts hK hRf hRl hl (znest_no hl (by rw [zinf_lenN]; omega)) h1 h2 h3 h4 h5 h6 h7 h8 hd h9
        · exact hw.elim
    · exact hw.elim
  case invokevirtual k =>
    rw [hn rfl] at hd
    unfold ziV at hw
    split at hw
    · rename_i mi n' cl nb row hl
      rw [hl] at hv
      dsimp only at hv
      split at hw
      · rename_i as b r htk
        obtain ⟨h1, h2, h3⟩ := hw
        rw [Bool.or_eq_true, Bool.or_eq_true] at hv
        rcases hv with (hv | hv) | hv
        · have hmi := Nat.eq_of_beq_eq_true hv
          exact zi_invP hx hb hC hown hts hK hXt hbase hs1 hs2 hRf hRl hcall hl (znest_no hl (by rw [zinf_lenN]; omega)) (Or.inl hmi) htk h1 (h2.1 (zcl_hi hl (by rw [zinf_lenN]; omega))) hd h3
        · have hmi := Nat.eq_of_beq_eq_true hv
          exact zi_invP hx hb hC hown hts hK hXt hbase hs1 hs2 hRf hRl hcall hl (znest_no hl (by rw [zinf_lenN]; omega)) (Or.inr hmi) htk h1 (h2.1 (zcl_hi hl (by rw [zinf_lenN]; omega))) hd h3
        · cases hk : zkwL[mi]? with
          | none => rw [hk] at hv; simp at hv
          | some x =>
            obtain ⟨stt, a', b', i'⟩ := x
            cases hnm : znamL[mi]? with
            | none => rw [hk, hnm] at hv; simp at hv
            | some z =>
              obtain ⟨y, by_, ret, row'⟩ := z
              rw [hk, hnm] at hv
              simp only [Bool.and_eq_true, Bool.not_eq_true', decide_eq_false_iff_not] at hv
              obtain ⟨⟨⟨hv1, hv2⟩, hv3⟩, hv4⟩ := hv
              subst hv1
              subst hv3
              have hmi : mi < zinfL.length := by rw [zlens.2.1]; exact (List.getElem?_eq_some_iff.mp hk).1
              have hcl : ¬ cl = 99 := fun h => by rw [h] at hv4; simp at hv4
              exact zi_invV hZ hx hb hC hown hts hK hXt hRf hRl hcall hl hmi ⟨_, _, _, hk⟩ (by unfold zmn; rw [hnm]; exact hv2) hcl htk h1 (h2.2 hcl) hd h3
      · exact hw.elim
    · exact hw.elim
  case invokespecial k =>
    rw [hn rfl] at hd
    unfold ziI at hw
    split at hw
    · rename_i hl
      split at hw
      · exact zi_obj hx hb hC hown hts hRf hRl hl hw.1 hd hw.2
      · exact hw.elim
    · split at hw
      · rename_i mi n' cl nb row hl
        rw [hl] at hv
        dsimp only at hv
        split at hw
        · rename_i as b r htk
          obtain ⟨h1, h3⟩ := hw
          cases hk : zkwL[mi]? with
          | none => rw [hk] at hv; simp at hv
          | some x =>
            obtain ⟨stt, a', b', i'⟩ := x
            cases hnm : znamL[mi]? with
            | none => rw [hk, hnm] at hv; simp at hv
            | some z =>
              obtain ⟨y, by_, ret, row'⟩ := z
              cases hin : zinfL[mi]? with
              | none => rw [hk, hnm, hin] at hv; simp at hv
              | some w =>
                obtain ⟨w1, w2, w3, w4, w5, w6, w7⟩ := w
                rw [hk, hnm, hin] at hv
                simp only [Bool.and_eq_true, Bool.not_eq_true', decide_eq_true_eq] at hv
                obtain ⟨⟨⟨hv1, hv2⟩, hv3⟩, hv4⟩ := hv
                subst hv1
                have hmi : mi < zinfL.length := by rw [zlens.2.1]; exact (List.getElem?_eq_some_iff.mp hk).1
                exact zi_invI hZ hx hb hC hown hts hK hXt hRf hRl hcall hl hmi ⟨_, _, _, hk⟩ (by unfold zmn; rw [hnm]; exact hv2) (by rw [zcv_at hin hnm]; exact hv3) htk h1 hd h3
        · exact hw.elim
      · exact hw.elim
  case ireturn =>
    rw [hn rfl] at hd
    split at hw
    · rename_i v
      exact hret .ireturn (some (.int v)) pc ls S (Or.inl ⟨rfl, v, rfl, hw.1⟩) hd hw.2
    · exact hw.elim
  case lreturn =>
    rw [hn rfl] at hd
    split at hw
    · rename_i v
      exact hret .lreturn (some (.long v)) pc ls S (Or.inr (Or.inl ⟨rfl, hw.1, v, rfl⟩)) hd hw.2
    · exact hw.elim
  case areturn =>
    rw [hn rfl] at hd
    split at hw
    · rename_i v
      exact hret .areturn (some (.ref v)) pc ls S (Or.inr (Or.inr (Or.inl ⟨rfl, hw.1, v, rfl⟩))) hd hw.2
    · exact hw.elim
  case return_ =>
    rw [hn rfl] at hd
    obtain ⟨rfl, h1, h2⟩ := hw
    exact hret .return_ none pc ls S (Or.inr (Or.inr (Or.inr ⟨rfl, h1, rfl⟩))) hd h2
  all_goals (split at hw)
  all_goals first
    | (rename_i f hf
       split at hw
       · rw [hn rfl] at hd
         exact zi_ibin hx hb hf hd hw
       · exact hw.elim)
    | (split at hw
       · rename_i f hf
         split at hw
         · rw [hn rfl] at hd
           exact zi_lbin hx hb hf hd hw
         · exact hw.elim
       · exact hw.elim)
end ZS
