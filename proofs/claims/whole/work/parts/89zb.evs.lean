/-! ===== the evaluator is right ===== -/
theorem zzget_take {α : Type} : ∀ (l : List α) (n a : Nat), zget (l.take n) a = bif Nat.blt a n then zget l a else none
  | [], n, a => by cases n <;> cases h : Nat.blt a _ <;> simp [zget]
  | x :: l, 0, a => rfl
  | x :: l, n + 1, 0 => rfl
  | x :: l, n + 1, a + 1 => by
    have := zzget_take l n a
    simp only [List.take_succ_cons, zget, this]
    rfl
theorem zzget_some {α : Type} : ∀ {l : List α} {n : Nat} {e : α}, zget l n = some e → l.take n ++ [e] = l.take (n + 1)
  | [], n, e, h => by simp [zget] at h
  | x :: l, 0, e, h => by simp [zget] at h; simp [h]
  | x :: l, n + 1, e, h => by
    have := zzget_some (l := l) (n := n) (e := e) h
    simp only [List.take_succ_cons, List.cons_append, this]
theorem zzgl_e {X : zX} {s : zzN} {a : Nat} : zget (zzem X s).2.2.1 a = zzgl s a := zzget_take zLay s.2.1 a
theorem zzaM_u {l : List (Nat × Nat × Int32)} {c k : Nat} {v : Int32} : zu (zzaM l) c k v = zzaM ((c, k, v) :: l) := by
  funext a b
  unfold zu
  simp only [zzaM]
  by_cases ha : a = c
  · subst ha
    by_cases hb : b = k
    · subst hb
      simp
    · have : Nat.beq b k = false := by
        cases hq : Nat.beq b k
        · rfl
        · exact absurd (Nat.eq_of_beq_eq_true hq) hb
      simp [hb, this]
  · have : Nat.beq a c = false := by
      cases hq : Nat.beq a c
      · rfl
      · exact absurd (Nat.eq_of_beq_eq_true hq) ha
    simp [ha, this]
theorem zzaK_u {l : List (Nat × Nat × Nat)} {c k : Nat} {v : Nat} : zu (zzaK l) c k (some v) = zzaK ((c, k, v) :: l) := by
  funext a b
  unfold zu
  simp only [zzaK]
  by_cases ha : a = c
  · subst ha
    by_cases hb : b = k
    · subst hb
      simp
    · have : Nat.beq b k = false := by
        cases hq : Nat.beq b k
        · rfl
        · exact absurd (Nat.eq_of_beq_eq_true hq) hb
      simp [hb, this]
  · have : Nat.beq a c = false := by
      cases hq : Nat.beq a c
      · rfl
      · exact absurd (Nat.eq_of_beq_eq_true hq) ha
    simp [ha, this]
theorem zzaM_same {l : List (Nat × Nat × Int32)} {c k : Nat} {v : Int32} (h : zzaM l c k = v) : zu (zzaM l) c k v = zzaM l := by
  funext a b
  unfold zu
  by_cases ha : a = c
  · subst ha
    by_cases hb : b = k
    · subst hb
      simp [h]
    · simp [hb]
  · simp [ha]
theorem zzfrK_t {n : Nat} : ∀ {l : List (Nat × Nat × Nat)}, zzfrK n l = true → ∀ k, zzaK l n k = none
  | [], _, _ => rfl
  | (c, k', v) :: r, h, k => by
    unfold zzfrK at h
    cases hq : Nat.beq n c
    · rw [hq] at h
      simp only [zzaK, hq, cond_false]
      exact zzfrK_t h k
    · rw [hq] at h
      cases h
theorem zzfrM_t {n : Nat} : ∀ {l : List (Nat × Nat × Int32)}, zzfrM n l = true → ∀ k, zzaM l n k = 0
  | [], _, _ => rfl
  | (c, k', v) :: r, h, k => by
    unfold zzfrM at h
    cases hq : Nat.beq n c
    · rw [hq] at h
      simp only [zzaM, hq, cond_false]
      exact zzfrM_t h k
    · rw [hq] at h
      cases h
theorem zznew_e {X : zX} {s : zzN} {e : Nat ⊕ (Nat × Nat)} {n : Nat} (hf : zzfr s n = true) (he : zget zLay s.2.1 = some e) : (zzem X s).2.2.1.length = s.2.1 ∧ 1 ≤ s.1.1 ∧ n ≤ s.1.2 ∧ s.2.1 < 1000 ∧ znew (zzem X s) e n = zzem X (zzadd s n) := by
  obtain ⟨⟨b1, b2⟩, m, kl, ml⟩ := s
  simp only [zzfr, Bool.and_eq_true] at hf
  obtain ⟨h1, h2, h3, h4, h5⟩ := hf
  have h1 := Nat.le_of_ble_eq_true h1
  have h2 := Nat.le_of_ble_eq_true h2
  have h3 := Nat.le_of_ble_eq_true h3
  have hlen : (zLay.take m).length = m := by
    rw [List.length_take]
    have : zLay.length = 97 := rfl
    omega
  refine ⟨hlen, h1, h2, by simp only at *; omega, ?_⟩
  unfold znew zzem zzadd
  simp only [hlen]
  rw [zzget_some he]
  have e1 : (fun c k => if c = m then none else zzaK kl c k) = zzaK kl := by
    funext c k
    by_cases hc : c = m
    · rw [if_pos hc, hc, zzfrK_t h4 k]
    · rw [if_neg hc]
  have e2 : (fun c k => if c = m then 0 else zzaM ml c k) = zzaM ml := by
    funext c k
    by_cases hc : c = m
    · rw [if_pos hc, hc, zzfrM_t h5 k]
    · rw [if_neg hc]
  have e3 : (fun c k => if c = m then (0 : Int64) else (fun (_ _ : Nat) => (0 : Int64)) c k) = fun _ _ => 0 := by
    funext c k
    by_cases hc : c = m
    · rw [if_pos hc]
    · rw [if_neg hc]
  rw [e1, e2, e3]
def zzAq (call : zC) (Q : zQ) (F : Option Value → zS → Prop) (X : zX) : zzA → Prop
  | some (.inl (pc, ls, st, s)) => Q pc ls st (zzem X s)
  | some (.inr (.inl s)) => F none (zzem X s)
  | some (.inr (.inr (mi, as, pc, ls, r, s))) => zcal call Q mi as pc ls r (zzem X s)
  | none => False
section ZZ
variable {call : zC} {Q : zQ} {F : Option Value → zS → Prop} {X : zX}
theorem zzif {c : Bool} {A : zzA} (h : zzAq call Q F X (bif c then A else zzBad)) : c = true ∧ zzAq call Q F X A := by
  cases c
  · exact h.elim
  · exact ⟨rfl, h⟩
theorem zzlt {a b : Nat} (h : Nat.blt a b = true) : a < b := Nat.le_of_ble_eq_true h
theorem zzstM_q {pc : Nat} {ls r : List Value} {s : zzN} {a k : Nat} {x : Int32} (h : zzAq call Q F X (zzstM pc ls r s a k x)) : Q pc ls r (X, s.1, zLay.take s.2.1, zzaK s.2.2.1, fun _ _ => 0, zu (zzaM s.2.2.2) a k x) := by
  unfold zzstM at h
  by_cases hx : zzaM s.2.2.2 a k = x
  · rw [decide_eq_true hx] at h
    rw [zzaM_same hx]
    exact h
  · rw [decide_eq_false hx] at h
    rw [zzaM_u]
    exact h
theorem zzcnd {cd : ClassFile.Cond} {x y : Int32} {A A' : zzA} (h : zzAq call Q F X (bif zzcndb cd x y then A else A')) : (zcnd cd x y → zzAq call Q F X A) ∧ (¬ zcnd cd x y → zzAq call Q F X A') := by
  have e : (zzcndb cd x y = true ↔ zcnd cd x y) := by cases cd <;> simp [zzcndb, zcnd]
  cases hb : zzcndb cd x y
  · rw [hb] at h e
    exact ⟨fun q => absurd (e.mpr q) (by decide), fun _ => h⟩
  · rw [hb] at h e
    exact ⟨fun _ => h, fun q => absurd (e.mp rfl) q⟩
theorem zzvin {i : Int32} {n : Nat} (h : zzvib i n = true) : vp_in i n := zvin h
theorem zzlen {s : zzN} {a t n : Nat} (h : zzgl s a = some (.inr (t, n))) : zlen (zzem X s) t a = some n := by
  unfold zlen
  rw [zzgl_e, h]
  simp
theorem zzalen {s : zzN} {a t n : Nat} (h : zzgl s a = some (.inr (t, n))) (ht : Nat.blt t 5 = true) : zalen (zzem X s) a = some n := by
  unfold zalen
  rw [zzgl_e, h]
  simp [ht]
theorem zzbeq {a b : Nat} (h : Nat.beq a b = true) : a = b := Nat.eq_of_beq_eq_true h
set_option maxHeartbeats 4000000 in
theorem zzstp_q {own : Nat} {ini : Bool} {rt : Nat} {e : zE} {pc : Nat} {ls st : List Value} {s : zzN} (h : zzAq call Q F X (zzstp own ini rt e pc ls st s)) : zwp call own ini rt Q F e pc ls st (zzem X s) := by
  obtain ⟨i, v, t, ts⟩ := e
  cases i with
  | iconst n => exact h
  | bipush n => exact h
  | sipush n => exact h
  | goto n => exact h
  | iload_n k =>
    simp only [zzstp] at h
    simp only [zwp, zldi]
    split at h
    · rename_i x hx
      rw [hx]
      exact h
    · exact h.elim
  | aload_n k =>
    simp only [zzstp] at h
    simp only [zwp, zlda]
    split at h
    · rename_i x hx
      rw [hx]
      exact h
    · exact h.elim
  | istore_n k =>
    simp only [zzstp] at h
    simp only [zwp]
    split at h
    · exact ⟨zzlt (zzif h).1, (zzif h).2⟩
    · exact h.elim
  | astore_n k =>
    simp only [zzstp] at h
    simp only [zwp]
    split at h
    · exact ⟨zzlt (zzif h).1, (zzif h).2⟩
    · exact h.elim
  | iinc k n =>
    simp only [zzstp] at h
    simp only [zwp, zldi]
    split at h
    · rename_i x hx
      rw [hx]
      exact ⟨zzlt (zzif h).1, (zzif h).2⟩
    · exact h.elim
  | dup =>
    simp only [zzstp] at h
    simp only [zwp]
    split at h
    · exact ⟨rfl, h⟩
    · exact h.elim
  | ifCond cd n =>
    simp only [zzstp] at h
    simp only [zwp]
    split at h
    · exact zzcnd h
    · exact h.elim
  | if_icmp cd n =>
    simp only [zzstp] at h
    simp only [zwp]
    split at h
    · exact zzcnd h
    · exact h.elim
  | getfield idx =>
    simp only [zzstp] at h
    simp only [zwp]
    split at h
    · rename_i ci k kd f g hl
      rw [hl]
      simp only
      split at h
      · rename_i a r
        try simp only
        split at h
        · rename_i ci' hg
          obtain ⟨h1, h2⟩ := zzif h
          rw [zzgl_e, hg, zzbeq h1]
          refine ⟨rfl, ?_⟩
          cases hk : Nat.beq kd 1
          · rw [hk] at h2
            exact h2
          · rw [hk] at h2
            simp only [cond_true] at h2
            split at h2
            · rename_i j hj
              have e : zfv true (zzem X s) a k = .ref j := by
                show zrv (zzaK s.2.2.1 a k) = _
                rw [hj]
                rfl
              rw [e]
              exact h2
            · exact h2.elim
        · exact h.elim
      · exact h.elim
    · exact h.elim
  | putfield idx =>
    simp only [zzstp] at h
    simp only [zwp]
    split at h
    · rename_i ci k kd fin g hl
      rw [hl]
      simp only
      have hfin : ∀ {ci' : Nat}, (!fin || (ini && Nat.beq own ci')) = true → fin = true → ini = true ∧ own = ci' := by
        intro ci' hf hq
        rw [hq] at hf
        simp only [Bool.not_true, Bool.false_or, Bool.and_eq_true] at hf
        exact ⟨hf.1, zzbeq hf.2⟩
      split at h
      · rename_i x a r
        try simp only
        split at h
        · rename_i ci' hg
          obtain ⟨h1, h2⟩ := zzif h
          simp only [Bool.and_eq_true] at h1
          obtain ⟨q1, q2, q3⟩ := h1
          rw [zzgl_e, hg, ← zzbeq q1]
          refine ⟨rfl, ?_, hfin q3, zzstM_q h2⟩
          rcases Bool.or_eq_true_iff.mp q2 with q | q
          · rw [zzbeq q]
            exact True.intro
          · simp only [Bool.and_eq_true, Bool.or_eq_true, decide_eq_true_eq] at q
            rw [zzbeq q.1]
            exact q.2
        · exact h.elim
      · rename_i x a r
        try simp only
        split at h
        · rename_i ci' hg
          obtain ⟨h1, h2⟩ := zzif h
          simp only [Bool.and_eq_true] at h1
          obtain ⟨q1, q2, q3⟩ := h1
          rw [zzgl_e, hg, ← zzbeq q1]
          refine ⟨rfl, ?_, hfin q3, ?_⟩
          · rw [zzbeq q2]
            exact True.intro
          · have e : zput (zzem X s) a k (.ref x) = zzem X (s.1, s.2.1, (a, k, x) :: s.2.2.1, s.2.2.2) := by
              show (X, s.1, zLay.take s.2.1, zu (zzaK s.2.2.1) a k (some x), _, _) = _
              rw [zzaK_u]
              rfl
            rw [e]
            exact h2
        · exact h.elim
      · exact h.elim
    · exact h.elim
  | iaload =>
    simp only [zzstp] at h
    simp only [zwp]
    split at h
    · rename_i i a r
      try simp only
      split at h
      · rename_i t n hg
        obtain ⟨h1, h2⟩ := zzif h
        simp only [Bool.and_eq_true] at h1
        obtain ⟨q1, q2⟩ := h1
        have q1 := zzbeq q1
        subst q1
        rw [zzlen hg]
        exact ⟨zzvin q2, h2⟩
      · exact h.elim
    · exact h.elim
  | iastore =>
    simp only [zzstp] at h
    simp only [zwp]
    split at h
    · rename_i x i a r
      try simp only
      split at h
      · rename_i t n hg
        obtain ⟨h1, h2⟩ := zzif h
        simp only [Bool.and_eq_true] at h1
        obtain ⟨q1, q2⟩ := h1
        have q1 := zzbeq q1
        subst q1
        rw [zzlen hg]
        exact ⟨zzvin q2, zzstM_q h2⟩
      · exact h.elim
    · exact h.elim
  | aastore =>
    simp only [zzstp] at h
    simp only [zwp]
    split at h
    · rename_i x i a r
      try simp only
      split at h
      · rename_i t n hg
        split at h
        · rename_i c hx
          obtain ⟨h1, h2⟩ := zzif h
          simp only [Bool.and_eq_true] at h1
          obtain ⟨q1, q2, q3⟩ := h1
          have q1 := zzbeq q1
          subst q1
          rw [zzlen hg]
          refine ⟨zzvin q2, ?_, ?_⟩
          · rw [zzgl_e, hx, zzbeq q3]
          · have e : zu (zzem X s).2.2.2.1 a i.toNatClampNeg (some x) = zzaK ((a, i.toNatClampNeg, x) :: s.2.2.1) := zzaK_u
            rw [e]
            exact h2
        · exact h.elim
      · exact h.elim
    · exact h.elim
  | arraylength =>
    simp only [zzstp] at h
    simp only [zwp]
    split at h
    · rename_i a r
      try simp only
      split at h
      · rename_i t n hg
        obtain ⟨h1, h2⟩ := zzif h
        rw [zzalen hg h1]
        exact h2
      · exact h.elim
    · exact h.elim
  | new idx =>
    simp only [zzstp] at h
    simp only [zwp]
    split at h
    · rename_i ci g hl
      rw [hl]
      simp only
      split at h
      · rename_i N hN
        split at h
        · rename_i ci' hg
          obtain ⟨h1, h2⟩ := zzif h
          simp only [Bool.and_eq_true] at h1
          obtain ⟨q1, q2⟩ := h1
          have q1 := zzbeq q1
          subst q1
          obtain ⟨a1, a2, a3, a4, a5⟩ := zznew_e (X := X) q2 hg
          refine ⟨N, hN, a2, a3, by rw [a1]; exact a4, ?_⟩
          rw [a1, a5]
          exact h2
        · exact h.elim
      · exact h.elim
    · exact h.elim
  | newarray t =>
    simp only [zzstp] at h
    simp only [zwp]
    split at h
    · rename_i t' ht
      rw [ht]
      simp only
      split at h
      · rename_i n r
        try simp only
        split at h
        · rename_i t2 m hg
          obtain ⟨h1, h2⟩ := zzif h
          simp only [Bool.and_eq_true, Bool.not_eq_true', decide_eq_false_iff_not] at h1
          obtain ⟨q1, q2, q3, q4, q5⟩ := h1
          have q1 := zzbeq q1
          subst q1
          have q2 := zzbeq q2
          obtain ⟨a1, a2, a3, a4, a5⟩ := zznew_e (X := X) q5 hg
          rw [q2]
          refine ⟨q3, Nat.le_of_ble_eq_true q4, a2, a3, by rw [a1]; exact a4, ?_⟩
          rw [a1, a5]
          exact h2
        · exact h.elim
      · exact h.elim
    · exact h.elim
  | anewarray idx =>
    simp only [zzstp] at h
    simp only [zwp]
    split at h
    · rename_i ci g hl
      rw [hl]
      simp only
      split at h
      · rename_i n r
        try simp only
        split at h
        · rename_i t2 m hg
          obtain ⟨h1, h2⟩ := zzif h
          simp only [Bool.and_eq_true, Bool.not_eq_true', decide_eq_false_iff_not] at h1
          obtain ⟨q0, q1, q2, q3, q4, q5⟩ := h1
          have q0 := zzbeq q0
          subst q0
          have q2 := zzbeq q2
          obtain ⟨a1, a2, a3, a4, a5⟩ := zznew_e (X := X) q5 hg
          rw [q2]
          refine ⟨zzbeq q1, q3, Nat.le_of_ble_eq_true q4, a2, a3, by rw [a1]; exact a4, ?_⟩
          rw [a1, a5]
          exact h2
        · exact h.elim
      · exact h.elim
    · exact h.elim
  | invokestatic idx =>
    simp only [zzstp] at h
    simp only [zwp, ziS]
    split at h
    · rename_i mi n g1 g2 g3 hl
      rw [hl]
      simp only
      cases hb : Nat.beq mi 302
      · rw [hb] at h
        simp only [cond_false] at h ⊢
        cases hc : Nat.ble 303 mi
        · rw [hc] at h
          simp only [cond_false] at h ⊢
          split at h
          · rename_i as r ht
            rw [ht]
            exact zzif h
          · exact h.elim
        · rw [hc] at h
          simp only [cond_true] at h ⊢
          split at h
          · rename_i v r ht
            rw [ht]
            exact zzif h
          · exact h.elim
      · rw [hb] at h
        exact h.elim
    · exact h.elim
  | invokevirtual idx =>
    simp only [zzstp] at h
    simp only [zwp, ziV]
    split at h
    · rename_i mi n cl g2 g3 hl
      rw [hl]
      simp only
      split at h
      · rename_i as b r ht
        rw [ht]
        simp only
        split at h
        · rename_i c hg
          obtain ⟨h1, h2⟩ := zzif h
          simp only [Bool.and_eq_true] at h1
          obtain ⟨q1, q2, q3⟩ := h1
          have q3 := zzlt q3
          refine ⟨q1, ⟨fun q => absurd q (by omega), fun _ => ?_⟩, h2⟩
          rw [zzgl_e, hg, zzbeq q2]
        · exact h.elim
      · exact h.elim
    · exact h.elim
  | invokespecial idx =>
    simp only [zzstp] at h
    simp only [zwp, ziI]
    split at h
    · rename_i g hl
      rw [hl]
      simp only
      split at h
      · exact zzif h
      · exact h.elim
    · rename_i hl
      rw [hl]
      simp only
      split at h
      · rename_i mi n g1 g2 g3 hm
        rw [hm]
        simp only
        split at h
        · rename_i as b r ht
          rw [ht]
          exact zzif h
        · exact h.elim
      · exact h.elim
  | return_ =>
    simp only [zzstp] at h
    simp only [zwp]
    split at h
    · exact ⟨rfl, zzbeq (zzif h).1, (zzif h).2⟩
    · exact h.elim
  | _ => exact h.elim
theorem zzgo_q {cev : Nat → List Value → zzN → Option zzN} {own : Nat} {ini : Bool} {rt : Nat} {cd : List (List (Nat × zE))} {stop : Nat} (hm : zCm call call) (hcev : ∀ mi as s s', cev mi as s = some s' → ∀ F, F none (zzem X s') → call mi as (zzem X s) F) : ∀ (n pc : Nat) (ls st : List Value) (s : zzN), zzAq call (zEx call own ini rt cd F) F X (zzgo cev own ini rt cd stop n pc ls st s) → zEx call own ini rt cd F pc ls st (zzem X s)
  | 0, _, _, _, _, h => h.elim
  | n + 1, pc, ls, st, s, h => by
    unfold zzgo at h
    cases hb : Nat.beq pc stop
    · rw [hb] at h
      simp only [cond_false] at h
      split at h
      · exact h.elim
      · rename_i e he
        refine zEx_s hm he (zzstp_q ?_)
        split at h
        · rename_i pc' ls' st' s' hs
          rw [hs]
          exact zzgo_q hm hcev n _ _ _ _ h
        · rename_i s' hs
          rw [hs]
          exact h
        · rename_i mi as pc' ls' r s' hs
          rw [hs]
          show zcal call _ mi as pc' ls' r (zzem X s')
          unfold zcal
          split at h
          · rename_i hz
            rw [hz]
            simp only
            split at h
            · rename_i s2 h2
              refine hcev mi as ((0, 0), s'.2) s2 h2 _ ?_
              exact zzgo_q hm hcev n _ _ _ _ h
            · exact h.elim
          · rename_i a hz
            rw [hz]
            simp only
            obtain ⟨h1, h2⟩ := zzif h
            simp only [Bool.and_eq_true] at h1
            refine ⟨Nat.le_of_ble_eq_true h1.1, Nat.le_of_ble_eq_true h1.2, ?_⟩
            split at h2
            · rename_i s2 h3
              refine hcev mi as (a, s'.2) s2 h3 _ ?_
              exact zzgo_q hm hcev n _ _ _ _ h2
            · exact h2.elim
        · exact h.elim
    · rw [hb] at h
      exact h
end ZZ
theorem zzev_q {X : zX} : ∀ (d mi : Nat) (as : List Value) (s s' : zzN), zzev d mi as s = some s' → ∀ F : Option Value → zS → Prop, F none (zzem X s') → zCall d mi as (zzem X s) F
  | 0, _, _, _, _, h, _, _ => by cases h
  | d + 1, mi, as, s, s', h, F, hF => by
    unfold zzev at h
    unfold zCall
    split at h
    · rename_i own ini rt mL g1 g2 cd hi
      rw [hi]
      simp only
      cases hb : Nat.ble (zarg as).length mL
      · rw [hb] at h
        cases h
      · rw [hb] at h
        simp only [cond_true] at h
        refine ⟨Nat.le_of_ble_eq_true hb, ?_⟩
        split at h
        · rename_i s2 h2
          cases h
          refine zzgo_q (stop := 99999) (zCall_m d) (zzev_q d) 9000 _ _ _ _ ?_
          rw [h2]
          exact hF
        · cases h
    · cases h
