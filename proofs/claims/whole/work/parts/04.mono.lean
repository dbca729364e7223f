theorem zldi_m {ls : List Value} {i : Nat} {K K' : Value → Prop} (h : ∀ v, K v → K' v) : zldi ls i K → zldi ls i K' := by
  unfold zldi
  split
  · exact h _
  · exact id
theorem zldl_m {ls : List Value} {i : Nat} {K K' : Value → Prop} (h : ∀ v, K v → K' v) : zldl ls i K → zldl ls i K' := by
  unfold zldl
  split
  · exact h _
  · exact id
theorem zlda_m {ls : List Value} {i : Nat} {K K' : Value → Prop} (h : ∀ v, K v → K' v) : zlda ls i K → zlda ls i K' := by
  unfold zlda
  split
  · exact h _
  · exact id
theorem zsw_m {Q Q' : Nat → Prop} (h : ∀ t, Q t → Q' t) {x : Int32} {d : Nat} : ∀ ts : List (Int32 × Nat), zsw Q x d ts → zsw Q' x d ts
  | [], g => h _ g
  | (_, _) :: r, g => ⟨fun c => h _ (g.1 c), fun c => zsw_m h r (g.2 c)⟩
def zCm (call call' : zC) : Prop := ∀ mi as S (F F' : Option Value → zS → Prop), (∀ v S', F v S' → F' v S') → call mi as S F → call' mi as S F'
theorem zcal_m {call call' : zC} (hc : zCm call call') {Q Q' : zQ} (hQ : ∀ pc ls st S, Q pc ls st S → Q' pc ls st S) {mi : Nat} {as : List Value} {pc : Nat} {ls r : List Value} {S : zS} : zcal call Q mi as pc ls r S → zcal call' Q' mi as pc ls r S := by
  unfold zcal
  split
  · exact hc _ _ _ _ _ (fun v S' h => hQ _ _ _ _ h)
  · exact fun h => ⟨h.1, h.2.1, hc _ _ _ _ _ (fun v S' h => hQ _ _ _ _ h) h.2.2⟩
theorem ziS_m {call call' : zC} (hc : zCm call call') {own : Nat} {Q Q' : zQ} (hQ : ∀ pc ls st S, Q pc ls st S → Q' pc ls st S) {idx pc : Nat} {ls st : List Value} {S : zS} : ziS call own Q idx pc ls st S → ziS call' own Q' idx pc ls st S := by
  unfold ziS
  split
  · rename_i mi n _ _ _ _
    cases Nat.beq mi 302
    · simp only [cond_false]
      cases Nat.ble 303 mi
      · simp only [cond_false]
        split
        · exact fun h => ⟨h.1, zcal_m hc hQ h.2⟩
        · exact id
      · simp only [cond_true]
        split
        · exact fun h => ⟨h.1, hQ _ _ _ _ h.2⟩
        · exact id
    · simp only [cond_true]
      split
      · rintro ⟨n0, n1, h1, h2, h3, h4, h5, h6, h7, h8, h9⟩
        exact ⟨n0, n1, h1, h2, h3, h4, h5, h6, h7, h8, hQ _ _ _ _ h9⟩
      · exact id
  · exact id
theorem ziV_m {call call' : zC} (hc : zCm call call') {own : Nat} {Q Q' : zQ} (hQ : ∀ pc ls st S, Q pc ls st S → Q' pc ls st S) {idx pc : Nat} {ls st : List Value} {S : zS} : ziV call own Q idx pc ls st S → ziV call' own Q' idx pc ls st S := by
  unfold ziV
  split
  · split
    · exact fun h => ⟨h.1, h.2.1, zcal_m hc hQ h.2.2⟩
    · exact id
  · exact id
theorem ziI_m {call call' : zC} (hc : zCm call call') {own : Nat} {Q Q' : zQ} (hQ : ∀ pc ls st S, Q pc ls st S → Q' pc ls st S) {idx pc : Nat} {ls st : List Value} {S : zS} : ziI call own Q idx pc ls st S → ziI call' own Q' idx pc ls st S := by
  unfold ziI
  split
  · split
    · exact fun h => ⟨h.1, hQ _ _ _ _ h.2⟩
    · exact id
  · split
    · split
      · exact fun h => ⟨h.1, zcal_m hc hQ h.2⟩
      · exact id
    · exact id
set_option maxHeartbeats 4000000 in
theorem zwp_m {call call' : zC} (hc : zCm call call') {own : Nat} {ini : Bool} {rt : Nat} {Q Q' : zQ} (hQ : ∀ pc ls st S, Q pc ls st S → Q' pc ls st S) {F F' : Option Value → zS → Prop} (hF : ∀ v S', F v S' → F' v S') {e : zE} {pc : Nat} {ls st : List Value} {S : zS} : zwp call own ini rt Q F e pc ls st S → zwp call' own ini rt Q' F' e pc ls st S := by
  unfold zwp
  split
  all_goals first
    | exact hQ _ _ _ _
    | exact zldi_m (fun v => hQ _ _ _ _)
    | exact zldl_m (fun v => hQ _ _ _ _)
    | exact zlda_m (fun v => hQ _ _ _ _)
    | exact ziS_m hc hQ
    | exact ziV_m hc hQ
    | exact ziI_m hc hQ
    | exact fun h => ⟨h.1, h.2.1, hF _ _ h.2.2⟩
    | exact fun h => ⟨h.1, zldi_m (fun v => by cases v <;> first | exact hQ _ _ _ _ | exact id) h.2⟩
    | skip
  all_goals repeat' split
  all_goals first
    | exact id
    | exact hQ _ _ _ _
    | exact fun h => ⟨h.1, hQ _ _ _ _ h.2⟩
    | exact fun h => ⟨h.1, hF _ _ h.2⟩
    | exact fun h => ⟨h.1, h.2.1, hQ _ _ _ _ h.2.2⟩
    | exact fun h => ⟨fun c => hQ _ _ _ _ (h.1 c), fun c => hQ _ _ _ _ (h.2 c)⟩
    | exact zsw_m (fun t => hQ _ _ _ _) _
    | exact fun h => ⟨h.1, h.2.1, h.2.2.1, hQ _ _ _ _ h.2.2.2⟩
    | exact fun ⟨N, h1, h2, h3, h4, h5⟩ => ⟨N, h1, h2, h3, h4, hQ _ _ _ _ h5⟩
    | exact fun ⟨h1, h2, h3, h4, h5, h6⟩ => ⟨h1, h2, h3, h4, h5, hQ _ _ _ _ h6⟩
    | exact fun ⟨h0, h1, h2, h3, h4, h5, h6⟩ => ⟨h0, h1, h2, h3, h4, h5, hQ _ _ _ _ h6⟩
/-- a step -/
theorem zEx_s {call : zC} (hc : zCm call call) {own : Nat} {ini : Bool} {rt : Nat} {cd : List (List (Nat × zE))} {F : Option Value → zS → Prop} {pc : Nat} {ls st : List Value} {S : zS} {e : zE} (h : zlk2 cd (pc / 32) pc = some e) (k : zwp call own ini rt (zEx call own ini rt cd F) F e pc ls st S) : zEx call own ini rt cd F pc ls st S := by
  intro P hP
  exact hP pc ls st S e h (zwp_m hc (fun pc ls st S h => h P hP) (fun _ _ h => h) k)
theorem zEx_m {call call' : zC} (hc : zCm call call') {own : Nat} {ini : Bool} {rt : Nat} {cd : List (List (Nat × zE))} {F F' : Option Value → zS → Prop} (hF : ∀ v S', F v S' → F' v S') {pc : Nat} {ls st : List Value} {S : zS} (h : zEx call own ini rt cd F pc ls st S) : zEx call' own ini rt cd F' pc ls st S := by
  intro P hP
  exact h P (fun pc ls st S e he hw => hP pc ls st S e he (zwp_m hc (fun _ _ _ _ h => h) hF hw))
theorem zprim_m {mi : Nat} {as : List Value} {S : zS} {F F' : Option Value → zS → Prop} (hF : ∀ v S', F v S' → F' v S') : zprim mi as S F → zprim mi as S F' := by
  unfold zprim
  split
  · rintro ⟨t, h1, h2, h3⟩
    exact ⟨t, h1, h2, hF _ _ h3⟩
  · rintro ⟨t, h1, h2, h3, h4⟩
    exact ⟨t, h1, h2, h3, hF _ _ h4⟩
  · exact id
theorem zCall_m : ∀ d, zCm (zCall d) (zCall d)
  | 0 => fun _ _ _ _ _ _ h => h
  | d + 1 => fun mi as S F F' hF h => by
    revert h
    unfold zCall
    split
    · exact fun h => ⟨h.1, zEx_m (zCall_m d) hF h.2⟩
    · exact fun h => ⟨h.1, zprim_m hF h.2⟩
/-- more room for calls does no harm -/
theorem zCall_u : ∀ d, zCm (zCall d) (zCall (d + 1))
  | 0 => fun _ _ _ _ _ _ h => h.elim
  | d + 1 => fun mi as S F F' hF h => by
    revert h
    unfold zCall
    split
    · exact fun h => ⟨h.1, zEx_m (zCall_u d) hF h.2⟩
    · exact fun h => ⟨by omega, zprim_m hF h.2⟩
theorem zCall_le {d d' : Nat} (h : d ≤ d') {mi : Nat} {as : List Value} {S : zS} {F : Option Value → zS → Prop} (hd : zCall d mi as S F) : zCall d' mi as S F := by
  induction h with
  | refl => exact hd
  | step _ ih => exact zCall_u _ _ _ _ _ _ (fun _ _ h => h) ih
