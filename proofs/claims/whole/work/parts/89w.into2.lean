/-! ===== text: the class reads it all ===== -/
def zr3 (o : zO3) : Int32 := match o with
  | Sum.inl (_, _, _) => 1
  | Sum.inr (_, _) => 0
section IN2
variable {d : Nat} {F : Option Value → zS → Prop} {X : zX} {b : Nat × Nat} {K : Nat → Nat → Option Nat} {B : Nat → Nat → Int64} {M0 : Nat → Nat → Int32} {T : Nat → Nat} {len tx stc frc toc : Nat}
theorem ztF5_tr {M M2 M3 : Nat → Nat → Int32} (h : ztF5 tx stc frc toc M M2) (k : ztF5 tx stc frc toc M2 M3) : ztF5 tx stc frc toc M M3 := fun c h1 h2 h3 h4 h5 => (k c h1 h2 h3 h4 h5).trans (h c h1 h2 h3 h4 h5)
theorem lp_into (hH : ztH5 X K tx stc frc toc) : ∀ (q k : Nat) (M : Nat → Nat → Int32) (p : Nat) (c : List (Nat × Nat)) (I : Nat → Option (Nat × Nat × Nat)), k + q = 4 → zcnt I = k → ztE M T len tx stc frc toc p c I → ztF5 tx stc frc toc M0 M → (∀ o M', ztD T len p c k I o → ztP3 M' T len tx stc frc toc o → ztF5 tx stc frc toc M0 M' → F (some (.int (zr3 o))) (X, b, zLay, K, B, (zu M' 31 1 0))) → zEx (zCall (d + 110)) 6 false 2 zc_Reader_readInto F 25 [.ref 31, .ref tx, .int (nI k)] [] (X, b, zLay, K, B, M) := by
  have hT := ztok T (len := len)
  intro q
  induction q with
  | zero =>
    intro k M p c I hk hc hE hF kk
    have hp := hT p hE.pl
    refine zb_Reader_readInto_25 (d := d + 1) (kd := ztk T len p) k hE.tk.1 hp.2.2.2.2.1 hE.fl (by omega) (fun z => absurd z (by omega)) (fun _ z => ?_) (fun _ z => ?_)
    · exact zb_Reader_readInto_55 (d := d + 1) k hE.fl (fun y => absurd rfl y) (fun _ => kk _ M (ztD.fin z) ⟨p, hE⟩ hF)
    · refine sp_clause (d := d) (k := k) hH hE z (fun f a M' D h5 F5 => ?_) (fun w p1 c1 M' hw _ hI _ _ _ _ => ?_)
      · obtain ⟨h1, h2, h3, q, h4, h6⟩ := h5
        have hq := hT q h6
        have f0 : ¬ (nI f = (0 : Int32)) := fun q => by
          have := (nI_eq (b := 0) (by omega) (by omega)).mp q
          omega
        have kx := kk _ M' D ⟨h1, h2, h3⟩ (ztF5_tr hF F5)
        refine zb_Reader_readInto_49 (d := d + 1) k (by omega) ?_
        have e55 : zEx (zCall (d + 110)) 6 false 2 zc_Reader_readInto F 55 [.ref 31, .ref tx, .int (nI (k + 1))] [] (X, b, zLay, K, B, M') := zb_Reader_readInto_55 (d := d + 1) (k + 1) h1 (fun _ => kx) (fun y => absurd y f0)
        exact zb_Reader_readIntoB_25 (d := d + 1) (k + 1) h4.1 hq.2.2.2.2.1 h1 (by omega) f0 (fun _ => e55) (fun _ _ => e55) (fun _ y => absurd y f0) (fun _ y => absurd y f0)
      · have := (zcnt_up (v := (0, 0, 0)) hw hI).2
        omega
  | succ q ih =>
    intro k M p c I hk hc hE hF kk
    have hp := hT p hE.pl
    refine zb_Reader_readInto_25 (d := d + 1) (kd := ztk T len p) k hE.tk.1 hp.2.2.2.2.1 hE.fl (by omega) (fun z => absurd z (by omega)) (fun _ z => ?_) (fun _ z => ?_)
    · exact zb_Reader_readInto_55 (d := d + 1) k hE.fl (fun y => absurd rfl y) (fun _ => kk _ M (ztD.fin z) ⟨p, hE⟩ hF)
    · refine sp_clause (d := d) (k := k) hH hE z (fun f a M' D h5 F5 => ?_) (fun w p1 c1 M' hw hkw hI D1 h29 hE1 F5 => ?_)
      · obtain ⟨h1, h2, h3, q, h4, h6⟩ := h5
        have hq := hT q h6
        have f0 : ¬ (nI f = (0 : Int32)) := fun q => by
          have := (nI_eq (b := 0) (by omega) (by omega)).mp q
          omega
        have kx := kk _ M' D ⟨h1, h2, h3⟩ (ztF5_tr hF F5)
        refine zb_Reader_readInto_49 (d := d + 1) k (by omega) ?_
        have e55 : zEx (zCall (d + 110)) 6 false 2 zc_Reader_readInto F 55 [.ref 31, .ref tx, .int (nI (k + 1))] [] (X, b, zLay, K, B, M') := zb_Reader_readInto_55 (d := d + 1) (k + 1) h1 (fun _ => kx) (fun y => absurd y f0)
        exact zb_Reader_readIntoB_25 (d := d + 1) (k + 1) h4.1 hq.2.2.2.2.1 h1 (by omega) f0 (fun _ => e55) (fun _ _ => e55) (fun _ y => absurd y f0) (fun _ y => absurd y f0)
      · refine zb_Reader_readInto_49 (d := d + 1) k (by omega) ?_
        exact ih (k + 1) M' (ztnx T len p1) c1 _ (by omega) (by rw [(zcnt_up hw hI).1, hc]) hE1 (ztF5_tr hF F5) (fun o M2 D P Fr => kk o M2 (ztD.go hw hkw hI D1 h29 D) P Fr)
theorem sp_into {M : Nat → Nat → Int32} (hH : ztH5 X K tx stc frc toc) (hT0 : ztT M T len) (kk : ∀ o M', ztD T len 0 [] 0 (fun _ => none) o → ztP3 M' T len tx stc frc toc o → ztF5 tx stc frc toc M M' → F (some (.int (zr3 o))) (X, b, zLay, K, B, (zu M' 31 1 0))) : zCall (d + 111) zm_Reader_readInto [.ref 31, .ref tx] (X, b, zLay, K, B, M) F := by
  obtain ⟨hH0, g1, g2, g3, g4, g5⟩ := id hH
  have hH2 := hH0.2.2.2.2.2
  have l300 := hT0.2.1
  refine zb_Reader_readInto_0 (d := d + 1) hH0.2.2.1 ?_
  refine zb_Text_wipe_0 (d := d + 107) hH0.2.2.1 g1 g2 ?_
  refine sp_fill (d := d + 108) g2 rfl ?_
  refine zb_Text_wipe_13 (d := d + 107) hH0.2.2.1 g3 g4 ?_
  refine sp_fill (d := d + 108) g4 rfl ?_
  refine zb_Text_wipe_21 (d := d + 107) ?_
  generalize hM1 : (zw (zw (zu M tx 1 0) frc (fun i => if i < 4 then -1 else zu M tx 1 0 frc i)) toc (fun i => if i < 4 then -1 else zw (zu M tx 1 0) frc (fun i => if i < 4 then -1 else zu M tx 1 0 frc i) toc i)) = M1
  have o1 : ∀ c, c ≠ tx → c ≠ frc → c ≠ toc → M1 c = M c := fun c h1 h2 h3 => by rw [← hM1]; unfold zw; rw [if_neg h3, if_neg h2, zu_oc h1]
  have fr : ∀ w, w < 4 → M1 frc w = -1 := fun w hw => by rw [← hM1]; unfold zw; rw [if_neg (by omega), if_pos rfl, if_pos hw]
  have sz : M1 tx 1 = 0 := by rw [← hM1]; unfold zw; rw [if_neg (by omega), if_neg (by omega), zu_at, if_pos rfl]
  refine zb_Reader_readInto_4 (d := d + 1) ?_
  generalize hM2 : (zu (zu (zu M1 31 2 0) 31 3 (-1)) 31 7 0) = M2
  have o2 : ∀ c, c ≠ 31 → M2 c = M1 c := fun c hc => by rw [← hM2, zu_oc hc, zu_oc hc, zu_oc hc]
  have hT2 : ztT M2 T len := ⟨by rw [← hM2, zu_at, if_neg (by decide), zu_at, if_neg (by decide), zu_at, if_neg (by decide), o1 31 (by omega) (by omega) (by omega)]; exact hT0.1, l300, by rw [o2 32 (by decide), o1 32 (by omega) (by omega) (by omega)]; exact hT0.2.2⟩
  refine sp_adv (d := d + 104) (p := 0) hH0.1 hT2 (by rw [← hM2, zu_at, if_pos rfl]; rfl) (by omega) (fun M3 a3 k3 => ?_)
  refine zb_Reader_readInto_23 (d := d + 1) ?_
  refine lp_into (d := d) (M0 := M) hH 4 0 M3 0 [] (fun _ => none) rfl rfl ⟨ztT_f a3 hT2, k3, Nat.zero_le _, by rw [a3.2 2 (by decide) (by decide) (by decide) (by decide), ← hM2, zu_at, if_neg (by decide), zu_at, if_neg (by decide), zu_at, if_pos rfl], by rw [a3.2 3 (by decide) (by decide) (by decide) (by decide), ← hM2, zu_at, if_neg (by decide), zu_at, if_pos rfl], by rw [a3.1 tx (by omega), o2 tx (by omega)]; exact sz, Nat.zero_le _, fun i hi => absurd hi (Nat.not_lt_zero _), fun w hw => Or.inl ⟨rfl, by rw [a3.1 frc (by omega), o2 frc (by omega)]; exact fr w hw⟩, Nat.zero_le _⟩ (fun c h1 h2 h3 h4 h5 => by rw [a3.1 c h1, o2 c h1]; exact o1 c h2 h4 h5) kk
end IN2
