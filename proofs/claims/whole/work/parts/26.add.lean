/-! ===== operations that add a row ===== -/
theorem zlt {x y : Int32} : x < y ↔ x.toInt < y.toInt := Int32.lt_iff_toInt_lt
theorem zle {x y : Int32} : x ≤ y ↔ x.toInt ≤ y.toInt := Int32.le_iff_toInt_le
theorem zeq {x y : Int32} : x = y ↔ x.toInt = y.toInt := Int32.toInt_inj.symm
theorem zl0 : (0 : Int32).toInt = 0 := rfl
theorem zl1 : (1 : Int32).toInt = 1 := rfl
theorem zlm : (-1 : Int32).toInt = -1 := rfl
theorem zl3 : (3 : Int32).toInt = 3 := rfl
theorem zl4 : (4 : Int32).toInt = 4 := rfl
theorem zl8 : (8 : Int32).toInt = 8 := rfl
theorem zl9 : (9 : Int32).toInt = 9 := rfl
theorem zl10 : (10 : Int32).toInt = 10 := rfl
theorem zl15 : (15 : Int32).toInt = 15 := rfl
theorem zl20 : (20 : Int32).toInt = 20 := rfl
theorem zl30 : (30 : Int32).toInt = 30 := rfl
theorem zl59 : (59 : Int32).toInt = 59 := rfl
theorem zl60 : (60 : Int32).toInt = 60 := rfl
theorem zl300 : (300 : Int32).toInt = 300 := rfl
/-- a number between 0 and n, as a natural one -/
theorem znat {x : Int32} {n : Nat} (h0 : 0 ≤ x.toInt) (h1 : x.toInt < n) (hn : n ≤ 2 ^ 30) : ∃ j, j < n ∧ x = nI j := by
  refine ⟨x.toInt.toNat, by omega, ?_⟩
  apply Int32.toInt_inj.mp
  rw [nI_toInt (by omega)]
  omega
theorem znI {n : Nat} (h : n ≤ 2 ^ 30) : (nI n).toInt = n := nI_toInt (by omega)
theorem zsub1 {n : Nat} (h : n ≤ 2 ^ 20) : (nI n - 1).toInt = (n : Int) - 1 := pk_sub_toInt (a := n) (b := 1) (by omega) (by omega)
theorem zIn_add {M M2 : Nat → Nat → Int32} {n m n' : Nat → Nat} (h : zIn M n n') (hS : zSame M M2 n) (hA : ∀ j, zUsed n j → M2 72 j = M 72 j) (hA2 : ∀ j, 420 ≤ j → j < 478 → M2 72 j = M 72 j) (hcs : zCs (M2 72) m) (hcc : zCc M2) (hle : n 0 ≤ m 0 ∧ n 1 ≤ m 1 ∧ n 2 ≤ m 2 ∧ n 4 ≤ m 4 ∧ n 5 ≤ m 5 ∧ n 6 ≤ m 6 ∧ n 7 = m 7)
    (w0 : ∀ i, n 0 ≤ i → i < m 0 → zRp M2 (M2 72) m i) (w1 : ∀ i, n 1 ≤ i → i < m 1 → zRy M2 (M2 72) m i) (w2 : ∀ i, n 2 ≤ i → i < m 2 → zRs M2 (M2 72) m i) (w5 : ∀ i, n 5 ≤ i → i < m 5 → zRn M2 (M2 72) m i) (w6 : ∀ i, n 6 ≤ i → i < m 6 → zRe M2 (M2 72) m i)
    (hu : ∀ c, 22 ≤ c → c ≠ 72 → M2 c = M c) (hT : zTab M2) : zIn M2 m n' := by
  obtain ⟨a1, a2, a3, a4, a5, a6, a7, a8, a9, a10, a11, a12, a13, a14⟩ := h
  obtain ⟨l0, l1, l2, l4, l5, l6, l7⟩ := id a3
  have e73 : M2 73 = M 73 := hu 73 (by omega) (by omega)
  have k := zRw_keep (m := m) a6 hS hA hle.1 hle.2.1 hle.2.2.2.1
  refine ⟨hcs, by rw [e73]; exact a2, ⟨by omega, by omega, by omega, by omega, by omega, by omega, by omega⟩, hcc, ?_, ?_, ?_, ?_, ?_, ?_, ?_, hT, ?_, ?_⟩
  · unfold zCi
    rw [e73, hu 26 (by omega) (by omega)]
    exact a5
  · refine ⟨fun i hi => ?_, fun i hi => ?_, fun i hi => ?_, fun i hi => ?_, fun i hi => ?_⟩
    · rcases Nat.lt_or_ge i (n 0) with g | g
      · exact k.1 i g
      · exact w0 i g hi
    · rcases Nat.lt_or_ge i (n 1) with g | g
      · exact k.2.1 i g
      · exact w1 i g hi
    · rcases Nat.lt_or_ge i (n 2) with g | g
      · exact k.2.2.1 i g
      · exact w2 i g hi
    · rcases Nat.lt_or_ge i (n 5) with g | g
      · exact k.2.2.2.1 i g
      · exact w5 i g hi
    · rcases Nat.lt_or_ge i (n 6) with g | g
      · exact k.2.2.2.2 i g
      · exact w6 i g hi
  · rw [e73]
    exact zRw_self a7 (zSame_le a3 hS) (fun _ _ => rfl)
  · exact zLt_keep a8 (hu 23 (by omega) (by omega)) (hu 24 (by omega) (by omega)) (hu 25 (by omega) (by omega)) hA2 (by omega)
  · rw [e73]
    exact zLt_keep a9 (hu 28 (by omega) (by omega)) (hu 29 (by omega) (by omega)) (hu 30 (by omega) (by omega)) (fun _ _ _ => rfl) (Nat.le_refl _)
  · unfold zTp
    rw [hu 31 (by omega) (by omega), hu 71 (by omega) (by omega), hu 32 (by omega) (by omega), hu 74 (by omega) (by omega)]
    exact a10
  · rw [hu 31 (by omega) (by omega), hu 71 (by omega) (by omega)]
    exact a11
  · intro t ht
    exact zTx_same (fun c hc => hu c (by omega) (by omega)) (a13 t (by omega))
  · unfold zNr
    rw [hu 34 (by omega) (by omega)]
    exact a14
