/-- only a method of the table is reached through the nest -/
theorem znb_ok : zall zmlL (fun _ _ x => !x.2.2.2.1 || Nat.blt x.1 zinfL.length) = true := by decide +kernel
/-- links that aren't of the table carry no class -/
theorem zcl99_ok : zall zmlL (fun _ _ x => Nat.blt x.1 zinfL.length || Nat.beq x.2.2.1 99) = true := by decide +kernel
theorem zcl_hi {own idx mi n cl row : Nat} {nb : Bool} (h : zlk2 zmlL own idx = some (mi, n, cl, nb, row)) (hm : zinfL.length ≤ mi) : cl = 99 := by
  have h1 := zall_spec zcl99_ok h
  rw [Bool.or_eq_true] at h1
  rcases h1 with h1 | h1
  · exact absurd (Nat.le_of_ble_eq_true h1) (by omega)
  · exact Nat.eq_of_beq_eq_true h1
