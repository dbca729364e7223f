/-! ===== the law: blocks ===== -/
theorem zb_law_18 {d : Nat} {F : Option Value → zS → Prop} {X : zX} {b : Nat × Nat} {K : Nat → Nat → Option Nat} {B : Nat → Nat → Int64} {M : Nat → Nat → Int32} {L : Nat} {xs : Nat → Int32} (hX0 : X 1000 = some (L, xs))  (l3 : Int32) 
    (k1 : (((Int32.ofNat L) - 6) < l3) → F (some (.int 1)) (X, b, zLay, K, B, M))
    (g2 : (¬ ((Int32.ofNat L) - 6) < l3) → vp_in l3 L)
    (k3 : (¬ ((Int32.ofNat L) - 6) < l3) → (((xs l3.toNatClampNeg) &&& 31) = 0) → zEx (zCall d) 12 false 2 zc_law F 164 [.ref 1000, .ref 0, .ref 71, .int l3] [] (X, b, zLay, K, B, M))
    (k4 : (¬ ((Int32.ofNat L) - 6) < l3) → (¬ ((xs l3.toNatClampNeg) &&& 31) = 0) → (((xs l3.toNatClampNeg) &&& 31) = 1) → zEx (zCall d) 12 false 2 zc_law F 187 [.ref 1000, .ref 0, .ref 71, .int l3] [] (X, b, zLay, K, B, M))
    (k5 : (¬ ((Int32.ofNat L) - 6) < l3) → (¬ ((xs l3.toNatClampNeg) &&& 31) = 0) → (¬ ((xs l3.toNatClampNeg) &&& 31) = 1) → (((xs l3.toNatClampNeg) &&& 31) = 2) → zEx (zCall d) 12 false 2 zc_law F 230 [.ref 1000, .ref 0, .ref 71, .int l3] [] (X, b, zLay, K, B, M))
    (k6 : (¬ ((Int32.ofNat L) - 6) < l3) → (¬ ((xs l3.toNatClampNeg) &&& 31) = 0) → (¬ ((xs l3.toNatClampNeg) &&& 31) = 1) → (¬ ((xs l3.toNatClampNeg) &&& 31) = 2) → (((xs l3.toNatClampNeg) &&& 31) = 3) → zEx (zCall d) 12 false 2 zc_law F 273 [.ref 1000, .ref 0, .ref 71, .int l3] [] (X, b, zLay, K, B, M))
    (k7 : (¬ ((Int32.ofNat L) - 6) < l3) → (¬ ((xs l3.toNatClampNeg) &&& 31) = 0) → (¬ ((xs l3.toNatClampNeg) &&& 31) = 1) → (¬ ((xs l3.toNatClampNeg) &&& 31) = 2) → (¬ ((xs l3.toNatClampNeg) &&& 31) = 3) → (((xs l3.toNatClampNeg) &&& 31) = 4) → zEx (zCall d) 12 false 2 zc_law F 296 [.ref 1000, .ref 0, .ref 71, .int l3] [] (X, b, zLay, K, B, M))
    (k8 : (¬ ((Int32.ofNat L) - 6) < l3) → (¬ ((xs l3.toNatClampNeg) &&& 31) = 0) → (¬ ((xs l3.toNatClampNeg) &&& 31) = 1) → (¬ ((xs l3.toNatClampNeg) &&& 31) = 2) → (¬ ((xs l3.toNatClampNeg) &&& 31) = 3) → (¬ ((xs l3.toNatClampNeg) &&& 31) = 4) → (((xs l3.toNatClampNeg) &&& 31) = 5) → zEx (zCall d) 12 false 2 zc_law F 309 [.ref 1000, .ref 0, .ref 71, .int l3] [] (X, b, zLay, K, B, M))
    (k9 : (¬ ((Int32.ofNat L) - 6) < l3) → (¬ ((xs l3.toNatClampNeg) &&& 31) = 0) → (¬ ((xs l3.toNatClampNeg) &&& 31) = 1) → (¬ ((xs l3.toNatClampNeg) &&& 31) = 2) → (¬ ((xs l3.toNatClampNeg) &&& 31) = 3) → (¬ ((xs l3.toNatClampNeg) &&& 31) = 4) → (¬ ((xs l3.toNatClampNeg) &&& 31) = 5) → (((xs l3.toNatClampNeg) &&& 31) = 6) → zEx (zCall d) 12 false 2 zc_law F 362 [.ref 1000, .ref 0, .ref 71, .int l3] [] (X, b, zLay, K, B, M))
    (k10 : (¬ ((Int32.ofNat L) - 6) < l3) → (¬ ((xs l3.toNatClampNeg) &&& 31) = 0) → (¬ ((xs l3.toNatClampNeg) &&& 31) = 1) → (¬ ((xs l3.toNatClampNeg) &&& 31) = 2) → (¬ ((xs l3.toNatClampNeg) &&& 31) = 3) → (¬ ((xs l3.toNatClampNeg) &&& 31) = 4) → (¬ ((xs l3.toNatClampNeg) &&& 31) = 5) → (¬ ((xs l3.toNatClampNeg) &&& 31) = 6) → (((xs l3.toNatClampNeg) &&& 31) = 7) → zEx (zCall d) 12 false 2 zc_law F 415 [.ref 1000, .ref 0, .ref 71, .int l3] [] (X, b, zLay, K, B, M))
    (k11 : (¬ ((Int32.ofNat L) - 6) < l3) → (¬ ((xs l3.toNatClampNeg) &&& 31) = 0) → (¬ ((xs l3.toNatClampNeg) &&& 31) = 1) → (¬ ((xs l3.toNatClampNeg) &&& 31) = 2) → (¬ ((xs l3.toNatClampNeg) &&& 31) = 3) → (¬ ((xs l3.toNatClampNeg) &&& 31) = 4) → (¬ ((xs l3.toNatClampNeg) &&& 31) = 5) → (¬ ((xs l3.toNatClampNeg) &&& 31) = 6) → (¬ ((xs l3.toNatClampNeg) &&& 31) = 7) → (((xs l3.toNatClampNeg) &&& 31) = 8) → zEx (zCall d) 12 false 2 zc_law F 478 [.ref 1000, .ref 0, .ref 71, .int l3] [] (X, b, zLay, K, B, M))
    (k12 : (¬ ((Int32.ofNat L) - 6) < l3) → (¬ ((xs l3.toNatClampNeg) &&& 31) = 0) → (¬ ((xs l3.toNatClampNeg) &&& 31) = 1) → (¬ ((xs l3.toNatClampNeg) &&& 31) = 2) → (¬ ((xs l3.toNatClampNeg) &&& 31) = 3) → (¬ ((xs l3.toNatClampNeg) &&& 31) = 4) → (¬ ((xs l3.toNatClampNeg) &&& 31) = 5) → (¬ ((xs l3.toNatClampNeg) &&& 31) = 6) → (¬ ((xs l3.toNatClampNeg) &&& 31) = 7) → (¬ ((xs l3.toNatClampNeg) &&& 31) = 8) → (((xs l3.toNatClampNeg) &&& 31) = 9) → zEx (zCall d) 12 false 2 zc_law F 501 [.ref 1000, .ref 0, .ref 71, .int l3] [] (X, b, zLay, K, B, M))
    (k13 : (¬ ((Int32.ofNat L) - 6) < l3) → (¬ ((xs l3.toNatClampNeg) &&& 31) = 0) → (¬ ((xs l3.toNatClampNeg) &&& 31) = 1) → (¬ ((xs l3.toNatClampNeg) &&& 31) = 2) → (¬ ((xs l3.toNatClampNeg) &&& 31) = 3) → (¬ ((xs l3.toNatClampNeg) &&& 31) = 4) → (¬ ((xs l3.toNatClampNeg) &&& 31) = 5) → (¬ ((xs l3.toNatClampNeg) &&& 31) = 6) → (¬ ((xs l3.toNatClampNeg) &&& 31) = 7) → (¬ ((xs l3.toNatClampNeg) &&& 31) = 8) → (¬ ((xs l3.toNatClampNeg) &&& 31) = 9) → (((xs l3.toNatClampNeg) &&& 31) = 10) → zEx (zCall d) 12 false 2 zc_law F 514 [.ref 1000, .ref 0, .ref 71, .int l3] [] (X, b, zLay, K, B, M))
    (k14 : (¬ ((Int32.ofNat L) - 6) < l3) → (¬ ((xs l3.toNatClampNeg) &&& 31) = 0) → (¬ ((xs l3.toNatClampNeg) &&& 31) = 1) → (¬ ((xs l3.toNatClampNeg) &&& 31) = 2) → (¬ ((xs l3.toNatClampNeg) &&& 31) = 3) → (¬ ((xs l3.toNatClampNeg) &&& 31) = 4) → (¬ ((xs l3.toNatClampNeg) &&& 31) = 5) → (¬ ((xs l3.toNatClampNeg) &&& 31) = 6) → (¬ ((xs l3.toNatClampNeg) &&& 31) = 7) → (¬ ((xs l3.toNatClampNeg) &&& 31) = 8) → (¬ ((xs l3.toNatClampNeg) &&& 31) = 9) → (¬ ((xs l3.toNatClampNeg) &&& 31) = 10) → (((xs l3.toNatClampNeg) &&& 31) = 11) → zEx (zCall d) 12 false 2 zc_law F 537 [.ref 1000, .ref 0, .ref 71, .int l3] [] (X, b, zLay, K, B, M))
    (k15 : (¬ ((Int32.ofNat L) - 6) < l3) → (¬ ((xs l3.toNatClampNeg) &&& 31) = 0) → (¬ ((xs l3.toNatClampNeg) &&& 31) = 1) → (¬ ((xs l3.toNatClampNeg) &&& 31) = 2) → (¬ ((xs l3.toNatClampNeg) &&& 31) = 3) → (¬ ((xs l3.toNatClampNeg) &&& 31) = 4) → (¬ ((xs l3.toNatClampNeg) &&& 31) = 5) → (¬ ((xs l3.toNatClampNeg) &&& 31) = 6) → (¬ ((xs l3.toNatClampNeg) &&& 31) = 7) → (¬ ((xs l3.toNatClampNeg) &&& 31) = 8) → (¬ ((xs l3.toNatClampNeg) &&& 31) = 9) → (¬ ((xs l3.toNatClampNeg) &&& 31) = 10) → (¬ ((xs l3.toNatClampNeg) &&& 31) = 11) → (((xs l3.toNatClampNeg) &&& 31) = 12) → zEx (zCall d) 12 false 2 zc_law F 580 [.ref 1000, .ref 0, .ref 71, .int l3] [] (X, b, zLay, K, B, M))
    (k16 : (¬ ((Int32.ofNat L) - 6) < l3) → (¬ ((xs l3.toNatClampNeg) &&& 31) = 0) → (¬ ((xs l3.toNatClampNeg) &&& 31) = 1) → (¬ ((xs l3.toNatClampNeg) &&& 31) = 2) → (¬ ((xs l3.toNatClampNeg) &&& 31) = 3) → (¬ ((xs l3.toNatClampNeg) &&& 31) = 4) → (¬ ((xs l3.toNatClampNeg) &&& 31) = 5) → (¬ ((xs l3.toNatClampNeg) &&& 31) = 6) → (¬ ((xs l3.toNatClampNeg) &&& 31) = 7) → (¬ ((xs l3.toNatClampNeg) &&& 31) = 8) → (¬ ((xs l3.toNatClampNeg) &&& 31) = 9) → (¬ ((xs l3.toNatClampNeg) &&& 31) = 10) → (¬ ((xs l3.toNatClampNeg) &&& 31) = 11) → (¬ ((xs l3.toNatClampNeg) &&& 31) = 12) → (((xs l3.toNatClampNeg) &&& 31) = 13) → zEx (zCall d) 12 false 2 zc_law F 613 [.ref 1000, .ref 0, .ref 71, .int l3] [] (X, b, zLay, K, B, M))
    (k17 : (¬ ((Int32.ofNat L) - 6) < l3) → (¬ ((xs l3.toNatClampNeg) &&& 31) = 0) → (¬ ((xs l3.toNatClampNeg) &&& 31) = 1) → (¬ ((xs l3.toNatClampNeg) &&& 31) = 2) → (¬ ((xs l3.toNatClampNeg) &&& 31) = 3) → (¬ ((xs l3.toNatClampNeg) &&& 31) = 4) → (¬ ((xs l3.toNatClampNeg) &&& 31) = 5) → (¬ ((xs l3.toNatClampNeg) &&& 31) = 6) → (¬ ((xs l3.toNatClampNeg) &&& 31) = 7) → (¬ ((xs l3.toNatClampNeg) &&& 31) = 8) → (¬ ((xs l3.toNatClampNeg) &&& 31) = 9) → (¬ ((xs l3.toNatClampNeg) &&& 31) = 10) → (¬ ((xs l3.toNatClampNeg) &&& 31) = 11) → (¬ ((xs l3.toNatClampNeg) &&& 31) = 12) → (¬ ((xs l3.toNatClampNeg) &&& 31) = 13) → (((xs l3.toNatClampNeg) &&& 31) = 14) → zEx (zCall d) 12 false 2 zc_law F 656 [.ref 1000, .ref 0, .ref 71, .int l3] [] (X, b, zLay, K, B, M))
    (k18 : (¬ ((Int32.ofNat L) - 6) < l3) → (¬ ((xs l3.toNatClampNeg) &&& 31) = 0) → (¬ ((xs l3.toNatClampNeg) &&& 31) = 1) → (¬ ((xs l3.toNatClampNeg) &&& 31) = 2) → (¬ ((xs l3.toNatClampNeg) &&& 31) = 3) → (¬ ((xs l3.toNatClampNeg) &&& 31) = 4) → (¬ ((xs l3.toNatClampNeg) &&& 31) = 5) → (¬ ((xs l3.toNatClampNeg) &&& 31) = 6) → (¬ ((xs l3.toNatClampNeg) &&& 31) = 7) → (¬ ((xs l3.toNatClampNeg) &&& 31) = 8) → (¬ ((xs l3.toNatClampNeg) &&& 31) = 9) → (¬ ((xs l3.toNatClampNeg) &&& 31) = 10) → (¬ ((xs l3.toNatClampNeg) &&& 31) = 11) → (¬ ((xs l3.toNatClampNeg) &&& 31) = 12) → (¬ ((xs l3.toNatClampNeg) &&& 31) = 13) → (¬ ((xs l3.toNatClampNeg) &&& 31) = 14) → (((xs l3.toNatClampNeg) &&& 31) = 15) → zEx (zCall d) 12 false 2 zc_law F 699 [.ref 1000, .ref 0, .ref 71, .int l3] [] (X, b, zLay, K, B, M))
    (k19 : (¬ ((Int32.ofNat L) - 6) < l3) → (¬ ((xs l3.toNatClampNeg) &&& 31) = 0) → (¬ ((xs l3.toNatClampNeg) &&& 31) = 1) → (¬ ((xs l3.toNatClampNeg) &&& 31) = 2) → (¬ ((xs l3.toNatClampNeg) &&& 31) = 3) → (¬ ((xs l3.toNatClampNeg) &&& 31) = 4) → (¬ ((xs l3.toNatClampNeg) &&& 31) = 5) → (¬ ((xs l3.toNatClampNeg) &&& 31) = 6) → (¬ ((xs l3.toNatClampNeg) &&& 31) = 7) → (¬ ((xs l3.toNatClampNeg) &&& 31) = 8) → (¬ ((xs l3.toNatClampNeg) &&& 31) = 9) → (¬ ((xs l3.toNatClampNeg) &&& 31) = 10) → (¬ ((xs l3.toNatClampNeg) &&& 31) = 11) → (¬ ((xs l3.toNatClampNeg) &&& 31) = 12) → (¬ ((xs l3.toNatClampNeg) &&& 31) = 13) → (¬ ((xs l3.toNatClampNeg) &&& 31) = 14) → (¬ ((xs l3.toNatClampNeg) &&& 31) = 15) → (((xs l3.toNatClampNeg) &&& 31) = 16) → zEx (zCall d) 12 false 2 zc_law F 752 [.ref 1000, .ref 0, .ref 71, .int l3] [] (X, b, zLay, K, B, M))
    (k20 : (¬ ((Int32.ofNat L) - 6) < l3) → (¬ ((xs l3.toNatClampNeg) &&& 31) = 0) → (¬ ((xs l3.toNatClampNeg) &&& 31) = 1) → (¬ ((xs l3.toNatClampNeg) &&& 31) = 2) → (¬ ((xs l3.toNatClampNeg) &&& 31) = 3) → (¬ ((xs l3.toNatClampNeg) &&& 31) = 4) → (¬ ((xs l3.toNatClampNeg) &&& 31) = 5) → (¬ ((xs l3.toNatClampNeg) &&& 31) = 6) → (¬ ((xs l3.toNatClampNeg) &&& 31) = 7) → (¬ ((xs l3.toNatClampNeg) &&& 31) = 8) → (¬ ((xs l3.toNatClampNeg) &&& 31) = 9) → (¬ ((xs l3.toNatClampNeg) &&& 31) = 10) → (¬ ((xs l3.toNatClampNeg) &&& 31) = 11) → (¬ ((xs l3.toNatClampNeg) &&& 31) = 12) → (¬ ((xs l3.toNatClampNeg) &&& 31) = 13) → (¬ ((xs l3.toNatClampNeg) &&& 31) = 14) → (¬ ((xs l3.toNatClampNeg) &&& 31) = 15) → (¬ ((xs l3.toNatClampNeg) &&& 31) = 16) → (((xs l3.toNatClampNeg) &&& 31) = 17) → zEx (zCall d) 12 false 2 zc_law F 815 [.ref 1000, .ref 0, .ref 71, .int l3] [] (X, b, zLay, K, B, M))
    (k21 : (¬ ((Int32.ofNat L) - 6) < l3) → (¬ ((xs l3.toNatClampNeg) &&& 31) = 0) → (¬ ((xs l3.toNatClampNeg) &&& 31) = 1) → (¬ ((xs l3.toNatClampNeg) &&& 31) = 2) → (¬ ((xs l3.toNatClampNeg) &&& 31) = 3) → (¬ ((xs l3.toNatClampNeg) &&& 31) = 4) → (¬ ((xs l3.toNatClampNeg) &&& 31) = 5) → (¬ ((xs l3.toNatClampNeg) &&& 31) = 6) → (¬ ((xs l3.toNatClampNeg) &&& 31) = 7) → (¬ ((xs l3.toNatClampNeg) &&& 31) = 8) → (¬ ((xs l3.toNatClampNeg) &&& 31) = 9) → (¬ ((xs l3.toNatClampNeg) &&& 31) = 10) → (¬ ((xs l3.toNatClampNeg) &&& 31) = 11) → (¬ ((xs l3.toNatClampNeg) &&& 31) = 12) → (¬ ((xs l3.toNatClampNeg) &&& 31) = 13) → (¬ ((xs l3.toNatClampNeg) &&& 31) = 14) → (¬ ((xs l3.toNatClampNeg) &&& 31) = 15) → (¬ ((xs l3.toNatClampNeg) &&& 31) = 16) → (¬ ((xs l3.toNatClampNeg) &&& 31) = 17) → (((xs l3.toNatClampNeg) &&& 31) = 18) → zEx (zCall d) 12 false 2 zc_law F 858 [.ref 1000, .ref 0, .ref 71, .int l3] [] (X, b, zLay, K, B, M))
    (k22 : (¬ ((Int32.ofNat L) - 6) < l3) → (¬ ((xs l3.toNatClampNeg) &&& 31) = 0) → (¬ ((xs l3.toNatClampNeg) &&& 31) = 1) → (¬ ((xs l3.toNatClampNeg) &&& 31) = 2) → (¬ ((xs l3.toNatClampNeg) &&& 31) = 3) → (¬ ((xs l3.toNatClampNeg) &&& 31) = 4) → (¬ ((xs l3.toNatClampNeg) &&& 31) = 5) → (¬ ((xs l3.toNatClampNeg) &&& 31) = 6) → (¬ ((xs l3.toNatClampNeg) &&& 31) = 7) → (¬ ((xs l3.toNatClampNeg) &&& 31) = 8) → (¬ ((xs l3.toNatClampNeg) &&& 31) = 9) → (¬ ((xs l3.toNatClampNeg) &&& 31) = 10) → (¬ ((xs l3.toNatClampNeg) &&& 31) = 11) → (¬ ((xs l3.toNatClampNeg) &&& 31) = 12) → (¬ ((xs l3.toNatClampNeg) &&& 31) = 13) → (¬ ((xs l3.toNatClampNeg) &&& 31) = 14) → (¬ ((xs l3.toNatClampNeg) &&& 31) = 15) → (¬ ((xs l3.toNatClampNeg) &&& 31) = 16) → (¬ ((xs l3.toNatClampNeg) &&& 31) = 17) → (¬ ((xs l3.toNatClampNeg) &&& 31) = 18) → (((xs l3.toNatClampNeg) &&& 31) = 19) → zEx (zCall d) 12 false 2 zc_law F 901 [.ref 1000, .ref 0, .ref 71, .int l3] [] (X, b, zLay, K, B, M))
    (k23 : (¬ ((Int32.ofNat L) - 6) < l3) → (¬ ((xs l3.toNatClampNeg) &&& 31) = 0) → (¬ ((xs l3.toNatClampNeg) &&& 31) = 1) → (¬ ((xs l3.toNatClampNeg) &&& 31) = 2) → (¬ ((xs l3.toNatClampNeg) &&& 31) = 3) → (¬ ((xs l3.toNatClampNeg) &&& 31) = 4) → (¬ ((xs l3.toNatClampNeg) &&& 31) = 5) → (¬ ((xs l3.toNatClampNeg) &&& 31) = 6) → (¬ ((xs l3.toNatClampNeg) &&& 31) = 7) → (¬ ((xs l3.toNatClampNeg) &&& 31) = 8) → (¬ ((xs l3.toNatClampNeg) &&& 31) = 9) → (¬ ((xs l3.toNatClampNeg) &&& 31) = 10) → (¬ ((xs l3.toNatClampNeg) &&& 31) = 11) → (¬ ((xs l3.toNatClampNeg) &&& 31) = 12) → (¬ ((xs l3.toNatClampNeg) &&& 31) = 13) → (¬ ((xs l3.toNatClampNeg) &&& 31) = 14) → (¬ ((xs l3.toNatClampNeg) &&& 31) = 15) → (¬ ((xs l3.toNatClampNeg) &&& 31) = 16) → (¬ ((xs l3.toNatClampNeg) &&& 31) = 17) → (¬ ((xs l3.toNatClampNeg) &&& 31) = 18) → (¬ ((xs l3.toNatClampNeg) &&& 31) = 19) → (((xs l3.toNatClampNeg) &&& 31) = 20) → zEx (zCall d) 12 false 2 zc_law F 944 [.ref 1000, .ref 0, .ref 71, .int l3] [] (X, b, zLay, K, B, M))
    (k24 : (¬ ((Int32.ofNat L) - 6) < l3) → (¬ ((xs l3.toNatClampNeg) &&& 31) = 0) → (¬ ((xs l3.toNatClampNeg) &&& 31) = 1) → (¬ ((xs l3.toNatClampNeg) &&& 31) = 2) → (¬ ((xs l3.toNatClampNeg) &&& 31) = 3) → (¬ ((xs l3.toNatClampNeg) &&& 31) = 4) → (¬ ((xs l3.toNatClampNeg) &&& 31) = 5) → (¬ ((xs l3.toNatClampNeg) &&& 31) = 6) → (¬ ((xs l3.toNatClampNeg) &&& 31) = 7) → (¬ ((xs l3.toNatClampNeg) &&& 31) = 8) → (¬ ((xs l3.toNatClampNeg) &&& 31) = 9) → (¬ ((xs l3.toNatClampNeg) &&& 31) = 10) → (¬ ((xs l3.toNatClampNeg) &&& 31) = 11) → (¬ ((xs l3.toNatClampNeg) &&& 31) = 12) → (¬ ((xs l3.toNatClampNeg) &&& 31) = 13) → (¬ ((xs l3.toNatClampNeg) &&& 31) = 14) → (¬ ((xs l3.toNatClampNeg) &&& 31) = 15) → (¬ ((xs l3.toNatClampNeg) &&& 31) = 16) → (¬ ((xs l3.toNatClampNeg) &&& 31) = 17) → (¬ ((xs l3.toNatClampNeg) &&& 31) = 18) → (¬ ((xs l3.toNatClampNeg) &&& 31) = 19) → (¬ ((xs l3.toNatClampNeg) &&& 31) = 20) → (((xs l3.toNatClampNeg) &&& 31) = 21) → zEx (zCall d) 12 false 2 zc_law F 997 [.ref 1000, .ref 0, .ref 71, .int l3] [] (X, b, zLay, K, B, M))
    (k25 : (¬ ((Int32.ofNat L) - 6) < l3) → (¬ ((xs l3.toNatClampNeg) &&& 31) = 0) → (¬ ((xs l3.toNatClampNeg) &&& 31) = 1) → (¬ ((xs l3.toNatClampNeg) &&& 31) = 2) → (¬ ((xs l3.toNatClampNeg) &&& 31) = 3) → (¬ ((xs l3.toNatClampNeg) &&& 31) = 4) → (¬ ((xs l3.toNatClampNeg) &&& 31) = 5) → (¬ ((xs l3.toNatClampNeg) &&& 31) = 6) → (¬ ((xs l3.toNatClampNeg) &&& 31) = 7) → (¬ ((xs l3.toNatClampNeg) &&& 31) = 8) → (¬ ((xs l3.toNatClampNeg) &&& 31) = 9) → (¬ ((xs l3.toNatClampNeg) &&& 31) = 10) → (¬ ((xs l3.toNatClampNeg) &&& 31) = 11) → (¬ ((xs l3.toNatClampNeg) &&& 31) = 12) → (¬ ((xs l3.toNatClampNeg) &&& 31) = 13) → (¬ ((xs l3.toNatClampNeg) &&& 31) = 14) → (¬ ((xs l3.toNatClampNeg) &&& 31) = 15) → (¬ ((xs l3.toNatClampNeg) &&& 31) = 16) → (¬ ((xs l3.toNatClampNeg) &&& 31) = 17) → (¬ ((xs l3.toNatClampNeg) &&& 31) = 18) → (¬ ((xs l3.toNatClampNeg) &&& 31) = 19) → (¬ ((xs l3.toNatClampNeg) &&& 31) = 20) → (¬ ((xs l3.toNatClampNeg) &&& 31) = 21) → (((xs l3.toNatClampNeg) &&& 31) = 22) → zEx (zCall d) 12 false 2 zc_law F 1040 [.ref 1000, .ref 0, .ref 71, .int l3] [] (X, b, zLay, K, B, M))
    (k26 : (¬ ((Int32.ofNat L) - 6) < l3) → (¬ ((xs l3.toNatClampNeg) &&& 31) = 0) → (¬ ((xs l3.toNatClampNeg) &&& 31) = 1) → (¬ ((xs l3.toNatClampNeg) &&& 31) = 2) → (¬ ((xs l3.toNatClampNeg) &&& 31) = 3) → (¬ ((xs l3.toNatClampNeg) &&& 31) = 4) → (¬ ((xs l3.toNatClampNeg) &&& 31) = 5) → (¬ ((xs l3.toNatClampNeg) &&& 31) = 6) → (¬ ((xs l3.toNatClampNeg) &&& 31) = 7) → (¬ ((xs l3.toNatClampNeg) &&& 31) = 8) → (¬ ((xs l3.toNatClampNeg) &&& 31) = 9) → (¬ ((xs l3.toNatClampNeg) &&& 31) = 10) → (¬ ((xs l3.toNatClampNeg) &&& 31) = 11) → (¬ ((xs l3.toNatClampNeg) &&& 31) = 12) → (¬ ((xs l3.toNatClampNeg) &&& 31) = 13) → (¬ ((xs l3.toNatClampNeg) &&& 31) = 14) → (¬ ((xs l3.toNatClampNeg) &&& 31) = 15) → (¬ ((xs l3.toNatClampNeg) &&& 31) = 16) → (¬ ((xs l3.toNatClampNeg) &&& 31) = 17) → (¬ ((xs l3.toNatClampNeg) &&& 31) = 18) → (¬ ((xs l3.toNatClampNeg) &&& 31) = 19) → (¬ ((xs l3.toNatClampNeg) &&& 31) = 20) → (¬ ((xs l3.toNatClampNeg) &&& 31) = 21) → (¬ ((xs l3.toNatClampNeg) &&& 31) = 22) → (((xs l3.toNatClampNeg) &&& 31) = 23) → zEx (zCall d) 12 false 2 zc_law F 1073 [.ref 1000, .ref 0, .ref 71, .int l3] [] (X, b, zLay, K, B, M))
    (k27 : (¬ ((Int32.ofNat L) - 6) < l3) → (¬ ((xs l3.toNatClampNeg) &&& 31) = 0) → (¬ ((xs l3.toNatClampNeg) &&& 31) = 1) → (¬ ((xs l3.toNatClampNeg) &&& 31) = 2) → (¬ ((xs l3.toNatClampNeg) &&& 31) = 3) → (¬ ((xs l3.toNatClampNeg) &&& 31) = 4) → (¬ ((xs l3.toNatClampNeg) &&& 31) = 5) → (¬ ((xs l3.toNatClampNeg) &&& 31) = 6) → (¬ ((xs l3.toNatClampNeg) &&& 31) = 7) → (¬ ((xs l3.toNatClampNeg) &&& 31) = 8) → (¬ ((xs l3.toNatClampNeg) &&& 31) = 9) → (¬ ((xs l3.toNatClampNeg) &&& 31) = 10) → (¬ ((xs l3.toNatClampNeg) &&& 31) = 11) → (¬ ((xs l3.toNatClampNeg) &&& 31) = 12) → (¬ ((xs l3.toNatClampNeg) &&& 31) = 13) → (¬ ((xs l3.toNatClampNeg) &&& 31) = 14) → (¬ ((xs l3.toNatClampNeg) &&& 31) = 15) → (¬ ((xs l3.toNatClampNeg) &&& 31) = 16) → (¬ ((xs l3.toNatClampNeg) &&& 31) = 17) → (¬ ((xs l3.toNatClampNeg) &&& 31) = 18) → (¬ ((xs l3.toNatClampNeg) &&& 31) = 19) → (¬ ((xs l3.toNatClampNeg) &&& 31) = 20) → (¬ ((xs l3.toNatClampNeg) &&& 31) = 21) → (¬ ((xs l3.toNatClampNeg) &&& 31) = 22) → (¬ ((xs l3.toNatClampNeg) &&& 31) = 23) → (((xs l3.toNatClampNeg) &&& 31) = 24) → zEx (zCall d) 12 false 2 zc_law F 1126 [.ref 1000, .ref 0, .ref 71, .int l3] [] (X, b, zLay, K, B, M))
    (k28 : (¬ ((Int32.ofNat L) - 6) < l3) → (¬ ((xs l3.toNatClampNeg) &&& 31) = 0) → (¬ ((xs l3.toNatClampNeg) &&& 31) = 1) → (¬ ((xs l3.toNatClampNeg) &&& 31) = 2) → (¬ ((xs l3.toNatClampNeg) &&& 31) = 3) → (¬ ((xs l3.toNatClampNeg) &&& 31) = 4) → (¬ ((xs l3.toNatClampNeg) &&& 31) = 5) → (¬ ((xs l3.toNatClampNeg) &&& 31) = 6) → (¬ ((xs l3.toNatClampNeg) &&& 31) = 7) → (¬ ((xs l3.toNatClampNeg) &&& 31) = 8) → (¬ ((xs l3.toNatClampNeg) &&& 31) = 9) → (¬ ((xs l3.toNatClampNeg) &&& 31) = 10) → (¬ ((xs l3.toNatClampNeg) &&& 31) = 11) → (¬ ((xs l3.toNatClampNeg) &&& 31) = 12) → (¬ ((xs l3.toNatClampNeg) &&& 31) = 13) → (¬ ((xs l3.toNatClampNeg) &&& 31) = 14) → (¬ ((xs l3.toNatClampNeg) &&& 31) = 15) → (¬ ((xs l3.toNatClampNeg) &&& 31) = 16) → (¬ ((xs l3.toNatClampNeg) &&& 31) = 17) → (¬ ((xs l3.toNatClampNeg) &&& 31) = 18) → (¬ ((xs l3.toNatClampNeg) &&& 31) = 19) → (¬ ((xs l3.toNatClampNeg) &&& 31) = 20) → (¬ ((xs l3.toNatClampNeg) &&& 31) = 21) → (¬ ((xs l3.toNatClampNeg) &&& 31) = 22) → (¬ ((xs l3.toNatClampNeg) &&& 31) = 23) → (¬ ((xs l3.toNatClampNeg) &&& 31) = 24) → (((xs l3.toNatClampNeg) &&& 31) = 25) → zEx (zCall d) 12 false 2 zc_law F 1169 [.ref 1000, .ref 0, .ref 71, .int l3] [] (X, b, zLay, K, B, M))
    (k29 : (¬ ((Int32.ofNat L) - 6) < l3) → (¬ ((xs l3.toNatClampNeg) &&& 31) = 0) → (¬ ((xs l3.toNatClampNeg) &&& 31) = 1) → (¬ ((xs l3.toNatClampNeg) &&& 31) = 2) → (¬ ((xs l3.toNatClampNeg) &&& 31) = 3) → (¬ ((xs l3.toNatClampNeg) &&& 31) = 4) → (¬ ((xs l3.toNatClampNeg) &&& 31) = 5) → (¬ ((xs l3.toNatClampNeg) &&& 31) = 6) → (¬ ((xs l3.toNatClampNeg) &&& 31) = 7) → (¬ ((xs l3.toNatClampNeg) &&& 31) = 8) → (¬ ((xs l3.toNatClampNeg) &&& 31) = 9) → (¬ ((xs l3.toNatClampNeg) &&& 31) = 10) → (¬ ((xs l3.toNatClampNeg) &&& 31) = 11) → (¬ ((xs l3.toNatClampNeg) &&& 31) = 12) → (¬ ((xs l3.toNatClampNeg) &&& 31) = 13) → (¬ ((xs l3.toNatClampNeg) &&& 31) = 14) → (¬ ((xs l3.toNatClampNeg) &&& 31) = 15) → (¬ ((xs l3.toNatClampNeg) &&& 31) = 16) → (¬ ((xs l3.toNatClampNeg) &&& 31) = 17) → (¬ ((xs l3.toNatClampNeg) &&& 31) = 18) → (¬ ((xs l3.toNatClampNeg) &&& 31) = 19) → (¬ ((xs l3.toNatClampNeg) &&& 31) = 20) → (¬ ((xs l3.toNatClampNeg) &&& 31) = 21) → (¬ ((xs l3.toNatClampNeg) &&& 31) = 22) → (¬ ((xs l3.toNatClampNeg) &&& 31) = 23) → (¬ ((xs l3.toNatClampNeg) &&& 31) = 24) → (¬ ((xs l3.toNatClampNeg) &&& 31) = 25) → (((xs l3.toNatClampNeg) &&& 31) = 26) → zEx (zCall d) 12 false 2 zc_law F 1222 [.ref 1000, .ref 0, .ref 71, .int l3] [] (X, b, zLay, K, B, M))
    (k30 : (¬ ((Int32.ofNat L) - 6) < l3) → (¬ ((xs l3.toNatClampNeg) &&& 31) = 0) → (¬ ((xs l3.toNatClampNeg) &&& 31) = 1) → (¬ ((xs l3.toNatClampNeg) &&& 31) = 2) → (¬ ((xs l3.toNatClampNeg) &&& 31) = 3) → (¬ ((xs l3.toNatClampNeg) &&& 31) = 4) → (¬ ((xs l3.toNatClampNeg) &&& 31) = 5) → (¬ ((xs l3.toNatClampNeg) &&& 31) = 6) → (¬ ((xs l3.toNatClampNeg) &&& 31) = 7) → (¬ ((xs l3.toNatClampNeg) &&& 31) = 8) → (¬ ((xs l3.toNatClampNeg) &&& 31) = 9) → (¬ ((xs l3.toNatClampNeg) &&& 31) = 10) → (¬ ((xs l3.toNatClampNeg) &&& 31) = 11) → (¬ ((xs l3.toNatClampNeg) &&& 31) = 12) → (¬ ((xs l3.toNatClampNeg) &&& 31) = 13) → (¬ ((xs l3.toNatClampNeg) &&& 31) = 14) → (¬ ((xs l3.toNatClampNeg) &&& 31) = 15) → (¬ ((xs l3.toNatClampNeg) &&& 31) = 16) → (¬ ((xs l3.toNatClampNeg) &&& 31) = 17) → (¬ ((xs l3.toNatClampNeg) &&& 31) = 18) → (¬ ((xs l3.toNatClampNeg) &&& 31) = 19) → (¬ ((xs l3.toNatClampNeg) &&& 31) = 20) → (¬ ((xs l3.toNatClampNeg) &&& 31) = 21) → (¬ ((xs l3.toNatClampNeg) &&& 31) = 22) → (¬ ((xs l3.toNatClampNeg) &&& 31) = 23) → (¬ ((xs l3.toNatClampNeg) &&& 31) = 24) → (¬ ((xs l3.toNatClampNeg) &&& 31) = 25) → (¬ ((xs l3.toNatClampNeg) &&& 31) = 26) → (((xs l3.toNatClampNeg) &&& 31) = 27) → zEx (zCall d) 12 false 2 zc_law F 1235 [.ref 1000, .ref 0, .ref 71, .int l3] [] (X, b, zLay, K, B, M))
    (k31 : (¬ ((Int32.ofNat L) - 6) < l3) → (¬ ((xs l3.toNatClampNeg) &&& 31) = 0) → (¬ ((xs l3.toNatClampNeg) &&& 31) = 1) → (¬ ((xs l3.toNatClampNeg) &&& 31) = 2) → (¬ ((xs l3.toNatClampNeg) &&& 31) = 3) → (¬ ((xs l3.toNatClampNeg) &&& 31) = 4) → (¬ ((xs l3.toNatClampNeg) &&& 31) = 5) → (¬ ((xs l3.toNatClampNeg) &&& 31) = 6) → (¬ ((xs l3.toNatClampNeg) &&& 31) = 7) → (¬ ((xs l3.toNatClampNeg) &&& 31) = 8) → (¬ ((xs l3.toNatClampNeg) &&& 31) = 9) → (¬ ((xs l3.toNatClampNeg) &&& 31) = 10) → (¬ ((xs l3.toNatClampNeg) &&& 31) = 11) → (¬ ((xs l3.toNatClampNeg) &&& 31) = 12) → (¬ ((xs l3.toNatClampNeg) &&& 31) = 13) → (¬ ((xs l3.toNatClampNeg) &&& 31) = 14) → (¬ ((xs l3.toNatClampNeg) &&& 31) = 15) → (¬ ((xs l3.toNatClampNeg) &&& 31) = 16) → (¬ ((xs l3.toNatClampNeg) &&& 31) = 17) → (¬ ((xs l3.toNatClampNeg) &&& 31) = 18) → (¬ ((xs l3.toNatClampNeg) &&& 31) = 19) → (¬ ((xs l3.toNatClampNeg) &&& 31) = 20) → (¬ ((xs l3.toNatClampNeg) &&& 31) = 21) → (¬ ((xs l3.toNatClampNeg) &&& 31) = 22) → (¬ ((xs l3.toNatClampNeg) &&& 31) = 23) → (¬ ((xs l3.toNatClampNeg) &&& 31) = 24) → (¬ ((xs l3.toNatClampNeg) &&& 31) = 25) → (¬ ((xs l3.toNatClampNeg) &&& 31) = 26) → (¬ ((xs l3.toNatClampNeg) &&& 31) = 27) → (((xs l3.toNatClampNeg) &&& 31) = 28) → zEx (zCall d) 12 false 2 zc_law F 1248 [.ref 1000, .ref 0, .ref 71, .int l3] [] (X, b, zLay, K, B, M))
    (k32 : (¬ ((Int32.ofNat L) - 6) < l3) → (¬ ((xs l3.toNatClampNeg) &&& 31) = 0) → (¬ ((xs l3.toNatClampNeg) &&& 31) = 1) → (¬ ((xs l3.toNatClampNeg) &&& 31) = 2) → (¬ ((xs l3.toNatClampNeg) &&& 31) = 3) → (¬ ((xs l3.toNatClampNeg) &&& 31) = 4) → (¬ ((xs l3.toNatClampNeg) &&& 31) = 5) → (¬ ((xs l3.toNatClampNeg) &&& 31) = 6) → (¬ ((xs l3.toNatClampNeg) &&& 31) = 7) → (¬ ((xs l3.toNatClampNeg) &&& 31) = 8) → (¬ ((xs l3.toNatClampNeg) &&& 31) = 9) → (¬ ((xs l3.toNatClampNeg) &&& 31) = 10) → (¬ ((xs l3.toNatClampNeg) &&& 31) = 11) → (¬ ((xs l3.toNatClampNeg) &&& 31) = 12) → (¬ ((xs l3.toNatClampNeg) &&& 31) = 13) → (¬ ((xs l3.toNatClampNeg) &&& 31) = 14) → (¬ ((xs l3.toNatClampNeg) &&& 31) = 15) → (¬ ((xs l3.toNatClampNeg) &&& 31) = 16) → (¬ ((xs l3.toNatClampNeg) &&& 31) = 17) → (¬ ((xs l3.toNatClampNeg) &&& 31) = 18) → (¬ ((xs l3.toNatClampNeg) &&& 31) = 19) → (¬ ((xs l3.toNatClampNeg) &&& 31) = 20) → (¬ ((xs l3.toNatClampNeg) &&& 31) = 21) → (¬ ((xs l3.toNatClampNeg) &&& 31) = 22) → (¬ ((xs l3.toNatClampNeg) &&& 31) = 23) → (¬ ((xs l3.toNatClampNeg) &&& 31) = 24) → (¬ ((xs l3.toNatClampNeg) &&& 31) = 25) → (¬ ((xs l3.toNatClampNeg) &&& 31) = 26) → (¬ ((xs l3.toNatClampNeg) &&& 31) = 27) → (¬ ((xs l3.toNatClampNeg) &&& 31) = 28) → zEx (zCall d) 12 false 2 zc_law F 1271 [.ref 1000, .ref 0, .ref 71, .int l3] [] (X, b, zLay, K, B, M)) :
    zEx (zCall d) 12 false 2 zc_law F 18 [.ref 1000, .ref 0, .ref 71, .int l3] [] (X, b, zLay, K, B, M) :=
  zr_iload_n 19 rfl rfl rfl <| zr_aload_n 20 rfl rfl rfl <| zr_alX 21 rfl rfl rfl hX0 <| zr_bipush 23 rfl rfl <| zr_ibin 24 rfl rfl rfl <| zr_ic 27 rfl rfl (fun c24_0 => zr_iconst 1278 rfl rfl <| zr_zreturn rfl rfl (Or.inr rfl) (k1 c24_0)) (fun c24_0 => zr_aload_n 28 rfl rfl rfl <| zr_iload_n 29 rfl rfl rfl <| zr_iaX 30 rfl rfl rfl hX0 (g2 c24_0) <| zr_bipush 32 rfl rfl <| zr_ibin 33 rfl rfl rfl <| zr_tsw rfl (⟨fun w33_1_29 => (k3 c24_0 w33_1_29), fun w33_1_29 => ⟨fun w33_2_28 => (k4 c24_0 w33_1_29 w33_2_28), fun w33_2_28 => ⟨fun w33_3_27 => (k5 c24_0 w33_1_29 w33_2_28 w33_3_27), fun w33_3_27 => ⟨fun w33_4_26 => (k6 c24_0 w33_1_29 w33_2_28 w33_3_27 w33_4_26), fun w33_4_26 => ⟨fun w33_5_25 => (k7 c24_0 w33_1_29 w33_2_28 w33_3_27 w33_4_26 w33_5_25), fun w33_5_25 => ⟨fun w33_6_24 => (k8 c24_0 w33_1_29 w33_2_28 w33_3_27 w33_4_26 w33_5_25 w33_6_24), fun w33_6_24 => ⟨fun w33_7_23 => (k9 c24_0 w33_1_29 w33_2_28 w33_3_27 w33_4_26 w33_5_25 w33_6_24 w33_7_23), fun w33_7_23 => ⟨fun w33_8_22 => (k10 c24_0 w33_1_29 w33_2_28 w33_3_27 w33_4_26 w33_5_25 w33_6_24 w33_7_23 w33_8_22), fun w33_8_22 => ⟨fun w33_9_21 => (k11 c24_0 w33_1_29 w33_2_28 w33_3_27 w33_4_26 w33_5_25 w33_6_24 w33_7_23 w33_8_22 w33_9_21), fun w33_9_21 => ⟨fun w33_10_20 => (k12 c24_0 w33_1_29 w33_2_28 w33_3_27 w33_4_26 w33_5_25 w33_6_24 w33_7_23 w33_8_22 w33_9_21 w33_10_20), fun w33_10_20 => ⟨fun w33_11_19 => (k13 c24_0 w33_1_29 w33_2_28 w33_3_27 w33_4_26 w33_5_25 w33_6_24 w33_7_23 w33_8_22 w33_9_21 w33_10_20 w33_11_19), fun w33_11_19 => ⟨fun w33_12_18 => (k14 c24_0 w33_1_29 w33_2_28 w33_3_27 w33_4_26 w33_5_25 w33_6_24 w33_7_23 w33_8_22 w33_9_21 w33_10_20 w33_11_19 w33_12_18), fun w33_12_18 => ⟨fun w33_13_17 => (k15 c24_0 w33_1_29 w33_2_28 w33_3_27 w33_4_26 w33_5_25 w33_6_24 w33_7_23 w33_8_22 w33_9_21 w33_10_20 w33_11_19 w33_12_18 w33_13_17), fun w33_13_17 => ⟨fun w33_14_16 => (k16 c24_0 w33_1_29 w33_2_28 w33_3_27 w33_4_26 w33_5_25 w33_6_24 w33_7_23 w33_8_22 w33_9_21 w33_10_20 w33_11_19 w33_12_18 w33_13_17 w33_14_16), fun w33_14_16 => ⟨fun w33_15_15 => (k17 c24_0 w33_1_29 w33_2_28 w33_3_27 w33_4_26 w33_5_25 w33_6_24 w33_7_23 w33_8_22 w33_9_21 w33_10_20 w33_11_19 w33_12_18 w33_13_17 w33_14_16 w33_15_15), fun w33_15_15 => ⟨fun w33_16_14 => (k18 c24_0 w33_1_29 w33_2_28 w33_3_27 w33_4_26 w33_5_25 w33_6_24 w33_7_23 w33_8_22 w33_9_21 w33_10_20 w33_11_19 w33_12_18 w33_13_17 w33_14_16 w33_15_15 w33_16_14), fun w33_16_14 => ⟨fun w33_17_13 => (k19 c24_0 w33_1_29 w33_2_28 w33_3_27 w33_4_26 w33_5_25 w33_6_24 w33_7_23 w33_8_22 w33_9_21 w33_10_20 w33_11_19 w33_12_18 w33_13_17 w33_14_16 w33_15_15 w33_16_14 w33_17_13), fun w33_17_13 => ⟨fun w33_18_12 => (k20 c24_0 w33_1_29 w33_2_28 w33_3_27 w33_4_26 w33_5_25 w33_6_24 w33_7_23 w33_8_22 w33_9_21 w33_10_20 w33_11_19 w33_12_18 w33_13_17 w33_14_16 w33_15_15 w33_16_14 w33_17_13 w33_18_12), fun w33_18_12 => ⟨fun w33_19_11 => (k21 c24_0 w33_1_29 w33_2_28 w33_3_27 w33_4_26 w33_5_25 w33_6_24 w33_7_23 w33_8_22 w33_9_21 w33_10_20 w33_11_19 w33_12_18 w33_13_17 w33_14_16 w33_15_15 w33_16_14 w33_17_13 w33_18_12 w33_19_11), fun w33_19_11 => ⟨fun w33_20_10 => (k22 c24_0 w33_1_29 w33_2_28 w33_3_27 w33_4_26 w33_5_25 w33_6_24 w33_7_23 w33_8_22 w33_9_21 w33_10_20 w33_11_19 w33_12_18 w33_13_17 w33_14_16 w33_15_15 w33_16_14 w33_17_13 w33_18_12 w33_19_11 w33_20_10), fun w33_20_10 => ⟨fun w33_21_9 => (k23 c24_0 w33_1_29 w33_2_28 w33_3_27 w33_4_26 w33_5_25 w33_6_24 w33_7_23 w33_8_22 w33_9_21 w33_10_20 w33_11_19 w33_12_18 w33_13_17 w33_14_16 w33_15_15 w33_16_14 w33_17_13 w33_18_12 w33_19_11 w33_20_10 w33_21_9), fun w33_21_9 => ⟨fun w33_22_8 => (k24 c24_0 w33_1_29 w33_2_28 w33_3_27 w33_4_26 w33_5_25 w33_6_24 w33_7_23 w33_8_22 w33_9_21 w33_10_20 w33_11_19 w33_12_18 w33_13_17 w33_14_16 w33_15_15 w33_16_14 w33_17_13 w33_18_12 w33_19_11 w33_20_10 w33_21_9 w33_22_8), fun w33_22_8 => ⟨fun w33_23_7 => (k25 c24_0 w33_1_29 w33_2_28 w33_3_27 w33_4_26 w33_5_25 w33_6_24 w33_7_23 w33_8_22 w33_9_21 w33_10_20 w33_11_19 w33_12_18 w33_13_17 w33_14_16 w33_15_15 w33_16_14 w33_17_13 w33_18_12 w33_19_11 w33_20_10 w33_21_9 w33_22_8 w33_23_7), fun w33_23_7 => ⟨fun w33_24_6 => (k26 c24_0 w33_1_29 w33_2_28 w33_3_27 w33_4_26 w33_5_25 w33_6_24 w33_7_23 w33_8_22 w33_9_21 w33_10_20 w33_11_19 w33_12_18 w33_13_17 w33_14_16 w33_15_15 w33_16_14 w33_17_13 w33_18_12 w33_19_11 w33_20_10 w33_21_9 w33_22_8 w33_23_7 w33_24_6), fun w33_24_6 => ⟨fun w33_25_5 => (k27 c24_0 w33_1_29 w33_2_28 w33_3_27 w33_4_26 w33_5_25 w33_6_24 w33_7_23 w33_8_22 w33_9_21 w33_10_20 w33_11_19 w33_12_18 w33_13_17 w33_14_16 w33_15_15 w33_16_14 w33_17_13 w33_18_12 w33_19_11 w33_20_10 w33_21_9 w33_22_8 w33_23_7 w33_24_6 w33_25_5), fun w33_25_5 => ⟨fun w33_26_4 => (k28 c24_0 w33_1_29 w33_2_28 w33_3_27 w33_4_26 w33_5_25 w33_6_24 w33_7_23 w33_8_22 w33_9_21 w33_10_20 w33_11_19 w33_12_18 w33_13_17 w33_14_16 w33_15_15 w33_16_14 w33_17_13 w33_18_12 w33_19_11 w33_20_10 w33_21_9 w33_22_8 w33_23_7 w33_24_6 w33_25_5 w33_26_4), fun w33_26_4 => ⟨fun w33_27_3 => (k29 c24_0 w33_1_29 w33_2_28 w33_3_27 w33_4_26 w33_5_25 w33_6_24 w33_7_23 w33_8_22 w33_9_21 w33_10_20 w33_11_19 w33_12_18 w33_13_17 w33_14_16 w33_15_15 w33_16_14 w33_17_13 w33_18_12 w33_19_11 w33_20_10 w33_21_9 w33_22_8 w33_23_7 w33_24_6 w33_25_5 w33_26_4 w33_27_3), fun w33_27_3 => ⟨fun w33_28_2 => (k30 c24_0 w33_1_29 w33_2_28 w33_3_27 w33_4_26 w33_5_25 w33_6_24 w33_7_23 w33_8_22 w33_9_21 w33_10_20 w33_11_19 w33_12_18 w33_13_17 w33_14_16 w33_15_15 w33_16_14 w33_17_13 w33_18_12 w33_19_11 w33_20_10 w33_21_9 w33_22_8 w33_23_7 w33_24_6 w33_25_5 w33_26_4 w33_27_3 w33_28_2), fun w33_28_2 => ⟨fun w33_29_1 => (k31 c24_0 w33_1_29 w33_2_28 w33_3_27 w33_4_26 w33_5_25 w33_6_24 w33_7_23 w33_8_22 w33_9_21 w33_10_20 w33_11_19 w33_12_18 w33_13_17 w33_14_16 w33_15_15 w33_16_14 w33_17_13 w33_18_12 w33_19_11 w33_20_10 w33_21_9 w33_22_8 w33_23_7 w33_24_6 w33_25_5 w33_26_4 w33_27_3 w33_28_2 w33_29_1), fun w33_29_1 => (k32 c24_0 w33_1_29 w33_2_28 w33_3_27 w33_4_26 w33_5_25 w33_6_24 w33_7_23 w33_8_22 w33_9_21 w33_10_20 w33_11_19 w33_12_18 w33_13_17 w33_14_16 w33_15_15 w33_16_14 w33_17_13 w33_18_12 w33_19_11 w33_20_10 w33_21_9 w33_22_8 w33_23_7 w33_24_6 w33_25_5 w33_26_4 w33_27_3 w33_28_2 w33_29_1)⟩⟩⟩⟩⟩⟩⟩⟩⟩⟩⟩⟩⟩⟩⟩⟩⟩⟩⟩⟩⟩⟩⟩⟩⟩⟩⟩⟩⟩))
theorem zb_law_164 {d : Nat} {F : Option Value → zS → Prop} {X : zX} {b : Nat × Nat} {K : Nat → Nat → Option Nat} {B : Nat → Nat → Int64} {M : Nat → Nat → Int32} {L : Nat} {xs : Nat → Int32} (hX0 : X 1000 = some (L, xs))  (l3 : Int32) 
    (g1 : vp_in (l3 + 1) L)
    (k2 : zCall d zm_Boats_place [.ref 0, .int (xs (l3 + 1).toNatClampNeg)] (X, (0, 0), zLay, K, B, M) (zGo d 12 false 2 zc_law F 173 [.ref 1000, .ref 0, .ref 71, .int l3] [] b)) :
    zEx (zCall d) 12 false 2 zc_law F 164 [.ref 1000, .ref 0, .ref 71, .int l3] [] (X, b, zLay, K, B, M) :=
  zr_aload_n 165 rfl rfl rfl <| zr_aload_n 166 rfl rfl rfl <| zr_iload_n 167 rfl rfl rfl <| zr_iconst 168 rfl rfl <| zr_ibin 169 rfl rfl rfl <| zr_iaX 170 rfl rfl rfl hX0 g1 <| zr_virt 173 rfl rfl rfl rfl rfl rfl rfl rfl <| k2
theorem zb_law_173 {d : Nat} {F : Option Value → zS → Prop} {X : zX} {b : Nat × Nat} {K : Nat → Nat → Option Nat} {B : Nat → Nat → Int64} {M : Nat → Nat → Int32} {L : Nat} {xs : Nat → Int32} (hX0 : X 1000 = some (L, xs))  (l3 : Int32) (s0 : Int32) 
    (g1 : vp_in (l3 + 1) L)
    (k2 : zCall d zm_Model_place [.ref 71, .int (xs (l3 + 1).toNatClampNeg)] (X, (0, 0), zLay, K, B, M) (zGo d 12 false 2 zc_law F 182 [.ref 1000, .ref 0, .ref 71, .int l3] [.int s0] b)) :
    zEx (zCall d) 12 false 2 zc_law F 173 [.ref 1000, .ref 0, .ref 71, .int l3] [.int s0] (X, b, zLay, K, B, M) :=
  zr_aload_n 174 rfl rfl rfl <| zr_aload_n 175 rfl rfl rfl <| zr_iload_n 176 rfl rfl rfl <| zr_iconst 177 rfl rfl <| zr_ibin 178 rfl rfl rfl <| zr_iaX 179 rfl rfl rfl hX0 g1 <| zr_virt 182 rfl rfl rfl rfl rfl rfl rfl rfl <| k2
theorem zb_law_182 {d : Nat} {F : Option Value → zS → Prop} {X : zX} {b : Nat × Nat} {K : Nat → Nat → Option Nat} {B : Nat → Nat → Int64} {M : Nat → Nat → Int32} {L : Nat} {xs : Nat → Int32} (hX0 : X 1000 = some (L, xs))  (l3 : Int32) (s0 : Int32) (s1 : Int32) 
    (k1 : (s1 = s0) → zEx (zCall d) 12 false 2 zc_law F 1271 [.ref 1000, .ref 0, .ref 71, .int l3] [] (X, b, zLay, K, B, M))
    (k2 : (¬ s1 = s0) → F (some (.int 0)) (X, b, zLay, K, B, M)) :
    zEx (zCall d) 12 false 2 zc_law F 182 [.ref 1000, .ref 0, .ref 71, .int l3] [.int s0, .int s1] (X, b, zLay, K, B, M) :=
  zr_ic 185 rfl rfl (fun c182_0 => (k1 c182_0)) (fun c182_0 => zr_iconst 186 rfl rfl <| zr_zreturn rfl rfl (Or.inl rfl) (k2 c182_0))
theorem zb_law_187 {d : Nat} {F : Option Value → zS → Prop} {X : zX} {b : Nat × Nat} {K : Nat → Nat → Option Nat} {B : Nat → Nat → Int64} {M : Nat → Nat → Int32} {L : Nat} {xs : Nat → Int32} (hX0 : X 1000 = some (L, xs))  (l3 : Int32) 
    (g1 : vp_in (l3 + 1) L)
    (g2 : vp_in (l3 + 2) L)
    (g3 : vp_in (l3 + 3) L)
    (k4 : zCall d zm_Boats_way [.ref 0, .int (xs (l3 + 1).toNatClampNeg), .int (xs (l3 + 2).toNatClampNeg), .int (xs (l3 + 3).toNatClampNeg)] (X, (0, 0), zLay, K, B, M) (zGo d 12 false 2 zc_law F 206 [.ref 1000, .ref 0, .ref 71, .int l3] [] b)) :
    zEx (zCall d) 12 false 2 zc_law F 187 [.ref 1000, .ref 0, .ref 71, .int l3] [] (X, b, zLay, K, B, M) :=
  zr_aload_n 188 rfl rfl rfl <| zr_aload_n 189 rfl rfl rfl <| zr_iload_n 190 rfl rfl rfl <| zr_iconst 191 rfl rfl <| zr_ibin 192 rfl rfl rfl <| zr_iaX 193 rfl rfl rfl hX0 g1 <| zr_aload_n 194 rfl rfl rfl <| zr_iload_n 195 rfl rfl rfl <| zr_iconst 196 rfl rfl <| zr_ibin 197 rfl rfl rfl <| zr_iaX 198 rfl rfl rfl hX0 g2 <| zr_aload_n 199 rfl rfl rfl <| zr_iload_n 200 rfl rfl rfl <| zr_iconst 201 rfl rfl <| zr_ibin 202 rfl rfl rfl <| zr_iaX 203 rfl rfl rfl hX0 g3 <| zr_virt 206 rfl rfl rfl rfl rfl rfl rfl rfl <| k4
theorem zb_law_206 {d : Nat} {F : Option Value → zS → Prop} {X : zX} {b : Nat × Nat} {K : Nat → Nat → Option Nat} {B : Nat → Nat → Int64} {M : Nat → Nat → Int32} {L : Nat} {xs : Nat → Int32} (hX0 : X 1000 = some (L, xs))  (l3 : Int32) (s0 : Int32) 
    (g1 : vp_in (l3 + 1) L)
    (g2 : vp_in (l3 + 2) L)
    (g3 : vp_in (l3 + 3) L)
    (k4 : zCall d zm_Model_way [.ref 71, .int (xs (l3 + 1).toNatClampNeg), .int (xs (l3 + 2).toNatClampNeg), .int (xs (l3 + 3).toNatClampNeg)] (X, (0, 0), zLay, K, B, M) (zGo d 12 false 2 zc_law F 225 [.ref 1000, .ref 0, .ref 71, .int l3] [.int s0] b)) :
    zEx (zCall d) 12 false 2 zc_law F 206 [.ref 1000, .ref 0, .ref 71, .int l3] [.int s0] (X, b, zLay, K, B, M) :=
  zr_aload_n 207 rfl rfl rfl <| zr_aload_n 208 rfl rfl rfl <| zr_iload_n 209 rfl rfl rfl <| zr_iconst 210 rfl rfl <| zr_ibin 211 rfl rfl rfl <| zr_iaX 212 rfl rfl rfl hX0 g1 <| zr_aload_n 213 rfl rfl rfl <| zr_iload_n 214 rfl rfl rfl <| zr_iconst 215 rfl rfl <| zr_ibin 216 rfl rfl rfl <| zr_iaX 217 rfl rfl rfl hX0 g2 <| zr_aload_n 218 rfl rfl rfl <| zr_iload_n 219 rfl rfl rfl <| zr_iconst 220 rfl rfl <| zr_ibin 221 rfl rfl rfl <| zr_iaX 222 rfl rfl rfl hX0 g3 <| zr_virt 225 rfl rfl rfl rfl rfl rfl rfl rfl <| k4
theorem zb_law_225 {d : Nat} {F : Option Value → zS → Prop} {X : zX} {b : Nat × Nat} {K : Nat → Nat → Option Nat} {B : Nat → Nat → Int64} {M : Nat → Nat → Int32} {L : Nat} {xs : Nat → Int32} (hX0 : X 1000 = some (L, xs))  (l3 : Int32) (s0 : Int32) (s1 : Int32) 
    (k1 : (s1 = s0) → zEx (zCall d) 12 false 2 zc_law F 1271 [.ref 1000, .ref 0, .ref 71, .int l3] [] (X, b, zLay, K, B, M))
    (k2 : (¬ s1 = s0) → F (some (.int 0)) (X, b, zLay, K, B, M)) :
    zEx (zCall d) 12 false 2 zc_law F 225 [.ref 1000, .ref 0, .ref 71, .int l3] [.int s0, .int s1] (X, b, zLay, K, B, M) :=
  zr_ic 228 rfl rfl (fun c225_0 => (k1 c225_0)) (fun c225_0 => zr_iconst 229 rfl rfl <| zr_zreturn rfl rfl (Or.inl rfl) (k2 c225_0))
theorem zb_law_230 {d : Nat} {F : Option Value → zS → Prop} {X : zX} {b : Nat × Nat} {K : Nat → Nat → Option Nat} {B : Nat → Nat → Int64} {M : Nat → Nat → Int32} {L : Nat} {xs : Nat → Int32} (hX0 : X 1000 = some (L, xs))  (l3 : Int32) 
    (g1 : vp_in (l3 + 1) L)
    (g2 : vp_in (l3 + 2) L)
    (g3 : vp_in (l3 + 3) L)
    (k4 : zCall d zm_Boats_shut [.ref 0, .int (xs (l3 + 1).toNatClampNeg), .int (xs (l3 + 2).toNatClampNeg), .int (xs (l3 + 3).toNatClampNeg)] (X, (0, 0), zLay, K, B, M) (zGo d 12 false 2 zc_law F 249 [.ref 1000, .ref 0, .ref 71, .int l3] [] b)) :
    zEx (zCall d) 12 false 2 zc_law F 230 [.ref 1000, .ref 0, .ref 71, .int l3] [] (X, b, zLay, K, B, M) :=
  zr_aload_n 231 rfl rfl rfl <| zr_aload_n 232 rfl rfl rfl <| zr_iload_n 233 rfl rfl rfl <| zr_iconst 234 rfl rfl <| zr_ibin 235 rfl rfl rfl <| zr_iaX 236 rfl rfl rfl hX0 g1 <| zr_aload_n 237 rfl rfl rfl <| zr_iload_n 238 rfl rfl rfl <| zr_iconst 239 rfl rfl <| zr_ibin 240 rfl rfl rfl <| zr_iaX 241 rfl rfl rfl hX0 g2 <| zr_aload_n 242 rfl rfl rfl <| zr_iload_n 243 rfl rfl rfl <| zr_iconst 244 rfl rfl <| zr_ibin 245 rfl rfl rfl <| zr_iaX 246 rfl rfl rfl hX0 g3 <| zr_virt 249 rfl rfl rfl rfl rfl rfl rfl rfl <| k4
theorem zb_law_249 {d : Nat} {F : Option Value → zS → Prop} {X : zX} {b : Nat × Nat} {K : Nat → Nat → Option Nat} {B : Nat → Nat → Int64} {M : Nat → Nat → Int32} {L : Nat} {xs : Nat → Int32} (hX0 : X 1000 = some (L, xs))  (l3 : Int32) (s0 : Int32) 
    (g1 : vp_in (l3 + 1) L)
    (g2 : vp_in (l3 + 2) L)
    (g3 : vp_in (l3 + 3) L)
    (k4 : zCall d zm_Model_shut [.ref 71, .int (xs (l3 + 1).toNatClampNeg), .int (xs (l3 + 2).toNatClampNeg), .int (xs (l3 + 3).toNatClampNeg)] (X, (0, 0), zLay, K, B, M) (zGo d 12 false 2 zc_law F 268 [.ref 1000, .ref 0, .ref 71, .int l3] [.int s0] b)) :
    zEx (zCall d) 12 false 2 zc_law F 249 [.ref 1000, .ref 0, .ref 71, .int l3] [.int s0] (X, b, zLay, K, B, M) :=
  zr_aload_n 250 rfl rfl rfl <| zr_aload_n 251 rfl rfl rfl <| zr_iload_n 252 rfl rfl rfl <| zr_iconst 253 rfl rfl <| zr_ibin 254 rfl rfl rfl <| zr_iaX 255 rfl rfl rfl hX0 g1 <| zr_aload_n 256 rfl rfl rfl <| zr_iload_n 257 rfl rfl rfl <| zr_iconst 258 rfl rfl <| zr_ibin 259 rfl rfl rfl <| zr_iaX 260 rfl rfl rfl hX0 g2 <| zr_aload_n 261 rfl rfl rfl <| zr_iload_n 262 rfl rfl rfl <| zr_iconst 263 rfl rfl <| zr_ibin 264 rfl rfl rfl <| zr_iaX 265 rfl rfl rfl hX0 g3 <| zr_virt 268 rfl rfl rfl rfl rfl rfl rfl rfl <| k4
theorem zb_law_268 {d : Nat} {F : Option Value → zS → Prop} {X : zX} {b : Nat × Nat} {K : Nat → Nat → Option Nat} {B : Nat → Nat → Int64} {M : Nat → Nat → Int32} {L : Nat} {xs : Nat → Int32} (hX0 : X 1000 = some (L, xs))  (l3 : Int32) (s0 : Int32) (s1 : Int32) 
    (k1 : (s1 = s0) → zEx (zCall d) 12 false 2 zc_law F 1271 [.ref 1000, .ref 0, .ref 71, .int l3] [] (X, b, zLay, K, B, M))
    (k2 : (¬ s1 = s0) → F (some (.int 0)) (X, b, zLay, K, B, M)) :
    zEx (zCall d) 12 false 2 zc_law F 268 [.ref 1000, .ref 0, .ref 71, .int l3] [.int s0, .int s1] (X, b, zLay, K, B, M) :=
  zr_ic 271 rfl rfl (fun c268_0 => (k1 c268_0)) (fun c268_0 => zr_iconst 272 rfl rfl <| zr_zreturn rfl rfl (Or.inl rfl) (k2 c268_0))
theorem zb_law_273 {d : Nat} {F : Option Value → zS → Prop} {X : zX} {b : Nat × Nat} {K : Nat → Nat → Option Nat} {B : Nat → Nat → Int64} {M : Nat → Nat → Int32} {L : Nat} {xs : Nat → Int32} (hX0 : X 1000 = some (L, xs))  (l3 : Int32) 
    (g1 : vp_in (l3 + 1) L)
    (k2 : zCall d zm_Boats_pace [.ref 0, .int (xs (l3 + 1).toNatClampNeg)] (X, (0, 0), zLay, K, B, M) (zGo d 12 false 2 zc_law F 282 [.ref 1000, .ref 0, .ref 71, .int l3] [] b)) :
    zEx (zCall d) 12 false 2 zc_law F 273 [.ref 1000, .ref 0, .ref 71, .int l3] [] (X, b, zLay, K, B, M) :=
  zr_aload_n 274 rfl rfl rfl <| zr_aload_n 275 rfl rfl rfl <| zr_iload_n 276 rfl rfl rfl <| zr_iconst 277 rfl rfl <| zr_ibin 278 rfl rfl rfl <| zr_iaX 279 rfl rfl rfl hX0 g1 <| zr_virt 282 rfl rfl rfl rfl rfl rfl rfl rfl <| k2
theorem zb_law_282 {d : Nat} {F : Option Value → zS → Prop} {X : zX} {b : Nat × Nat} {K : Nat → Nat → Option Nat} {B : Nat → Nat → Int64} {M : Nat → Nat → Int32} {L : Nat} {xs : Nat → Int32} (hX0 : X 1000 = some (L, xs))  (l3 : Int32) (s0 : Int32) 
    (g1 : vp_in (l3 + 1) L)
    (k2 : zCall d zm_Model_pace [.ref 71, .int (xs (l3 + 1).toNatClampNeg)] (X, (0, 0), zLay, K, B, M) (zGo d 12 false 2 zc_law F 291 [.ref 1000, .ref 0, .ref 71, .int l3] [.int s0] b)) :
    zEx (zCall d) 12 false 2 zc_law F 282 [.ref 1000, .ref 0, .ref 71, .int l3] [.int s0] (X, b, zLay, K, B, M) :=
  zr_aload_n 283 rfl rfl rfl <| zr_aload_n 284 rfl rfl rfl <| zr_iload_n 285 rfl rfl rfl <| zr_iconst 286 rfl rfl <| zr_ibin 287 rfl rfl rfl <| zr_iaX 288 rfl rfl rfl hX0 g1 <| zr_virt 291 rfl rfl rfl rfl rfl rfl rfl rfl <| k2
theorem zb_law_291 {d : Nat} {F : Option Value → zS → Prop} {X : zX} {b : Nat × Nat} {K : Nat → Nat → Option Nat} {B : Nat → Nat → Int64} {M : Nat → Nat → Int32} {L : Nat} {xs : Nat → Int32} (hX0 : X 1000 = some (L, xs))  (l3 : Int32) (s0 : Int32) (s1 : Int32) 
    (k1 : (s1 = s0) → zEx (zCall d) 12 false 2 zc_law F 1271 [.ref 1000, .ref 0, .ref 71, .int l3] [] (X, b, zLay, K, B, M))
    (k2 : (¬ s1 = s0) → F (some (.int 0)) (X, b, zLay, K, B, M)) :
    zEx (zCall d) 12 false 2 zc_law F 291 [.ref 1000, .ref 0, .ref 71, .int l3] [.int s0, .int s1] (X, b, zLay, K, B, M) :=
  zr_ic 294 rfl rfl (fun c291_0 => (k1 c291_0)) (fun c291_0 => zr_iconst 295 rfl rfl <| zr_zreturn rfl rfl (Or.inl rfl) (k2 c291_0))
theorem zb_law_296 {d : Nat} {F : Option Value → zS → Prop} {X : zX} {b : Nat × Nat} {K : Nat → Nat → Option Nat} {B : Nat → Nat → Int64} {M : Nat → Nat → Int32} {L : Nat} {xs : Nat → Int32} (hX0 : X 1000 = some (L, xs))  (l3 : Int32) 
    (k1 : zCall d zm_Boats_boat [.ref 0] (X, (0, 0), zLay, K, B, M) (zGo d 12 false 2 zc_law F 300 [.ref 1000, .ref 0, .ref 71, .int l3] [] b)) :
    zEx (zCall d) 12 false 2 zc_law F 296 [.ref 1000, .ref 0, .ref 71, .int l3] [] (X, b, zLay, K, B, M) :=
  zr_aload_n 297 rfl rfl rfl <| zr_virt 300 rfl rfl rfl rfl rfl rfl rfl rfl <| k1
theorem zb_law_300 {d : Nat} {F : Option Value → zS → Prop} {X : zX} {b : Nat × Nat} {K : Nat → Nat → Option Nat} {B : Nat → Nat → Int64} {M : Nat → Nat → Int32} {L : Nat} {xs : Nat → Int32} (hX0 : X 1000 = some (L, xs))  (l3 : Int32) (s0 : Int32) 
    (k1 : zCall d zm_Model_boat [.ref 71] (X, (0, 0), zLay, K, B, M) (zGo d 12 false 2 zc_law F 304 [.ref 1000, .ref 0, .ref 71, .int l3] [.int s0] b)) :
    zEx (zCall d) 12 false 2 zc_law F 300 [.ref 1000, .ref 0, .ref 71, .int l3] [.int s0] (X, b, zLay, K, B, M) :=
  zr_aload_n 301 rfl rfl rfl <| zr_virt 304 rfl rfl rfl rfl rfl rfl rfl rfl <| k1
theorem zb_law_304 {d : Nat} {F : Option Value → zS → Prop} {X : zX} {b : Nat × Nat} {K : Nat → Nat → Option Nat} {B : Nat → Nat → Int64} {M : Nat → Nat → Int32} {L : Nat} {xs : Nat → Int32} (hX0 : X 1000 = some (L, xs))  (l3 : Int32) (s0 : Int32) (s1 : Int32) 
    (k1 : (s1 = s0) → zEx (zCall d) 12 false 2 zc_law F 1271 [.ref 1000, .ref 0, .ref 71, .int l3] [] (X, b, zLay, K, B, M))
    (k2 : (¬ s1 = s0) → F (some (.int 0)) (X, b, zLay, K, B, M)) :
    zEx (zCall d) 12 false 2 zc_law F 304 [.ref 1000, .ref 0, .ref 71, .int l3] [.int s0, .int s1] (X, b, zLay, K, B, M) :=
  zr_ic 307 rfl rfl (fun c304_0 => (k1 c304_0)) (fun c304_0 => zr_iconst 308 rfl rfl <| zr_zreturn rfl rfl (Or.inl rfl) (k2 c304_0))
theorem zb_law_309 {d : Nat} {F : Option Value → zS → Prop} {X : zX} {b : Nat × Nat} {K : Nat → Nat → Option Nat} {B : Nat → Nat → Int64} {M : Nat → Nat → Int32} {L : Nat} {xs : Nat → Int32} (hX0 : X 1000 = some (L, xs))  (l3 : Int32) 
    (g1 : vp_in (l3 + 1) L)
    (g2 : vp_in (l3 + 2) L)
    (g3 : vp_in (l3 + 3) L)
    (g4 : vp_in (l3 + 4) L)
    (k5 : zCall d zm_Boats_seen [.ref 0, .int (xs (l3 + 1).toNatClampNeg), .int (xs (l3 + 2).toNatClampNeg), .int (xs (l3 + 3).toNatClampNeg), .int (xs (l3 + 4).toNatClampNeg)] (X, (0, 0), zLay, K, B, M) (zGo d 12 false 2 zc_law F 333 [.ref 1000, .ref 0, .ref 71, .int l3] [] b)) :
    zEx (zCall d) 12 false 2 zc_law F 309 [.ref 1000, .ref 0, .ref 71, .int l3] [] (X, b, zLay, K, B, M) :=
  zr_aload_n 310 rfl rfl rfl <| zr_aload_n 311 rfl rfl rfl <| zr_iload_n 312 rfl rfl rfl <| zr_iconst 313 rfl rfl <| zr_ibin 314 rfl rfl rfl <| zr_iaX 315 rfl rfl rfl hX0 g1 <| zr_aload_n 316 rfl rfl rfl <| zr_iload_n 317 rfl rfl rfl <| zr_iconst 318 rfl rfl <| zr_ibin 319 rfl rfl rfl <| zr_iaX 320 rfl rfl rfl hX0 g2 <| zr_aload_n 321 rfl rfl rfl <| zr_iload_n 322 rfl rfl rfl <| zr_iconst 323 rfl rfl <| zr_ibin 324 rfl rfl rfl <| zr_iaX 325 rfl rfl rfl hX0 g3 <| zr_aload_n 326 rfl rfl rfl <| zr_iload_n 327 rfl rfl rfl <| zr_iconst 328 rfl rfl <| zr_ibin 329 rfl rfl rfl <| zr_iaX 330 rfl rfl rfl hX0 g4 <| zr_virt 333 rfl rfl rfl rfl rfl rfl rfl rfl <| k5
theorem zb_law_333 {d : Nat} {F : Option Value → zS → Prop} {X : zX} {b : Nat × Nat} {K : Nat → Nat → Option Nat} {B : Nat → Nat → Int64} {M : Nat → Nat → Int32} {L : Nat} {xs : Nat → Int32} (hX0 : X 1000 = some (L, xs))  (l3 : Int32) (s0 : Int32) 
    (g1 : vp_in (l3 + 1) L)
    (g2 : vp_in (l3 + 2) L)
    (g3 : vp_in (l3 + 3) L)
    (g4 : vp_in (l3 + 4) L)
    (k5 : zCall d zm_Model_seen [.ref 71, .int (xs (l3 + 1).toNatClampNeg), .int (xs (l3 + 2).toNatClampNeg), .int (xs (l3 + 3).toNatClampNeg), .int (xs (l3 + 4).toNatClampNeg)] (X, (0, 0), zLay, K, B, M) (zGo d 12 false 2 zc_law F 357 [.ref 1000, .ref 0, .ref 71, .int l3] [.int s0] b)) :
    zEx (zCall d) 12 false 2 zc_law F 333 [.ref 1000, .ref 0, .ref 71, .int l3] [.int s0] (X, b, zLay, K, B, M) :=
  zr_aload_n 334 rfl rfl rfl <| zr_aload_n 335 rfl rfl rfl <| zr_iload_n 336 rfl rfl rfl <| zr_iconst 337 rfl rfl <| zr_ibin 338 rfl rfl rfl <| zr_iaX 339 rfl rfl rfl hX0 g1 <| zr_aload_n 340 rfl rfl rfl <| zr_iload_n 341 rfl rfl rfl <| zr_iconst 342 rfl rfl <| zr_ibin 343 rfl rfl rfl <| zr_iaX 344 rfl rfl rfl hX0 g2 <| zr_aload_n 345 rfl rfl rfl <| zr_iload_n 346 rfl rfl rfl <| zr_iconst 347 rfl rfl <| zr_ibin 348 rfl rfl rfl <| zr_iaX 349 rfl rfl rfl hX0 g3 <| zr_aload_n 350 rfl rfl rfl <| zr_iload_n 351 rfl rfl rfl <| zr_iconst 352 rfl rfl <| zr_ibin 353 rfl rfl rfl <| zr_iaX 354 rfl rfl rfl hX0 g4 <| zr_virt 357 rfl rfl rfl rfl rfl rfl rfl rfl <| k5
theorem zb_law_357 {d : Nat} {F : Option Value → zS → Prop} {X : zX} {b : Nat × Nat} {K : Nat → Nat → Option Nat} {B : Nat → Nat → Int64} {M : Nat → Nat → Int32} {L : Nat} {xs : Nat → Int32} (hX0 : X 1000 = some (L, xs))  (l3 : Int32) (s0 : Int32) (s1 : Int32) 
    (k1 : (s1 = s0) → zEx (zCall d) 12 false 2 zc_law F 1271 [.ref 1000, .ref 0, .ref 71, .int l3] [] (X, b, zLay, K, B, M))
    (k2 : (¬ s1 = s0) → F (some (.int 0)) (X, b, zLay, K, B, M)) :
    zEx (zCall d) 12 false 2 zc_law F 357 [.ref 1000, .ref 0, .ref 71, .int l3] [.int s0, .int s1] (X, b, zLay, K, B, M) :=
  zr_ic 360 rfl rfl (fun c357_0 => (k1 c357_0)) (fun c357_0 => zr_iconst 361 rfl rfl <| zr_zreturn rfl rfl (Or.inl rfl) (k2 c357_0))
theorem zb_law_362 {d : Nat} {F : Option Value → zS → Prop} {X : zX} {b : Nat × Nat} {K : Nat → Nat → Option Nat} {B : Nat → Nat → Int64} {M : Nat → Nat → Int32} {L : Nat} {xs : Nat → Int32} (hX0 : X 1000 = some (L, xs))  (l3 : Int32) 
    (g1 : vp_in (l3 + 1) L)
    (g2 : vp_in (l3 + 2) L)
    (g3 : vp_in (l3 + 3) L)
    (g4 : vp_in (l3 + 4) L)
    (k5 : zCall d zm_Boats_excuse [.ref 0, .int (xs (l3 + 1).toNatClampNeg), .int (xs (l3 + 2).toNatClampNeg), .int (xs (l3 + 3).toNatClampNeg), .int (xs (l3 + 4).toNatClampNeg)] (X, (0, 0), zLay, K, B, M) (zGo d 12 false 2 zc_law F 386 [.ref 1000, .ref 0, .ref 71, .int l3] [] b)) :
    zEx (zCall d) 12 false 2 zc_law F 362 [.ref 1000, .ref 0, .ref 71, .int l3] [] (X, b, zLay, K, B, M) :=
  zr_aload_n 363 rfl rfl rfl <| zr_aload_n 364 rfl rfl rfl <| zr_iload_n 365 rfl rfl rfl <| zr_iconst 366 rfl rfl <| zr_ibin 367 rfl rfl rfl <| zr_iaX 368 rfl rfl rfl hX0 g1 <| zr_aload_n 369 rfl rfl rfl <| zr_iload_n 370 rfl rfl rfl <| zr_iconst 371 rfl rfl <| zr_ibin 372 rfl rfl rfl <| zr_iaX 373 rfl rfl rfl hX0 g2 <| zr_aload_n 374 rfl rfl rfl <| zr_iload_n 375 rfl rfl rfl <| zr_iconst 376 rfl rfl <| zr_ibin 377 rfl rfl rfl <| zr_iaX 378 rfl rfl rfl hX0 g3 <| zr_aload_n 379 rfl rfl rfl <| zr_iload_n 380 rfl rfl rfl <| zr_iconst 381 rfl rfl <| zr_ibin 382 rfl rfl rfl <| zr_iaX 383 rfl rfl rfl hX0 g4 <| zr_virt 386 rfl rfl rfl rfl rfl rfl rfl rfl <| k5
theorem zb_law_386 {d : Nat} {F : Option Value → zS → Prop} {X : zX} {b : Nat × Nat} {K : Nat → Nat → Option Nat} {B : Nat → Nat → Int64} {M : Nat → Nat → Int32} {L : Nat} {xs : Nat → Int32} (hX0 : X 1000 = some (L, xs))  (l3 : Int32) (s0 : Int32) 
    (g1 : vp_in (l3 + 1) L)
    (g2 : vp_in (l3 + 2) L)
    (g3 : vp_in (l3 + 3) L)
    (g4 : vp_in (l3 + 4) L)
    (k5 : zCall d zm_Model_excuse [.ref 71, .int (xs (l3 + 1).toNatClampNeg), .int (xs (l3 + 2).toNatClampNeg), .int (xs (l3 + 3).toNatClampNeg), .int (xs (l3 + 4).toNatClampNeg)] (X, (0, 0), zLay, K, B, M) (zGo d 12 false 2 zc_law F 410 [.ref 1000, .ref 0, .ref 71, .int l3] [.int s0] b)) :
    zEx (zCall d) 12 false 2 zc_law F 386 [.ref 1000, .ref 0, .ref 71, .int l3] [.int s0] (X, b, zLay, K, B, M) :=
  zr_aload_n 387 rfl rfl rfl <| zr_aload_n 388 rfl rfl rfl <| zr_iload_n 389 rfl rfl rfl <| zr_iconst 390 rfl rfl <| zr_ibin 391 rfl rfl rfl <| zr_iaX 392 rfl rfl rfl hX0 g1 <| zr_aload_n 393 rfl rfl rfl <| zr_iload_n 394 rfl rfl rfl <| zr_iconst 395 rfl rfl <| zr_ibin 396 rfl rfl rfl <| zr_iaX 397 rfl rfl rfl hX0 g2 <| zr_aload_n 398 rfl rfl rfl <| zr_iload_n 399 rfl rfl rfl <| zr_iconst 400 rfl rfl <| zr_ibin 401 rfl rfl rfl <| zr_iaX 402 rfl rfl rfl hX0 g3 <| zr_aload_n 403 rfl rfl rfl <| zr_iload_n 404 rfl rfl rfl <| zr_iconst 405 rfl rfl <| zr_ibin 406 rfl rfl rfl <| zr_iaX 407 rfl rfl rfl hX0 g4 <| zr_virt 410 rfl rfl rfl rfl rfl rfl rfl rfl <| k5
theorem zb_law_410 {d : Nat} {F : Option Value → zS → Prop} {X : zX} {b : Nat × Nat} {K : Nat → Nat → Option Nat} {B : Nat → Nat → Int64} {M : Nat → Nat → Int32} {L : Nat} {xs : Nat → Int32} (hX0 : X 1000 = some (L, xs))  (l3 : Int32) (s0 : Int32) (s1 : Int32) 
    (k1 : (s1 = s0) → zEx (zCall d) 12 false 2 zc_law F 1271 [.ref 1000, .ref 0, .ref 71, .int l3] [] (X, b, zLay, K, B, M))
    (k2 : (¬ s1 = s0) → F (some (.int 0)) (X, b, zLay, K, B, M)) :
    zEx (zCall d) 12 false 2 zc_law F 410 [.ref 1000, .ref 0, .ref 71, .int l3] [.int s0, .int s1] (X, b, zLay, K, B, M) :=
  zr_ic 413 rfl rfl (fun c410_0 => (k1 c410_0)) (fun c410_0 => zr_iconst 414 rfl rfl <| zr_zreturn rfl rfl (Or.inl rfl) (k2 c410_0))
theorem zb_law_415 {d : Nat} {F : Option Value → zS → Prop} {X : zX} {b : Nat × Nat} {K : Nat → Nat → Option Nat} {B : Nat → Nat → Int64} {M : Nat → Nat → Int32} {L : Nat} {xs : Nat → Int32} (hX0 : X 1000 = some (L, xs))  (l3 : Int32) 
    (g1 : vp_in (l3 + 1) L)
    (g2 : vp_in (l3 + 2) L)
    (g3 : vp_in (l3 + 3) L)
    (g4 : vp_in (l3 + 4) L)
    (g5 : vp_in (l3 + 5) L)
    (k6 : zCall d zm_Boats_feed [.ref 0, .int (xs (l3 + 1).toNatClampNeg), .int (xs (l3 + 2).toNatClampNeg), .int (xs (l3 + 3).toNatClampNeg), .int (xs (l3 + 4).toNatClampNeg), .int (xs (l3 + 5).toNatClampNeg)] (X, (0, 0), zLay, K, B, M) (zGo d 12 false 2 zc_law F 444 [.ref 1000, .ref 0, .ref 71, .int l3] [] b)) :
    zEx (zCall d) 12 false 2 zc_law F 415 [.ref 1000, .ref 0, .ref 71, .int l3] [] (X, b, zLay, K, B, M) :=
  zr_aload_n 416 rfl rfl rfl <| zr_aload_n 417 rfl rfl rfl <| zr_iload_n 418 rfl rfl rfl <| zr_iconst 419 rfl rfl <| zr_ibin 420 rfl rfl rfl <| zr_iaX 421 rfl rfl rfl hX0 g1 <| zr_aload_n 422 rfl rfl rfl <| zr_iload_n 423 rfl rfl rfl <| zr_iconst 424 rfl rfl <| zr_ibin 425 rfl rfl rfl <| zr_iaX 426 rfl rfl rfl hX0 g2 <| zr_aload_n 427 rfl rfl rfl <| zr_iload_n 428 rfl rfl rfl <| zr_iconst 429 rfl rfl <| zr_ibin 430 rfl rfl rfl <| zr_iaX 431 rfl rfl rfl hX0 g3 <| zr_aload_n 432 rfl rfl rfl <| zr_iload_n 433 rfl rfl rfl <| zr_iconst 434 rfl rfl <| zr_ibin 435 rfl rfl rfl <| zr_iaX 436 rfl rfl rfl hX0 g4 <| zr_aload_n 437 rfl rfl rfl <| zr_iload_n 438 rfl rfl rfl <| zr_iconst 439 rfl rfl <| zr_ibin 440 rfl rfl rfl <| zr_iaX 441 rfl rfl rfl hX0 g5 <| zr_virt 444 rfl rfl rfl rfl rfl rfl rfl rfl <| k6
theorem zb_law_444 {d : Nat} {F : Option Value → zS → Prop} {X : zX} {b : Nat × Nat} {K : Nat → Nat → Option Nat} {B : Nat → Nat → Int64} {M : Nat → Nat → Int32} {L : Nat} {xs : Nat → Int32} (hX0 : X 1000 = some (L, xs))  (l3 : Int32) (s0 : Int32) 
    (g1 : vp_in (l3 + 1) L)
    (g2 : vp_in (l3 + 2) L)
    (g3 : vp_in (l3 + 3) L)
    (g4 : vp_in (l3 + 4) L)
    (g5 : vp_in (l3 + 5) L)
    (k6 : zCall d zm_Model_feed [.ref 71, .int (xs (l3 + 1).toNatClampNeg), .int (xs (l3 + 2).toNatClampNeg), .int (xs (l3 + 3).toNatClampNeg), .int (xs (l3 + 4).toNatClampNeg), .int (xs (l3 + 5).toNatClampNeg)] (X, (0, 0), zLay, K, B, M) (zGo d 12 false 2 zc_law F 473 [.ref 1000, .ref 0, .ref 71, .int l3] [.int s0] b)) :
    zEx (zCall d) 12 false 2 zc_law F 444 [.ref 1000, .ref 0, .ref 71, .int l3] [.int s0] (X, b, zLay, K, B, M) :=
  zr_aload_n 445 rfl rfl rfl <| zr_aload_n 446 rfl rfl rfl <| zr_iload_n 447 rfl rfl rfl <| zr_iconst 448 rfl rfl <| zr_ibin 449 rfl rfl rfl <| zr_iaX 450 rfl rfl rfl hX0 g1 <| zr_aload_n 451 rfl rfl rfl <| zr_iload_n 452 rfl rfl rfl <| zr_iconst 453 rfl rfl <| zr_ibin 454 rfl rfl rfl <| zr_iaX 455 rfl rfl rfl hX0 g2 <| zr_aload_n 456 rfl rfl rfl <| zr_iload_n 457 rfl rfl rfl <| zr_iconst 458 rfl rfl <| zr_ibin 459 rfl rfl rfl <| zr_iaX 460 rfl rfl rfl hX0 g3 <| zr_aload_n 461 rfl rfl rfl <| zr_iload_n 462 rfl rfl rfl <| zr_iconst 463 rfl rfl <| zr_ibin 464 rfl rfl rfl <| zr_iaX 465 rfl rfl rfl hX0 g4 <| zr_aload_n 466 rfl rfl rfl <| zr_iload_n 467 rfl rfl rfl <| zr_iconst 468 rfl rfl <| zr_ibin 469 rfl rfl rfl <| zr_iaX 470 rfl rfl rfl hX0 g5 <| zr_virt 473 rfl rfl rfl rfl rfl rfl rfl rfl <| k6
theorem zb_law_473 {d : Nat} {F : Option Value → zS → Prop} {X : zX} {b : Nat × Nat} {K : Nat → Nat → Option Nat} {B : Nat → Nat → Int64} {M : Nat → Nat → Int32} {L : Nat} {xs : Nat → Int32} (hX0 : X 1000 = some (L, xs))  (l3 : Int32) (s0 : Int32) (s1 : Int32) 
    (k1 : (s1 = s0) → zEx (zCall d) 12 false 2 zc_law F 1271 [.ref 1000, .ref 0, .ref 71, .int l3] [] (X, b, zLay, K, B, M))
    (k2 : (¬ s1 = s0) → F (some (.int 0)) (X, b, zLay, K, B, M)) :
    zEx (zCall d) 12 false 2 zc_law F 473 [.ref 1000, .ref 0, .ref 71, .int l3] [.int s0, .int s1] (X, b, zLay, K, B, M) :=
  zr_ic 476 rfl rfl (fun c473_0 => (k1 c473_0)) (fun c473_0 => zr_iconst 477 rfl rfl <| zr_zreturn rfl rfl (Or.inl rfl) (k2 c473_0))
theorem zb_law_478 {d : Nat} {F : Option Value → zS → Prop} {X : zX} {b : Nat × Nat} {K : Nat → Nat → Option Nat} {B : Nat → Nat → Int64} {M : Nat → Nat → Int32} {L : Nat} {xs : Nat → Int32} (hX0 : X 1000 = some (L, xs))  (l3 : Int32) 
    (g1 : vp_in (l3 + 1) L)
    (k2 : zCall d zm_Boats_end [.ref 0, .int (xs (l3 + 1).toNatClampNeg)] (X, (0, 0), zLay, K, B, M) (zGo d 12 false 2 zc_law F 487 [.ref 1000, .ref 0, .ref 71, .int l3] [] b)) :
    zEx (zCall d) 12 false 2 zc_law F 478 [.ref 1000, .ref 0, .ref 71, .int l3] [] (X, b, zLay, K, B, M) :=
  zr_aload_n 479 rfl rfl rfl <| zr_aload_n 480 rfl rfl rfl <| zr_iload_n 481 rfl rfl rfl <| zr_iconst 482 rfl rfl <| zr_ibin 483 rfl rfl rfl <| zr_iaX 484 rfl rfl rfl hX0 g1 <| zr_virt 487 rfl rfl rfl rfl rfl rfl rfl rfl <| k2
theorem zb_law_487 {d : Nat} {F : Option Value → zS → Prop} {X : zX} {b : Nat × Nat} {K : Nat → Nat → Option Nat} {B : Nat → Nat → Int64} {M : Nat → Nat → Int32} {L : Nat} {xs : Nat → Int32} (hX0 : X 1000 = some (L, xs))  (l3 : Int32) (s0 : Int32) 
    (g1 : vp_in (l3 + 1) L)
    (k2 : zCall d zm_Model_end [.ref 71, .int (xs (l3 + 1).toNatClampNeg)] (X, (0, 0), zLay, K, B, M) (zGo d 12 false 2 zc_law F 496 [.ref 1000, .ref 0, .ref 71, .int l3] [.int s0] b)) :
    zEx (zCall d) 12 false 2 zc_law F 487 [.ref 1000, .ref 0, .ref 71, .int l3] [.int s0] (X, b, zLay, K, B, M) :=
  zr_aload_n 488 rfl rfl rfl <| zr_aload_n 489 rfl rfl rfl <| zr_iload_n 490 rfl rfl rfl <| zr_iconst 491 rfl rfl <| zr_ibin 492 rfl rfl rfl <| zr_iaX 493 rfl rfl rfl hX0 g1 <| zr_virt 496 rfl rfl rfl rfl rfl rfl rfl rfl <| k2
theorem zb_law_496 {d : Nat} {F : Option Value → zS → Prop} {X : zX} {b : Nat × Nat} {K : Nat → Nat → Option Nat} {B : Nat → Nat → Int64} {M : Nat → Nat → Int32} {L : Nat} {xs : Nat → Int32} (hX0 : X 1000 = some (L, xs))  (l3 : Int32) (s0 : Int32) (s1 : Int32) 
    (k1 : (s1 = s0) → zEx (zCall d) 12 false 2 zc_law F 1271 [.ref 1000, .ref 0, .ref 71, .int l3] [] (X, b, zLay, K, B, M))
    (k2 : (¬ s1 = s0) → F (some (.int 0)) (X, b, zLay, K, B, M)) :
    zEx (zCall d) 12 false 2 zc_law F 496 [.ref 1000, .ref 0, .ref 71, .int l3] [.int s0, .int s1] (X, b, zLay, K, B, M) :=
  zr_ic 499 rfl rfl (fun c496_0 => (k1 c496_0)) (fun c496_0 => zr_iconst 500 rfl rfl <| zr_zreturn rfl rfl (Or.inl rfl) (k2 c496_0))
theorem zb_law_501 {d : Nat} {F : Option Value → zS → Prop} {X : zX} {b : Nat × Nat} {K : Nat → Nat → Option Nat} {B : Nat → Nat → Int64} {M : Nat → Nat → Int32} {L : Nat} {xs : Nat → Int32} (hX0 : X 1000 = some (L, xs))  (l3 : Int32) 
    (k1 : zCall d zm_Boats_text [.ref 0] (X, (0, 0), zLay, K, B, M) (zGo d 12 false 2 zc_law F 505 [.ref 1000, .ref 0, .ref 71, .int l3] [] b)) :
    zEx (zCall d) 12 false 2 zc_law F 501 [.ref 1000, .ref 0, .ref 71, .int l3] [] (X, b, zLay, K, B, M) :=
  zr_aload_n 502 rfl rfl rfl <| zr_virt 505 rfl rfl rfl rfl rfl rfl rfl rfl <| k1
theorem zb_law_505 {d : Nat} {F : Option Value → zS → Prop} {X : zX} {b : Nat × Nat} {K : Nat → Nat → Option Nat} {B : Nat → Nat → Int64} {M : Nat → Nat → Int32} {L : Nat} {xs : Nat → Int32} (hX0 : X 1000 = some (L, xs))  (l3 : Int32) (s0 : Int32) 
    (k1 : zCall d zm_Model_text [.ref 71] (X, (0, 0), zLay, K, B, M) (zGo d 12 false 2 zc_law F 509 [.ref 1000, .ref 0, .ref 71, .int l3] [.int s0] b)) :
    zEx (zCall d) 12 false 2 zc_law F 505 [.ref 1000, .ref 0, .ref 71, .int l3] [.int s0] (X, b, zLay, K, B, M) :=
  zr_aload_n 506 rfl rfl rfl <| zr_virt 509 rfl rfl rfl rfl rfl rfl rfl rfl <| k1
theorem zb_law_509 {d : Nat} {F : Option Value → zS → Prop} {X : zX} {b : Nat × Nat} {K : Nat → Nat → Option Nat} {B : Nat → Nat → Int64} {M : Nat → Nat → Int32} {L : Nat} {xs : Nat → Int32} (hX0 : X 1000 = some (L, xs))  (l3 : Int32) (s0 : Int32) (s1 : Int32) 
    (k1 : (s1 = s0) → zEx (zCall d) 12 false 2 zc_law F 1271 [.ref 1000, .ref 0, .ref 71, .int l3] [] (X, b, zLay, K, B, M))
    (k2 : (¬ s1 = s0) → F (some (.int 0)) (X, b, zLay, K, B, M)) :
    zEx (zCall d) 12 false 2 zc_law F 509 [.ref 1000, .ref 0, .ref 71, .int l3] [.int s0, .int s1] (X, b, zLay, K, B, M) :=
  zr_ic 512 rfl rfl (fun c509_0 => (k1 c509_0)) (fun c509_0 => zr_iconst 513 rfl rfl <| zr_zreturn rfl rfl (Or.inl rfl) (k2 c509_0))
theorem zb_law_514 {d : Nat} {F : Option Value → zS → Prop} {X : zX} {b : Nat × Nat} {K : Nat → Nat → Option Nat} {B : Nat → Nat → Int64} {M : Nat → Nat → Int32} {L : Nat} {xs : Nat → Int32} (hX0 : X 1000 = some (L, xs))  (l3 : Int32) 
    (g1 : vp_in (l3 + 1) L)
    (k2 : zCall d zm_Boats_fault [.ref 0, .int (xs (l3 + 1).toNatClampNeg)] (X, (0, 0), zLay, K, B, M) (zGo d 12 false 2 zc_law F 523 [.ref 1000, .ref 0, .ref 71, .int l3] [] b)) :
    zEx (zCall d) 12 false 2 zc_law F 514 [.ref 1000, .ref 0, .ref 71, .int l3] [] (X, b, zLay, K, B, M) :=
  zr_aload_n 515 rfl rfl rfl <| zr_aload_n 516 rfl rfl rfl <| zr_iload_n 517 rfl rfl rfl <| zr_iconst 518 rfl rfl <| zr_ibin 519 rfl rfl rfl <| zr_iaX 520 rfl rfl rfl hX0 g1 <| zr_virt 523 rfl rfl rfl rfl rfl rfl rfl rfl <| k2
theorem zb_law_523 {d : Nat} {F : Option Value → zS → Prop} {X : zX} {b : Nat × Nat} {K : Nat → Nat → Option Nat} {B : Nat → Nat → Int64} {M : Nat → Nat → Int32} {L : Nat} {xs : Nat → Int32} (hX0 : X 1000 = some (L, xs))  (l3 : Int32) (s0 : Int32) 
    (g1 : vp_in (l3 + 1) L)
    (k2 : zCall d zm_Model_fault [.ref 71, .int (xs (l3 + 1).toNatClampNeg)] (X, (0, 0), zLay, K, B, M) (zGo d 12 false 2 zc_law F 532 [.ref 1000, .ref 0, .ref 71, .int l3] [.int s0] b)) :
    zEx (zCall d) 12 false 2 zc_law F 523 [.ref 1000, .ref 0, .ref 71, .int l3] [.int s0] (X, b, zLay, K, B, M) :=
  zr_aload_n 524 rfl rfl rfl <| zr_aload_n 525 rfl rfl rfl <| zr_iload_n 526 rfl rfl rfl <| zr_iconst 527 rfl rfl <| zr_ibin 528 rfl rfl rfl <| zr_iaX 529 rfl rfl rfl hX0 g1 <| zr_virt 532 rfl rfl rfl rfl rfl rfl rfl rfl <| k2
theorem zb_law_532 {d : Nat} {F : Option Value → zS → Prop} {X : zX} {b : Nat × Nat} {K : Nat → Nat → Option Nat} {B : Nat → Nat → Int64} {M : Nat → Nat → Int32} {L : Nat} {xs : Nat → Int32} (hX0 : X 1000 = some (L, xs))  (l3 : Int32) (s0 : Int32) (s1 : Int32) 
    (k1 : (s1 = s0) → zEx (zCall d) 12 false 2 zc_law F 1271 [.ref 1000, .ref 0, .ref 71, .int l3] [] (X, b, zLay, K, B, M))
    (k2 : (¬ s1 = s0) → F (some (.int 0)) (X, b, zLay, K, B, M)) :
    zEx (zCall d) 12 false 2 zc_law F 532 [.ref 1000, .ref 0, .ref 71, .int l3] [.int s0, .int s1] (X, b, zLay, K, B, M) :=
  zr_ic 535 rfl rfl (fun c532_0 => (k1 c532_0)) (fun c532_0 => zr_iconst 536 rfl rfl <| zr_zreturn rfl rfl (Or.inl rfl) (k2 c532_0))
theorem zb_law_537 {d : Nat} {F : Option Value → zS → Prop} {X : zX} {b : Nat × Nat} {K : Nat → Nat → Option Nat} {B : Nat → Nat → Int64} {M : Nat → Nat → Int32} {L : Nat} {xs : Nat → Int32} (hX0 : X 1000 = some (L, xs))  (l3 : Int32) 
    (g1 : vp_in (l3 + 1) L)
    (g2 : vp_in (l3 + 2) L)
    (g3 : vp_in (l3 + 3) L)
    (k4 : zCall d zm_Boats_miles [.ref 0, .int (xs (l3 + 1).toNatClampNeg), .int (xs (l3 + 2).toNatClampNeg), .int (xs (l3 + 3).toNatClampNeg)] (X, (0, 0), zLay, K, B, M) (zGo d 12 false 2 zc_law F 556 [.ref 1000, .ref 0, .ref 71, .int l3] [] b)) :
    zEx (zCall d) 12 false 2 zc_law F 537 [.ref 1000, .ref 0, .ref 71, .int l3] [] (X, b, zLay, K, B, M) :=
  zr_aload_n 538 rfl rfl rfl <| zr_aload_n 539 rfl rfl rfl <| zr_iload_n 540 rfl rfl rfl <| zr_iconst 541 rfl rfl <| zr_ibin 542 rfl rfl rfl <| zr_iaX 543 rfl rfl rfl hX0 g1 <| zr_aload_n 544 rfl rfl rfl <| zr_iload_n 545 rfl rfl rfl <| zr_iconst 546 rfl rfl <| zr_ibin 547 rfl rfl rfl <| zr_iaX 548 rfl rfl rfl hX0 g2 <| zr_aload_n 549 rfl rfl rfl <| zr_iload_n 550 rfl rfl rfl <| zr_iconst 551 rfl rfl <| zr_ibin 552 rfl rfl rfl <| zr_iaX 553 rfl rfl rfl hX0 g3 <| zr_virt 556 rfl rfl rfl rfl rfl rfl rfl rfl <| k4
theorem zb_law_556 {d : Nat} {F : Option Value → zS → Prop} {X : zX} {b : Nat × Nat} {K : Nat → Nat → Option Nat} {B : Nat → Nat → Int64} {M : Nat → Nat → Int32} {L : Nat} {xs : Nat → Int32} (hX0 : X 1000 = some (L, xs))  (l3 : Int32) (s0 : Int32) 
    (g1 : vp_in (l3 + 1) L)
    (g2 : vp_in (l3 + 2) L)
    (g3 : vp_in (l3 + 3) L)
    (k4 : zCall d zm_Model_miles [.ref 71, .int (xs (l3 + 1).toNatClampNeg), .int (xs (l3 + 2).toNatClampNeg), .int (xs (l3 + 3).toNatClampNeg)] (X, (0, 0), zLay, K, B, M) (zGo d 12 false 2 zc_law F 575 [.ref 1000, .ref 0, .ref 71, .int l3] [.int s0] b)) :
    zEx (zCall d) 12 false 2 zc_law F 556 [.ref 1000, .ref 0, .ref 71, .int l3] [.int s0] (X, b, zLay, K, B, M) :=
  zr_aload_n 557 rfl rfl rfl <| zr_aload_n 558 rfl rfl rfl <| zr_iload_n 559 rfl rfl rfl <| zr_iconst 560 rfl rfl <| zr_ibin 561 rfl rfl rfl <| zr_iaX 562 rfl rfl rfl hX0 g1 <| zr_aload_n 563 rfl rfl rfl <| zr_iload_n 564 rfl rfl rfl <| zr_iconst 565 rfl rfl <| zr_ibin 566 rfl rfl rfl <| zr_iaX 567 rfl rfl rfl hX0 g2 <| zr_aload_n 568 rfl rfl rfl <| zr_iload_n 569 rfl rfl rfl <| zr_iconst 570 rfl rfl <| zr_ibin 571 rfl rfl rfl <| zr_iaX 572 rfl rfl rfl hX0 g3 <| zr_virt 575 rfl rfl rfl rfl rfl rfl rfl rfl <| k4
theorem zb_law_575 {d : Nat} {F : Option Value → zS → Prop} {X : zX} {b : Nat × Nat} {K : Nat → Nat → Option Nat} {B : Nat → Nat → Int64} {M : Nat → Nat → Int32} {L : Nat} {xs : Nat → Int32} (hX0 : X 1000 = some (L, xs))  (l3 : Int32) (s0 : Int32) (s1 : Int32) 
    (k1 : (s1 = s0) → zEx (zCall d) 12 false 2 zc_law F 1271 [.ref 1000, .ref 0, .ref 71, .int l3] [] (X, b, zLay, K, B, M))
    (k2 : (¬ s1 = s0) → F (some (.int 0)) (X, b, zLay, K, B, M)) :
    zEx (zCall d) 12 false 2 zc_law F 575 [.ref 1000, .ref 0, .ref 71, .int l3] [.int s0, .int s1] (X, b, zLay, K, B, M) :=
  zr_ic 578 rfl rfl (fun c575_0 => (k1 c575_0)) (fun c575_0 => zr_iconst 579 rfl rfl <| zr_zreturn rfl rfl (Or.inl rfl) (k2 c575_0))
theorem zb_law_580 {d : Nat} {F : Option Value → zS → Prop} {X : zX} {b : Nat × Nat} {K : Nat → Nat → Option Nat} {B : Nat → Nat → Int64} {M : Nat → Nat → Int32} {L : Nat} {xs : Nat → Int32} (hX0 : X 1000 = some (L, xs))  (l3 : Int32) 
    (g1 : vp_in (l3 + 1) L)
    (g2 : vp_in (l3 + 2) L)
    (k3 : zCall d zm_Boats_round [.ref 0, .int (xs (l3 + 1).toNatClampNeg), .int (xs (l3 + 2).toNatClampNeg)] (X, (0, 0), zLay, K, B, M) (zGo d 12 false 2 zc_law F 594 [.ref 1000, .ref 0, .ref 71, .int l3] [] b)) :
    zEx (zCall d) 12 false 2 zc_law F 580 [.ref 1000, .ref 0, .ref 71, .int l3] [] (X, b, zLay, K, B, M) :=
  zr_aload_n 581 rfl rfl rfl <| zr_aload_n 582 rfl rfl rfl <| zr_iload_n 583 rfl rfl rfl <| zr_iconst 584 rfl rfl <| zr_ibin 585 rfl rfl rfl <| zr_iaX 586 rfl rfl rfl hX0 g1 <| zr_aload_n 587 rfl rfl rfl <| zr_iload_n 588 rfl rfl rfl <| zr_iconst 589 rfl rfl <| zr_ibin 590 rfl rfl rfl <| zr_iaX 591 rfl rfl rfl hX0 g2 <| zr_virt 594 rfl rfl rfl rfl rfl rfl rfl rfl <| k3
theorem zb_law_594 {d : Nat} {F : Option Value → zS → Prop} {X : zX} {b : Nat × Nat} {K : Nat → Nat → Option Nat} {B : Nat → Nat → Int64} {M : Nat → Nat → Int32} {L : Nat} {xs : Nat → Int32} (hX0 : X 1000 = some (L, xs))  (l3 : Int32) (s0 : Int32) 
    (g1 : vp_in (l3 + 1) L)
    (g2 : vp_in (l3 + 2) L)
    (k3 : zCall d zm_Model_round [.ref 71, .int (xs (l3 + 1).toNatClampNeg), .int (xs (l3 + 2).toNatClampNeg)] (X, (0, 0), zLay, K, B, M) (zGo d 12 false 2 zc_law F 608 [.ref 1000, .ref 0, .ref 71, .int l3] [.int s0] b)) :
    zEx (zCall d) 12 false 2 zc_law F 594 [.ref 1000, .ref 0, .ref 71, .int l3] [.int s0] (X, b, zLay, K, B, M) :=
  zr_aload_n 595 rfl rfl rfl <| zr_aload_n 596 rfl rfl rfl <| zr_iload_n 597 rfl rfl rfl <| zr_iconst 598 rfl rfl <| zr_ibin 599 rfl rfl rfl <| zr_iaX 600 rfl rfl rfl hX0 g1 <| zr_aload_n 601 rfl rfl rfl <| zr_iload_n 602 rfl rfl rfl <| zr_iconst 603 rfl rfl <| zr_ibin 604 rfl rfl rfl <| zr_iaX 605 rfl rfl rfl hX0 g2 <| zr_virt 608 rfl rfl rfl rfl rfl rfl rfl rfl <| k3
theorem zb_law_608 {d : Nat} {F : Option Value → zS → Prop} {X : zX} {b : Nat × Nat} {K : Nat → Nat → Option Nat} {B : Nat → Nat → Int64} {M : Nat → Nat → Int32} {L : Nat} {xs : Nat → Int32} (hX0 : X 1000 = some (L, xs))  (l3 : Int32) (s0 : Int32) (s1 : Int32) 
    (k1 : (s1 = s0) → zEx (zCall d) 12 false 2 zc_law F 1271 [.ref 1000, .ref 0, .ref 71, .int l3] [] (X, b, zLay, K, B, M))
    (k2 : (¬ s1 = s0) → F (some (.int 0)) (X, b, zLay, K, B, M)) :
    zEx (zCall d) 12 false 2 zc_law F 608 [.ref 1000, .ref 0, .ref 71, .int l3] [.int s0, .int s1] (X, b, zLay, K, B, M) :=
  zr_ic 611 rfl rfl (fun c608_0 => (k1 c608_0)) (fun c608_0 => zr_iconst 612 rfl rfl <| zr_zreturn rfl rfl (Or.inl rfl) (k2 c608_0))
theorem zb_law_613 {d : Nat} {F : Option Value → zS → Prop} {X : zX} {b : Nat × Nat} {K : Nat → Nat → Option Nat} {B : Nat → Nat → Int64} {M : Nat → Nat → Int32} {L : Nat} {xs : Nat → Int32} (hX0 : X 1000 = some (L, xs))  (l3 : Int32) 
    (g1 : vp_in (l3 + 1) L)
    (g2 : vp_in (l3 + 2) L)
    (g3 : vp_in (l3 + 3) L)
    (k4 : zCall d zm_Boats_may [.ref 0, .int (xs (l3 + 1).toNatClampNeg), .int (xs (l3 + 2).toNatClampNeg), .int (xs (l3 + 3).toNatClampNeg)] (X, (0, 0), zLay, K, B, M) (zGo d 12 false 2 zc_law F 632 [.ref 1000, .ref 0, .ref 71, .int l3] [] b)) :
    zEx (zCall d) 12 false 2 zc_law F 613 [.ref 1000, .ref 0, .ref 71, .int l3] [] (X, b, zLay, K, B, M) :=
  zr_aload_n 614 rfl rfl rfl <| zr_aload_n 615 rfl rfl rfl <| zr_iload_n 616 rfl rfl rfl <| zr_iconst 617 rfl rfl <| zr_ibin 618 rfl rfl rfl <| zr_iaX 619 rfl rfl rfl hX0 g1 <| zr_aload_n 620 rfl rfl rfl <| zr_iload_n 621 rfl rfl rfl <| zr_iconst 622 rfl rfl <| zr_ibin 623 rfl rfl rfl <| zr_iaX 624 rfl rfl rfl hX0 g2 <| zr_aload_n 625 rfl rfl rfl <| zr_iload_n 626 rfl rfl rfl <| zr_iconst 627 rfl rfl <| zr_ibin 628 rfl rfl rfl <| zr_iaX 629 rfl rfl rfl hX0 g3 <| zr_virt 632 rfl rfl rfl rfl rfl rfl rfl rfl <| k4
theorem zb_law_632 {d : Nat} {F : Option Value → zS → Prop} {X : zX} {b : Nat × Nat} {K : Nat → Nat → Option Nat} {B : Nat → Nat → Int64} {M : Nat → Nat → Int32} {L : Nat} {xs : Nat → Int32} (hX0 : X 1000 = some (L, xs))  (l3 : Int32) (s0 : Int32) 
    (g1 : vp_in (l3 + 1) L)
    (g2 : vp_in (l3 + 2) L)
    (g3 : vp_in (l3 + 3) L)
    (k4 : zCall d zm_Model_may [.ref 71, .int (xs (l3 + 1).toNatClampNeg), .int (xs (l3 + 2).toNatClampNeg), .int (xs (l3 + 3).toNatClampNeg)] (X, (0, 0), zLay, K, B, M) (zGo d 12 false 2 zc_law F 651 [.ref 1000, .ref 0, .ref 71, .int l3] [.int s0] b)) :
    zEx (zCall d) 12 false 2 zc_law F 632 [.ref 1000, .ref 0, .ref 71, .int l3] [.int s0] (X, b, zLay, K, B, M) :=
  zr_aload_n 633 rfl rfl rfl <| zr_aload_n 634 rfl rfl rfl <| zr_iload_n 635 rfl rfl rfl <| zr_iconst 636 rfl rfl <| zr_ibin 637 rfl rfl rfl <| zr_iaX 638 rfl rfl rfl hX0 g1 <| zr_aload_n 639 rfl rfl rfl <| zr_iload_n 640 rfl rfl rfl <| zr_iconst 641 rfl rfl <| zr_ibin 642 rfl rfl rfl <| zr_iaX 643 rfl rfl rfl hX0 g2 <| zr_aload_n 644 rfl rfl rfl <| zr_iload_n 645 rfl rfl rfl <| zr_iconst 646 rfl rfl <| zr_ibin 647 rfl rfl rfl <| zr_iaX 648 rfl rfl rfl hX0 g3 <| zr_virt 651 rfl rfl rfl rfl rfl rfl rfl rfl <| k4
theorem zb_law_651 {d : Nat} {F : Option Value → zS → Prop} {X : zX} {b : Nat × Nat} {K : Nat → Nat → Option Nat} {B : Nat → Nat → Int64} {M : Nat → Nat → Int32} {L : Nat} {xs : Nat → Int32} (hX0 : X 1000 = some (L, xs))  (l3 : Int32) (s0 : Int32) (s1 : Int32) 
    (k1 : (s1 = s0) → zEx (zCall d) 12 false 2 zc_law F 1271 [.ref 1000, .ref 0, .ref 71, .int l3] [] (X, b, zLay, K, B, M))
    (k2 : (¬ s1 = s0) → F (some (.int 0)) (X, b, zLay, K, B, M)) :
    zEx (zCall d) 12 false 2 zc_law F 651 [.ref 1000, .ref 0, .ref 71, .int l3] [.int s0, .int s1] (X, b, zLay, K, B, M) :=
  zr_ic 654 rfl rfl (fun c651_0 => (k1 c651_0)) (fun c651_0 => zr_iconst 655 rfl rfl <| zr_zreturn rfl rfl (Or.inl rfl) (k2 c651_0))
theorem zb_law_656 {d : Nat} {F : Option Value → zS → Prop} {X : zX} {b : Nat × Nat} {K : Nat → Nat → Option Nat} {B : Nat → Nat → Int64} {M : Nat → Nat → Int32} {L : Nat} {xs : Nat → Int32} (hX0 : X 1000 = some (L, xs))  (l3 : Int32) 
    (g1 : vp_in (l3 + 1) L)
    (g2 : vp_in (l3 + 2) L)
    (g3 : vp_in (l3 + 3) L)
    (k4 : zCall d zm_Boats_known [.ref 0, .int (xs (l3 + 1).toNatClampNeg), .int (xs (l3 + 2).toNatClampNeg), .int (xs (l3 + 3).toNatClampNeg)] (X, (0, 0), zLay, K, B, M) (zGo d 12 false 2 zc_law F 675 [.ref 1000, .ref 0, .ref 71, .int l3] [] b)) :
    zEx (zCall d) 12 false 2 zc_law F 656 [.ref 1000, .ref 0, .ref 71, .int l3] [] (X, b, zLay, K, B, M) :=
  zr_aload_n 657 rfl rfl rfl <| zr_aload_n 658 rfl rfl rfl <| zr_iload_n 659 rfl rfl rfl <| zr_iconst 660 rfl rfl <| zr_ibin 661 rfl rfl rfl <| zr_iaX 662 rfl rfl rfl hX0 g1 <| zr_aload_n 663 rfl rfl rfl <| zr_iload_n 664 rfl rfl rfl <| zr_iconst 665 rfl rfl <| zr_ibin 666 rfl rfl rfl <| zr_iaX 667 rfl rfl rfl hX0 g2 <| zr_aload_n 668 rfl rfl rfl <| zr_iload_n 669 rfl rfl rfl <| zr_iconst 670 rfl rfl <| zr_ibin 671 rfl rfl rfl <| zr_iaX 672 rfl rfl rfl hX0 g3 <| zr_virt 675 rfl rfl rfl rfl rfl rfl rfl rfl <| k4
theorem zb_law_675 {d : Nat} {F : Option Value → zS → Prop} {X : zX} {b : Nat × Nat} {K : Nat → Nat → Option Nat} {B : Nat → Nat → Int64} {M : Nat → Nat → Int32} {L : Nat} {xs : Nat → Int32} (hX0 : X 1000 = some (L, xs))  (l3 : Int32) (s0 : Int32) 
    (g1 : vp_in (l3 + 1) L)
    (g2 : vp_in (l3 + 2) L)
    (g3 : vp_in (l3 + 3) L)
    (k4 : zCall d zm_Model_known [.ref 71, .int (xs (l3 + 1).toNatClampNeg), .int (xs (l3 + 2).toNatClampNeg), .int (xs (l3 + 3).toNatClampNeg)] (X, (0, 0), zLay, K, B, M) (zGo d 12 false 2 zc_law F 694 [.ref 1000, .ref 0, .ref 71, .int l3] [.int s0] b)) :
    zEx (zCall d) 12 false 2 zc_law F 675 [.ref 1000, .ref 0, .ref 71, .int l3] [.int s0] (X, b, zLay, K, B, M) :=
  zr_aload_n 676 rfl rfl rfl <| zr_aload_n 677 rfl rfl rfl <| zr_iload_n 678 rfl rfl rfl <| zr_iconst 679 rfl rfl <| zr_ibin 680 rfl rfl rfl <| zr_iaX 681 rfl rfl rfl hX0 g1 <| zr_aload_n 682 rfl rfl rfl <| zr_iload_n 683 rfl rfl rfl <| zr_iconst 684 rfl rfl <| zr_ibin 685 rfl rfl rfl <| zr_iaX 686 rfl rfl rfl hX0 g2 <| zr_aload_n 687 rfl rfl rfl <| zr_iload_n 688 rfl rfl rfl <| zr_iconst 689 rfl rfl <| zr_ibin 690 rfl rfl rfl <| zr_iaX 691 rfl rfl rfl hX0 g3 <| zr_virt 694 rfl rfl rfl rfl rfl rfl rfl rfl <| k4
theorem zb_law_694 {d : Nat} {F : Option Value → zS → Prop} {X : zX} {b : Nat × Nat} {K : Nat → Nat → Option Nat} {B : Nat → Nat → Int64} {M : Nat → Nat → Int32} {L : Nat} {xs : Nat → Int32} (hX0 : X 1000 = some (L, xs))  (l3 : Int32) (s0 : Int32) (s1 : Int32) 
    (k1 : (s1 = s0) → zEx (zCall d) 12 false 2 zc_law F 1271 [.ref 1000, .ref 0, .ref 71, .int l3] [] (X, b, zLay, K, B, M))
    (k2 : (¬ s1 = s0) → F (some (.int 0)) (X, b, zLay, K, B, M)) :
    zEx (zCall d) 12 false 2 zc_law F 694 [.ref 1000, .ref 0, .ref 71, .int l3] [.int s0, .int s1] (X, b, zLay, K, B, M) :=
  zr_ic 697 rfl rfl (fun c694_0 => (k1 c694_0)) (fun c694_0 => zr_iconst 698 rfl rfl <| zr_zreturn rfl rfl (Or.inl rfl) (k2 c694_0))
theorem zb_law_699 {d : Nat} {F : Option Value → zS → Prop} {X : zX} {b : Nat × Nat} {K : Nat → Nat → Option Nat} {B : Nat → Nat → Int64} {M : Nat → Nat → Int32} {L : Nat} {xs : Nat → Int32} (hX0 : X 1000 = some (L, xs))  (l3 : Int32) 
    (g1 : vp_in (l3 + 1) L)
    (g2 : vp_in (l3 + 2) L)
    (g3 : vp_in (l3 + 3) L)
    (g4 : vp_in (l3 + 4) L)
    (k5 : zCall d zm_Boats_over [.ref 0, .int (xs (l3 + 1).toNatClampNeg), .int (xs (l3 + 2).toNatClampNeg), .int (xs (l3 + 3).toNatClampNeg), .int (xs (l3 + 4).toNatClampNeg)] (X, (0, 0), zLay, K, B, M) (zGo d 12 false 2 zc_law F 723 [.ref 1000, .ref 0, .ref 71, .int l3] [] b)) :
    zEx (zCall d) 12 false 2 zc_law F 699 [.ref 1000, .ref 0, .ref 71, .int l3] [] (X, b, zLay, K, B, M) :=
  zr_aload_n 700 rfl rfl rfl <| zr_aload_n 701 rfl rfl rfl <| zr_iload_n 702 rfl rfl rfl <| zr_iconst 703 rfl rfl <| zr_ibin 704 rfl rfl rfl <| zr_iaX 705 rfl rfl rfl hX0 g1 <| zr_aload_n 706 rfl rfl rfl <| zr_iload_n 707 rfl rfl rfl <| zr_iconst 708 rfl rfl <| zr_ibin 709 rfl rfl rfl <| zr_iaX 710 rfl rfl rfl hX0 g2 <| zr_aload_n 711 rfl rfl rfl <| zr_iload_n 712 rfl rfl rfl <| zr_iconst 713 rfl rfl <| zr_ibin 714 rfl rfl rfl <| zr_iaX 715 rfl rfl rfl hX0 g3 <| zr_aload_n 716 rfl rfl rfl <| zr_iload_n 717 rfl rfl rfl <| zr_iconst 718 rfl rfl <| zr_ibin 719 rfl rfl rfl <| zr_iaX 720 rfl rfl rfl hX0 g4 <| zr_virt 723 rfl rfl rfl rfl rfl rfl rfl rfl <| k5
theorem zb_law_723 {d : Nat} {F : Option Value → zS → Prop} {X : zX} {b : Nat × Nat} {K : Nat → Nat → Option Nat} {B : Nat → Nat → Int64} {M : Nat → Nat → Int32} {L : Nat} {xs : Nat → Int32} (hX0 : X 1000 = some (L, xs))  (l3 : Int32) (s0 : Int32) 
    (g1 : vp_in (l3 + 1) L)
    (g2 : vp_in (l3 + 2) L)
    (g3 : vp_in (l3 + 3) L)
    (g4 : vp_in (l3 + 4) L)
    (k5 : zCall d zm_Model_over [.ref 71, .int (xs (l3 + 1).toNatClampNeg), .int (xs (l3 + 2).toNatClampNeg), .int (xs (l3 + 3).toNatClampNeg), .int (xs (l3 + 4).toNatClampNeg)] (X, (0, 0), zLay, K, B, M) (zGo d 12 false 2 zc_law F 747 [.ref 1000, .ref 0, .ref 71, .int l3] [.int s0] b)) :
    zEx (zCall d) 12 false 2 zc_law F 723 [.ref 1000, .ref 0, .ref 71, .int l3] [.int s0] (X, b, zLay, K, B, M) :=
  zr_aload_n 724 rfl rfl rfl <| zr_aload_n 725 rfl rfl rfl <| zr_iload_n 726 rfl rfl rfl <| zr_iconst 727 rfl rfl <| zr_ibin 728 rfl rfl rfl <| zr_iaX 729 rfl rfl rfl hX0 g1 <| zr_aload_n 730 rfl rfl rfl <| zr_iload_n 731 rfl rfl rfl <| zr_iconst 732 rfl rfl <| zr_ibin 733 rfl rfl rfl <| zr_iaX 734 rfl rfl rfl hX0 g2 <| zr_aload_n 735 rfl rfl rfl <| zr_iload_n 736 rfl rfl rfl <| zr_iconst 737 rfl rfl <| zr_ibin 738 rfl rfl rfl <| zr_iaX 739 rfl rfl rfl hX0 g3 <| zr_aload_n 740 rfl rfl rfl <| zr_iload_n 741 rfl rfl rfl <| zr_iconst 742 rfl rfl <| zr_ibin 743 rfl rfl rfl <| zr_iaX 744 rfl rfl rfl hX0 g4 <| zr_virt 747 rfl rfl rfl rfl rfl rfl rfl rfl <| k5
theorem zb_law_747 {d : Nat} {F : Option Value → zS → Prop} {X : zX} {b : Nat × Nat} {K : Nat → Nat → Option Nat} {B : Nat → Nat → Int64} {M : Nat → Nat → Int32} {L : Nat} {xs : Nat → Int32} (hX0 : X 1000 = some (L, xs))  (l3 : Int32) (s0 : Int32) (s1 : Int32) 
    (k1 : (s1 = s0) → zEx (zCall d) 12 false 2 zc_law F 1271 [.ref 1000, .ref 0, .ref 71, .int l3] [] (X, b, zLay, K, B, M))
    (k2 : (¬ s1 = s0) → F (some (.int 0)) (X, b, zLay, K, B, M)) :
    zEx (zCall d) 12 false 2 zc_law F 747 [.ref 1000, .ref 0, .ref 71, .int l3] [.int s0, .int s1] (X, b, zLay, K, B, M) :=
  zr_ic 750 rfl rfl (fun c747_0 => (k1 c747_0)) (fun c747_0 => zr_iconst 751 rfl rfl <| zr_zreturn rfl rfl (Or.inl rfl) (k2 c747_0))
theorem zb_law_752 {d : Nat} {F : Option Value → zS → Prop} {X : zX} {b : Nat × Nat} {K : Nat → Nat → Option Nat} {B : Nat → Nat → Int64} {M : Nat → Nat → Int32} {L : Nat} {xs : Nat → Int32} (hX0 : X 1000 = some (L, xs))  (l3 : Int32) 
    (g1 : vp_in (l3 + 1) L)
    (g2 : vp_in (l3 + 2) L)
    (g3 : vp_in (l3 + 3) L)
    (g4 : vp_in (l3 + 4) L)
    (g5 : vp_in (l3 + 5) L)
    (k6 : zCall d zm_Boats_longest [.ref 0, .int (xs (l3 + 1).toNatClampNeg), .int (xs (l3 + 2).toNatClampNeg), .int (xs (l3 + 3).toNatClampNeg), .int (xs (l3 + 4).toNatClampNeg), .int (xs (l3 + 5).toNatClampNeg)] (X, (0, 0), zLay, K, B, M) (zGo d 12 false 2 zc_law F 781 [.ref 1000, .ref 0, .ref 71, .int l3] [] b)) :
    zEx (zCall d) 12 false 2 zc_law F 752 [.ref 1000, .ref 0, .ref 71, .int l3] [] (X, b, zLay, K, B, M) :=
  zr_aload_n 753 rfl rfl rfl <| zr_aload_n 754 rfl rfl rfl <| zr_iload_n 755 rfl rfl rfl <| zr_iconst 756 rfl rfl <| zr_ibin 757 rfl rfl rfl <| zr_iaX 758 rfl rfl rfl hX0 g1 <| zr_aload_n 759 rfl rfl rfl <| zr_iload_n 760 rfl rfl rfl <| zr_iconst 761 rfl rfl <| zr_ibin 762 rfl rfl rfl <| zr_iaX 763 rfl rfl rfl hX0 g2 <| zr_aload_n 764 rfl rfl rfl <| zr_iload_n 765 rfl rfl rfl <| zr_iconst 766 rfl rfl <| zr_ibin 767 rfl rfl rfl <| zr_iaX 768 rfl rfl rfl hX0 g3 <| zr_aload_n 769 rfl rfl rfl <| zr_iload_n 770 rfl rfl rfl <| zr_iconst 771 rfl rfl <| zr_ibin 772 rfl rfl rfl <| zr_iaX 773 rfl rfl rfl hX0 g4 <| zr_aload_n 774 rfl rfl rfl <| zr_iload_n 775 rfl rfl rfl <| zr_iconst 776 rfl rfl <| zr_ibin 777 rfl rfl rfl <| zr_iaX 778 rfl rfl rfl hX0 g5 <| zr_virt 781 rfl rfl rfl rfl rfl rfl rfl rfl <| k6
theorem zb_law_781 {d : Nat} {F : Option Value → zS → Prop} {X : zX} {b : Nat × Nat} {K : Nat → Nat → Option Nat} {B : Nat → Nat → Int64} {M : Nat → Nat → Int32} {L : Nat} {xs : Nat → Int32} (hX0 : X 1000 = some (L, xs))  (l3 : Int32) (s0 : Int32) 
    (g1 : vp_in (l3 + 1) L)
    (g2 : vp_in (l3 + 2) L)
    (g3 : vp_in (l3 + 3) L)
    (g4 : vp_in (l3 + 4) L)
    (g5 : vp_in (l3 + 5) L)
    (k6 : zCall d zm_Model_longest [.ref 71, .int (xs (l3 + 1).toNatClampNeg), .int (xs (l3 + 2).toNatClampNeg), .int (xs (l3 + 3).toNatClampNeg), .int (xs (l3 + 4).toNatClampNeg), .int (xs (l3 + 5).toNatClampNeg)] (X, (0, 0), zLay, K, B, M) (zGo d 12 false 2 zc_law F 810 [.ref 1000, .ref 0, .ref 71, .int l3] [.int s0] b)) :
    zEx (zCall d) 12 false 2 zc_law F 781 [.ref 1000, .ref 0, .ref 71, .int l3] [.int s0] (X, b, zLay, K, B, M) :=
  zr_aload_n 782 rfl rfl rfl <| zr_aload_n 783 rfl rfl rfl <| zr_iload_n 784 rfl rfl rfl <| zr_iconst 785 rfl rfl <| zr_ibin 786 rfl rfl rfl <| zr_iaX 787 rfl rfl rfl hX0 g1 <| zr_aload_n 788 rfl rfl rfl <| zr_iload_n 789 rfl rfl rfl <| zr_iconst 790 rfl rfl <| zr_ibin 791 rfl rfl rfl <| zr_iaX 792 rfl rfl rfl hX0 g2 <| zr_aload_n 793 rfl rfl rfl <| zr_iload_n 794 rfl rfl rfl <| zr_iconst 795 rfl rfl <| zr_ibin 796 rfl rfl rfl <| zr_iaX 797 rfl rfl rfl hX0 g3 <| zr_aload_n 798 rfl rfl rfl <| zr_iload_n 799 rfl rfl rfl <| zr_iconst 800 rfl rfl <| zr_ibin 801 rfl rfl rfl <| zr_iaX 802 rfl rfl rfl hX0 g4 <| zr_aload_n 803 rfl rfl rfl <| zr_iload_n 804 rfl rfl rfl <| zr_iconst 805 rfl rfl <| zr_ibin 806 rfl rfl rfl <| zr_iaX 807 rfl rfl rfl hX0 g5 <| zr_virt 810 rfl rfl rfl rfl rfl rfl rfl rfl <| k6
theorem zb_law_810 {d : Nat} {F : Option Value → zS → Prop} {X : zX} {b : Nat × Nat} {K : Nat → Nat → Option Nat} {B : Nat → Nat → Int64} {M : Nat → Nat → Int32} {L : Nat} {xs : Nat → Int32} (hX0 : X 1000 = some (L, xs))  (l3 : Int32) (s0 : Int32) (s1 : Int32) 
    (k1 : (s1 = s0) → zEx (zCall d) 12 false 2 zc_law F 1271 [.ref 1000, .ref 0, .ref 71, .int l3] [] (X, b, zLay, K, B, M))
    (k2 : (¬ s1 = s0) → F (some (.int 0)) (X, b, zLay, K, B, M)) :
    zEx (zCall d) 12 false 2 zc_law F 810 [.ref 1000, .ref 0, .ref 71, .int l3] [.int s0, .int s1] (X, b, zLay, K, B, M) :=
  zr_ic 813 rfl rfl (fun c810_0 => (k1 c810_0)) (fun c810_0 => zr_iconst 814 rfl rfl <| zr_zreturn rfl rfl (Or.inl rfl) (k2 c810_0))
theorem zb_law_815 {d : Nat} {F : Option Value → zS → Prop} {X : zX} {b : Nat × Nat} {K : Nat → Nat → Option Nat} {B : Nat → Nat → Int64} {M : Nat → Nat → Int32} {L : Nat} {xs : Nat → Int32} (hX0 : X 1000 = some (L, xs))  (l3 : Int32) 
    (g1 : vp_in (l3 + 1) L)
    (g2 : vp_in (l3 + 2) L)
    (g3 : vp_in (l3 + 3) L)
    (k4 : zCall d zm_Boats_far [.ref 0, .int (xs (l3 + 1).toNatClampNeg), .int (xs (l3 + 2).toNatClampNeg), .int (xs (l3 + 3).toNatClampNeg)] (X, (0, 0), zLay, K, B, M) (zGo d 12 false 2 zc_law F 834 [.ref 1000, .ref 0, .ref 71, .int l3] [] b)) :
    zEx (zCall d) 12 false 2 zc_law F 815 [.ref 1000, .ref 0, .ref 71, .int l3] [] (X, b, zLay, K, B, M) :=
  zr_aload_n 816 rfl rfl rfl <| zr_aload_n 817 rfl rfl rfl <| zr_iload_n 818 rfl rfl rfl <| zr_iconst 819 rfl rfl <| zr_ibin 820 rfl rfl rfl <| zr_iaX 821 rfl rfl rfl hX0 g1 <| zr_aload_n 822 rfl rfl rfl <| zr_iload_n 823 rfl rfl rfl <| zr_iconst 824 rfl rfl <| zr_ibin 825 rfl rfl rfl <| zr_iaX 826 rfl rfl rfl hX0 g2 <| zr_aload_n 827 rfl rfl rfl <| zr_iload_n 828 rfl rfl rfl <| zr_iconst 829 rfl rfl <| zr_ibin 830 rfl rfl rfl <| zr_iaX 831 rfl rfl rfl hX0 g3 <| zr_virt 834 rfl rfl rfl rfl rfl rfl rfl rfl <| k4
theorem zb_law_834 {d : Nat} {F : Option Value → zS → Prop} {X : zX} {b : Nat × Nat} {K : Nat → Nat → Option Nat} {B : Nat → Nat → Int64} {M : Nat → Nat → Int32} {L : Nat} {xs : Nat → Int32} (hX0 : X 1000 = some (L, xs))  (l3 : Int32) (s0 : Int32) 
    (g1 : vp_in (l3 + 1) L)
    (g2 : vp_in (l3 + 2) L)
    (g3 : vp_in (l3 + 3) L)
    (k4 : zCall d zm_Model_far [.ref 71, .int (xs (l3 + 1).toNatClampNeg), .int (xs (l3 + 2).toNatClampNeg), .int (xs (l3 + 3).toNatClampNeg)] (X, (0, 0), zLay, K, B, M) (zGo d 12 false 2 zc_law F 853 [.ref 1000, .ref 0, .ref 71, .int l3] [.int s0] b)) :
    zEx (zCall d) 12 false 2 zc_law F 834 [.ref 1000, .ref 0, .ref 71, .int l3] [.int s0] (X, b, zLay, K, B, M) :=
  zr_aload_n 835 rfl rfl rfl <| zr_aload_n 836 rfl rfl rfl <| zr_iload_n 837 rfl rfl rfl <| zr_iconst 838 rfl rfl <| zr_ibin 839 rfl rfl rfl <| zr_iaX 840 rfl rfl rfl hX0 g1 <| zr_aload_n 841 rfl rfl rfl <| zr_iload_n 842 rfl rfl rfl <| zr_iconst 843 rfl rfl <| zr_ibin 844 rfl rfl rfl <| zr_iaX 845 rfl rfl rfl hX0 g2 <| zr_aload_n 846 rfl rfl rfl <| zr_iload_n 847 rfl rfl rfl <| zr_iconst 848 rfl rfl <| zr_ibin 849 rfl rfl rfl <| zr_iaX 850 rfl rfl rfl hX0 g3 <| zr_virt 853 rfl rfl rfl rfl rfl rfl rfl rfl <| k4
theorem zb_law_853 {d : Nat} {F : Option Value → zS → Prop} {X : zX} {b : Nat × Nat} {K : Nat → Nat → Option Nat} {B : Nat → Nat → Int64} {M : Nat → Nat → Int32} {L : Nat} {xs : Nat → Int32} (hX0 : X 1000 = some (L, xs))  (l3 : Int32) (s0 : Int32) (s1 : Int32) 
    (k1 : (s1 = s0) → zEx (zCall d) 12 false 2 zc_law F 1271 [.ref 1000, .ref 0, .ref 71, .int l3] [] (X, b, zLay, K, B, M))
    (k2 : (¬ s1 = s0) → F (some (.int 0)) (X, b, zLay, K, B, M)) :
    zEx (zCall d) 12 false 2 zc_law F 853 [.ref 1000, .ref 0, .ref 71, .int l3] [.int s0, .int s1] (X, b, zLay, K, B, M) :=
  zr_ic 856 rfl rfl (fun c853_0 => (k1 c853_0)) (fun c853_0 => zr_iconst 857 rfl rfl <| zr_zreturn rfl rfl (Or.inl rfl) (k2 c853_0))
theorem zb_law_858 {d : Nat} {F : Option Value → zS → Prop} {X : zX} {b : Nat × Nat} {K : Nat → Nat → Option Nat} {B : Nat → Nat → Int64} {M : Nat → Nat → Int32} {L : Nat} {xs : Nat → Int32} (hX0 : X 1000 = some (L, xs))  (l3 : Int32) 
    (g1 : vp_in (l3 + 1) L)
    (g2 : vp_in (l3 + 2) L)
    (g3 : vp_in (l3 + 3) L)
    (k4 : zCall d zm_Boats_shortOf [.ref 0, .int (xs (l3 + 1).toNatClampNeg), .int (xs (l3 + 2).toNatClampNeg), .int (xs (l3 + 3).toNatClampNeg)] (X, (0, 0), zLay, K, B, M) (zGo d 12 false 2 zc_law F 877 [.ref 1000, .ref 0, .ref 71, .int l3] [] b)) :
    zEx (zCall d) 12 false 2 zc_law F 858 [.ref 1000, .ref 0, .ref 71, .int l3] [] (X, b, zLay, K, B, M) :=
  zr_aload_n 859 rfl rfl rfl <| zr_aload_n 860 rfl rfl rfl <| zr_iload_n 861 rfl rfl rfl <| zr_iconst 862 rfl rfl <| zr_ibin 863 rfl rfl rfl <| zr_iaX 864 rfl rfl rfl hX0 g1 <| zr_aload_n 865 rfl rfl rfl <| zr_iload_n 866 rfl rfl rfl <| zr_iconst 867 rfl rfl <| zr_ibin 868 rfl rfl rfl <| zr_iaX 869 rfl rfl rfl hX0 g2 <| zr_aload_n 870 rfl rfl rfl <| zr_iload_n 871 rfl rfl rfl <| zr_iconst 872 rfl rfl <| zr_ibin 873 rfl rfl rfl <| zr_iaX 874 rfl rfl rfl hX0 g3 <| zr_virt 877 rfl rfl rfl rfl rfl rfl rfl rfl <| k4
theorem zb_law_877 {d : Nat} {F : Option Value → zS → Prop} {X : zX} {b : Nat × Nat} {K : Nat → Nat → Option Nat} {B : Nat → Nat → Int64} {M : Nat → Nat → Int32} {L : Nat} {xs : Nat → Int32} (hX0 : X 1000 = some (L, xs))  (l3 : Int32) (s0 : Int32) 
    (g1 : vp_in (l3 + 1) L)
    (g2 : vp_in (l3 + 2) L)
    (g3 : vp_in (l3 + 3) L)
    (k4 : zCall d zm_Model_shortOf [.ref 71, .int (xs (l3 + 1).toNatClampNeg), .int (xs (l3 + 2).toNatClampNeg), .int (xs (l3 + 3).toNatClampNeg)] (X, (0, 0), zLay, K, B, M) (zGo d 12 false 2 zc_law F 896 [.ref 1000, .ref 0, .ref 71, .int l3] [.int s0] b)) :
    zEx (zCall d) 12 false 2 zc_law F 877 [.ref 1000, .ref 0, .ref 71, .int l3] [.int s0] (X, b, zLay, K, B, M) :=
  zr_aload_n 878 rfl rfl rfl <| zr_aload_n 879 rfl rfl rfl <| zr_iload_n 880 rfl rfl rfl <| zr_iconst 881 rfl rfl <| zr_ibin 882 rfl rfl rfl <| zr_iaX 883 rfl rfl rfl hX0 g1 <| zr_aload_n 884 rfl rfl rfl <| zr_iload_n 885 rfl rfl rfl <| zr_iconst 886 rfl rfl <| zr_ibin 887 rfl rfl rfl <| zr_iaX 888 rfl rfl rfl hX0 g2 <| zr_aload_n 889 rfl rfl rfl <| zr_iload_n 890 rfl rfl rfl <| zr_iconst 891 rfl rfl <| zr_ibin 892 rfl rfl rfl <| zr_iaX 893 rfl rfl rfl hX0 g3 <| zr_virt 896 rfl rfl rfl rfl rfl rfl rfl rfl <| k4
theorem zb_law_896 {d : Nat} {F : Option Value → zS → Prop} {X : zX} {b : Nat × Nat} {K : Nat → Nat → Option Nat} {B : Nat → Nat → Int64} {M : Nat → Nat → Int32} {L : Nat} {xs : Nat → Int32} (hX0 : X 1000 = some (L, xs))  (l3 : Int32) (s0 : Int32) (s1 : Int32) 
    (k1 : (s1 = s0) → zEx (zCall d) 12 false 2 zc_law F 1271 [.ref 1000, .ref 0, .ref 71, .int l3] [] (X, b, zLay, K, B, M))
    (k2 : (¬ s1 = s0) → F (some (.int 0)) (X, b, zLay, K, B, M)) :
    zEx (zCall d) 12 false 2 zc_law F 896 [.ref 1000, .ref 0, .ref 71, .int l3] [.int s0, .int s1] (X, b, zLay, K, B, M) :=
  zr_ic 899 rfl rfl (fun c896_0 => (k1 c896_0)) (fun c896_0 => zr_iconst 900 rfl rfl <| zr_zreturn rfl rfl (Or.inl rfl) (k2 c896_0))
theorem zb_law_901 {d : Nat} {F : Option Value → zS → Prop} {X : zX} {b : Nat × Nat} {K : Nat → Nat → Option Nat} {B : Nat → Nat → Int64} {M : Nat → Nat → Int32} {L : Nat} {xs : Nat → Int32} (hX0 : X 1000 = some (L, xs))  (l3 : Int32) 
    (g1 : vp_in (l3 + 1) L)
    (g2 : vp_in (l3 + 2) L)
    (g3 : vp_in (l3 + 3) L)
    (k4 : zCall d zm_Boats_broken [.ref 0, .int (xs (l3 + 1).toNatClampNeg), .int (xs (l3 + 2).toNatClampNeg), .int (xs (l3 + 3).toNatClampNeg)] (X, (0, 0), zLay, K, B, M) (zGo d 12 false 2 zc_law F 920 [.ref 1000, .ref 0, .ref 71, .int l3] [] b)) :
    zEx (zCall d) 12 false 2 zc_law F 901 [.ref 1000, .ref 0, .ref 71, .int l3] [] (X, b, zLay, K, B, M) :=
  zr_aload_n 902 rfl rfl rfl <| zr_aload_n 903 rfl rfl rfl <| zr_iload_n 904 rfl rfl rfl <| zr_iconst 905 rfl rfl <| zr_ibin 906 rfl rfl rfl <| zr_iaX 907 rfl rfl rfl hX0 g1 <| zr_aload_n 908 rfl rfl rfl <| zr_iload_n 909 rfl rfl rfl <| zr_iconst 910 rfl rfl <| zr_ibin 911 rfl rfl rfl <| zr_iaX 912 rfl rfl rfl hX0 g2 <| zr_aload_n 913 rfl rfl rfl <| zr_iload_n 914 rfl rfl rfl <| zr_iconst 915 rfl rfl <| zr_ibin 916 rfl rfl rfl <| zr_iaX 917 rfl rfl rfl hX0 g3 <| zr_virt 920 rfl rfl rfl rfl rfl rfl rfl rfl <| k4
theorem zb_law_920 {d : Nat} {F : Option Value → zS → Prop} {X : zX} {b : Nat × Nat} {K : Nat → Nat → Option Nat} {B : Nat → Nat → Int64} {M : Nat → Nat → Int32} {L : Nat} {xs : Nat → Int32} (hX0 : X 1000 = some (L, xs))  (l3 : Int32) (s0 : Int32) 
    (g1 : vp_in (l3 + 1) L)
    (g2 : vp_in (l3 + 2) L)
    (g3 : vp_in (l3 + 3) L)
    (k4 : zCall d zm_Model_broken [.ref 71, .int (xs (l3 + 1).toNatClampNeg), .int (xs (l3 + 2).toNatClampNeg), .int (xs (l3 + 3).toNatClampNeg)] (X, (0, 0), zLay, K, B, M) (zGo d 12 false 2 zc_law F 939 [.ref 1000, .ref 0, .ref 71, .int l3] [.int s0] b)) :
    zEx (zCall d) 12 false 2 zc_law F 920 [.ref 1000, .ref 0, .ref 71, .int l3] [.int s0] (X, b, zLay, K, B, M) :=
  zr_aload_n 921 rfl rfl rfl <| zr_aload_n 922 rfl rfl rfl <| zr_iload_n 923 rfl rfl rfl <| zr_iconst 924 rfl rfl <| zr_ibin 925 rfl rfl rfl <| zr_iaX 926 rfl rfl rfl hX0 g1 <| zr_aload_n 927 rfl rfl rfl <| zr_iload_n 928 rfl rfl rfl <| zr_iconst 929 rfl rfl <| zr_ibin 930 rfl rfl rfl <| zr_iaX 931 rfl rfl rfl hX0 g2 <| zr_aload_n 932 rfl rfl rfl <| zr_iload_n 933 rfl rfl rfl <| zr_iconst 934 rfl rfl <| zr_ibin 935 rfl rfl rfl <| zr_iaX 936 rfl rfl rfl hX0 g3 <| zr_virt 939 rfl rfl rfl rfl rfl rfl rfl rfl <| k4
theorem zb_law_939 {d : Nat} {F : Option Value → zS → Prop} {X : zX} {b : Nat × Nat} {K : Nat → Nat → Option Nat} {B : Nat → Nat → Int64} {M : Nat → Nat → Int32} {L : Nat} {xs : Nat → Int32} (hX0 : X 1000 = some (L, xs))  (l3 : Int32) (s0 : Int32) (s1 : Int32) 
    (k1 : (s1 = s0) → zEx (zCall d) 12 false 2 zc_law F 1271 [.ref 1000, .ref 0, .ref 71, .int l3] [] (X, b, zLay, K, B, M))
    (k2 : (¬ s1 = s0) → F (some (.int 0)) (X, b, zLay, K, B, M)) :
    zEx (zCall d) 12 false 2 zc_law F 939 [.ref 1000, .ref 0, .ref 71, .int l3] [.int s0, .int s1] (X, b, zLay, K, B, M) :=
  zr_ic 942 rfl rfl (fun c939_0 => (k1 c939_0)) (fun c939_0 => zr_iconst 943 rfl rfl <| zr_zreturn rfl rfl (Or.inl rfl) (k2 c939_0))
theorem zb_law_944 {d : Nat} {F : Option Value → zS → Prop} {X : zX} {b : Nat × Nat} {K : Nat → Nat → Option Nat} {B : Nat → Nat → Int64} {M : Nat → Nat → Int32} {L : Nat} {xs : Nat → Int32} (hX0 : X 1000 = some (L, xs))  (l3 : Int32) 
    (g1 : vp_in (l3 + 1) L)
    (g2 : vp_in (l3 + 2) L)
    (g3 : vp_in (l3 + 3) L)
    (g4 : vp_in (l3 + 4) L)
    (k5 : zCall d zm_Boats_look [.ref 0, .int (xs (l3 + 1).toNatClampNeg), .int (xs (l3 + 2).toNatClampNeg), .int (xs (l3 + 3).toNatClampNeg), .int (xs (l3 + 4).toNatClampNeg)] (X, (0, 0), zLay, K, B, M) (zGo d 12 false 2 zc_law F 968 [.ref 1000, .ref 0, .ref 71, .int l3] [] b)) :
    zEx (zCall d) 12 false 2 zc_law F 944 [.ref 1000, .ref 0, .ref 71, .int l3] [] (X, b, zLay, K, B, M) :=
  zr_aload_n 945 rfl rfl rfl <| zr_aload_n 946 rfl rfl rfl <| zr_iload_n 947 rfl rfl rfl <| zr_iconst 948 rfl rfl <| zr_ibin 949 rfl rfl rfl <| zr_iaX 950 rfl rfl rfl hX0 g1 <| zr_aload_n 951 rfl rfl rfl <| zr_iload_n 952 rfl rfl rfl <| zr_iconst 953 rfl rfl <| zr_ibin 954 rfl rfl rfl <| zr_iaX 955 rfl rfl rfl hX0 g2 <| zr_aload_n 956 rfl rfl rfl <| zr_iload_n 957 rfl rfl rfl <| zr_iconst 958 rfl rfl <| zr_ibin 959 rfl rfl rfl <| zr_iaX 960 rfl rfl rfl hX0 g3 <| zr_aload_n 961 rfl rfl rfl <| zr_iload_n 962 rfl rfl rfl <| zr_iconst 963 rfl rfl <| zr_ibin 964 rfl rfl rfl <| zr_iaX 965 rfl rfl rfl hX0 g4 <| zr_virt 968 rfl rfl rfl rfl rfl rfl rfl rfl <| k5
theorem zb_law_968 {d : Nat} {F : Option Value → zS → Prop} {X : zX} {b : Nat × Nat} {K : Nat → Nat → Option Nat} {B : Nat → Nat → Int64} {M : Nat → Nat → Int32} {L : Nat} {xs : Nat → Int32} (hX0 : X 1000 = some (L, xs))  (l3 : Int32) (s0 : Int32) 
    (g1 : vp_in (l3 + 1) L)
    (g2 : vp_in (l3 + 2) L)
    (g3 : vp_in (l3 + 3) L)
    (g4 : vp_in (l3 + 4) L)
    (k5 : zCall d zm_Model_look [.ref 71, .int (xs (l3 + 1).toNatClampNeg), .int (xs (l3 + 2).toNatClampNeg), .int (xs (l3 + 3).toNatClampNeg), .int (xs (l3 + 4).toNatClampNeg)] (X, (0, 0), zLay, K, B, M) (zGo d 12 false 2 zc_law F 992 [.ref 1000, .ref 0, .ref 71, .int l3] [.int s0] b)) :
    zEx (zCall d) 12 false 2 zc_law F 968 [.ref 1000, .ref 0, .ref 71, .int l3] [.int s0] (X, b, zLay, K, B, M) :=
  zr_aload_n 969 rfl rfl rfl <| zr_aload_n 970 rfl rfl rfl <| zr_iload_n 971 rfl rfl rfl <| zr_iconst 972 rfl rfl <| zr_ibin 973 rfl rfl rfl <| zr_iaX 974 rfl rfl rfl hX0 g1 <| zr_aload_n 975 rfl rfl rfl <| zr_iload_n 976 rfl rfl rfl <| zr_iconst 977 rfl rfl <| zr_ibin 978 rfl rfl rfl <| zr_iaX 979 rfl rfl rfl hX0 g2 <| zr_aload_n 980 rfl rfl rfl <| zr_iload_n 981 rfl rfl rfl <| zr_iconst 982 rfl rfl <| zr_ibin 983 rfl rfl rfl <| zr_iaX 984 rfl rfl rfl hX0 g3 <| zr_aload_n 985 rfl rfl rfl <| zr_iload_n 986 rfl rfl rfl <| zr_iconst 987 rfl rfl <| zr_ibin 988 rfl rfl rfl <| zr_iaX 989 rfl rfl rfl hX0 g4 <| zr_virt 992 rfl rfl rfl rfl rfl rfl rfl rfl <| k5
theorem zb_law_992 {d : Nat} {F : Option Value → zS → Prop} {X : zX} {b : Nat × Nat} {K : Nat → Nat → Option Nat} {B : Nat → Nat → Int64} {M : Nat → Nat → Int32} {L : Nat} {xs : Nat → Int32} (hX0 : X 1000 = some (L, xs))  (l3 : Int32) (s0 : Int32) (s1 : Int32) 
    (k1 : (s1 = s0) → zEx (zCall d) 12 false 2 zc_law F 1271 [.ref 1000, .ref 0, .ref 71, .int l3] [] (X, b, zLay, K, B, M))
    (k2 : (¬ s1 = s0) → F (some (.int 0)) (X, b, zLay, K, B, M)) :
    zEx (zCall d) 12 false 2 zc_law F 992 [.ref 1000, .ref 0, .ref 71, .int l3] [.int s0, .int s1] (X, b, zLay, K, B, M) :=
  zr_ic 995 rfl rfl (fun c992_0 => (k1 c992_0)) (fun c992_0 => zr_iconst 996 rfl rfl <| zr_zreturn rfl rfl (Or.inl rfl) (k2 c992_0))
theorem zb_law_997 {d : Nat} {F : Option Value → zS → Prop} {X : zX} {b : Nat × Nat} {K : Nat → Nat → Option Nat} {B : Nat → Nat → Int64} {M : Nat → Nat → Int32} {L : Nat} {xs : Nat → Int32} (hX0 : X 1000 = some (L, xs))  (l3 : Int32) 
    (g1 : vp_in (l3 + 1) L)
    (g2 : vp_in (l3 + 2) L)
    (g3 : vp_in (l3 + 3) L)
    (k4 : zCall d zm_Boats_send [.ref 0, .int (xs (l3 + 1).toNatClampNeg), .int (xs (l3 + 2).toNatClampNeg), .int (xs (l3 + 3).toNatClampNeg)] (X, (0, 0), zLay, K, B, M) (zGo d 12 false 2 zc_law F 1016 [.ref 1000, .ref 0, .ref 71, .int l3] [] b)) :
    zEx (zCall d) 12 false 2 zc_law F 997 [.ref 1000, .ref 0, .ref 71, .int l3] [] (X, b, zLay, K, B, M) :=
  zr_aload_n 998 rfl rfl rfl <| zr_aload_n 999 rfl rfl rfl <| zr_iload_n 1000 rfl rfl rfl <| zr_iconst 1001 rfl rfl <| zr_ibin 1002 rfl rfl rfl <| zr_iaX 1003 rfl rfl rfl hX0 g1 <| zr_aload_n 1004 rfl rfl rfl <| zr_iload_n 1005 rfl rfl rfl <| zr_iconst 1006 rfl rfl <| zr_ibin 1007 rfl rfl rfl <| zr_iaX 1008 rfl rfl rfl hX0 g2 <| zr_aload_n 1009 rfl rfl rfl <| zr_iload_n 1010 rfl rfl rfl <| zr_iconst 1011 rfl rfl <| zr_ibin 1012 rfl rfl rfl <| zr_iaX 1013 rfl rfl rfl hX0 g3 <| zr_virt 1016 rfl rfl rfl rfl rfl rfl rfl rfl <| k4
theorem zb_law_1016 {d : Nat} {F : Option Value → zS → Prop} {X : zX} {b : Nat × Nat} {K : Nat → Nat → Option Nat} {B : Nat → Nat → Int64} {M : Nat → Nat → Int32} {L : Nat} {xs : Nat → Int32} (hX0 : X 1000 = some (L, xs))  (l3 : Int32) (s0 : Int32) 
    (g1 : vp_in (l3 + 1) L)
    (g2 : vp_in (l3 + 2) L)
    (g3 : vp_in (l3 + 3) L)
    (k4 : zCall d zm_Model_send [.ref 71, .int (xs (l3 + 1).toNatClampNeg), .int (xs (l3 + 2).toNatClampNeg), .int (xs (l3 + 3).toNatClampNeg)] (X, (0, 0), zLay, K, B, M) (zGo d 12 false 2 zc_law F 1035 [.ref 1000, .ref 0, .ref 71, .int l3] [.int s0] b)) :
    zEx (zCall d) 12 false 2 zc_law F 1016 [.ref 1000, .ref 0, .ref 71, .int l3] [.int s0] (X, b, zLay, K, B, M) :=
  zr_aload_n 1017 rfl rfl rfl <| zr_aload_n 1018 rfl rfl rfl <| zr_iload_n 1019 rfl rfl rfl <| zr_iconst 1020 rfl rfl <| zr_ibin 1021 rfl rfl rfl <| zr_iaX 1022 rfl rfl rfl hX0 g1 <| zr_aload_n 1023 rfl rfl rfl <| zr_iload_n 1024 rfl rfl rfl <| zr_iconst 1025 rfl rfl <| zr_ibin 1026 rfl rfl rfl <| zr_iaX 1027 rfl rfl rfl hX0 g2 <| zr_aload_n 1028 rfl rfl rfl <| zr_iload_n 1029 rfl rfl rfl <| zr_iconst 1030 rfl rfl <| zr_ibin 1031 rfl rfl rfl <| zr_iaX 1032 rfl rfl rfl hX0 g3 <| zr_virt 1035 rfl rfl rfl rfl rfl rfl rfl rfl <| k4
theorem zb_law_1035 {d : Nat} {F : Option Value → zS → Prop} {X : zX} {b : Nat × Nat} {K : Nat → Nat → Option Nat} {B : Nat → Nat → Int64} {M : Nat → Nat → Int32} {L : Nat} {xs : Nat → Int32} (hX0 : X 1000 = some (L, xs))  (l3 : Int32) (s0 : Int32) (s1 : Int32) 
    (k1 : (s1 = s0) → zEx (zCall d) 12 false 2 zc_law F 1271 [.ref 1000, .ref 0, .ref 71, .int l3] [] (X, b, zLay, K, B, M))
    (k2 : (¬ s1 = s0) → F (some (.int 0)) (X, b, zLay, K, B, M)) :
    zEx (zCall d) 12 false 2 zc_law F 1035 [.ref 1000, .ref 0, .ref 71, .int l3] [.int s0, .int s1] (X, b, zLay, K, B, M) :=
  zr_ic 1038 rfl rfl (fun c1035_0 => (k1 c1035_0)) (fun c1035_0 => zr_iconst 1039 rfl rfl <| zr_zreturn rfl rfl (Or.inl rfl) (k2 c1035_0))
theorem zb_law_1040 {d : Nat} {F : Option Value → zS → Prop} {X : zX} {b : Nat × Nat} {K : Nat → Nat → Option Nat} {B : Nat → Nat → Int64} {M : Nat → Nat → Int32} {L : Nat} {xs : Nat → Int32} (hX0 : X 1000 = some (L, xs))  (l3 : Int32) 
    (g1 : vp_in (l3 + 1) L)
    (g2 : vp_in (l3 + 2) L)
    (k3 : zCall d zm_Boats_appeal [.ref 0, .int (xs (l3 + 1).toNatClampNeg), .int (xs (l3 + 2).toNatClampNeg)] (X, (0, 0), zLay, K, B, M) (zGo d 12 false 2 zc_law F 1054 [.ref 1000, .ref 0, .ref 71, .int l3] [] b)) :
    zEx (zCall d) 12 false 2 zc_law F 1040 [.ref 1000, .ref 0, .ref 71, .int l3] [] (X, b, zLay, K, B, M) :=
  zr_aload_n 1041 rfl rfl rfl <| zr_aload_n 1042 rfl rfl rfl <| zr_iload_n 1043 rfl rfl rfl <| zr_iconst 1044 rfl rfl <| zr_ibin 1045 rfl rfl rfl <| zr_iaX 1046 rfl rfl rfl hX0 g1 <| zr_aload_n 1047 rfl rfl rfl <| zr_iload_n 1048 rfl rfl rfl <| zr_iconst 1049 rfl rfl <| zr_ibin 1050 rfl rfl rfl <| zr_iaX 1051 rfl rfl rfl hX0 g2 <| zr_virt 1054 rfl rfl rfl rfl rfl rfl rfl rfl <| k3
theorem zb_law_1054 {d : Nat} {F : Option Value → zS → Prop} {X : zX} {b : Nat × Nat} {K : Nat → Nat → Option Nat} {B : Nat → Nat → Int64} {M : Nat → Nat → Int32} {L : Nat} {xs : Nat → Int32} (hX0 : X 1000 = some (L, xs))  (l3 : Int32) (s0 : Int32) 
    (g1 : vp_in (l3 + 1) L)
    (g2 : vp_in (l3 + 2) L)
    (k3 : zCall d zm_Model_appeal [.ref 71, .int (xs (l3 + 1).toNatClampNeg), .int (xs (l3 + 2).toNatClampNeg)] (X, (0, 0), zLay, K, B, M) (zGo d 12 false 2 zc_law F 1068 [.ref 1000, .ref 0, .ref 71, .int l3] [.int s0] b)) :
    zEx (zCall d) 12 false 2 zc_law F 1054 [.ref 1000, .ref 0, .ref 71, .int l3] [.int s0] (X, b, zLay, K, B, M) :=
  zr_aload_n 1055 rfl rfl rfl <| zr_aload_n 1056 rfl rfl rfl <| zr_iload_n 1057 rfl rfl rfl <| zr_iconst 1058 rfl rfl <| zr_ibin 1059 rfl rfl rfl <| zr_iaX 1060 rfl rfl rfl hX0 g1 <| zr_aload_n 1061 rfl rfl rfl <| zr_iload_n 1062 rfl rfl rfl <| zr_iconst 1063 rfl rfl <| zr_ibin 1064 rfl rfl rfl <| zr_iaX 1065 rfl rfl rfl hX0 g2 <| zr_virt 1068 rfl rfl rfl rfl rfl rfl rfl rfl <| k3
theorem zb_law_1068 {d : Nat} {F : Option Value → zS → Prop} {X : zX} {b : Nat × Nat} {K : Nat → Nat → Option Nat} {B : Nat → Nat → Int64} {M : Nat → Nat → Int32} {L : Nat} {xs : Nat → Int32} (hX0 : X 1000 = some (L, xs))  (l3 : Int32) (s0 : Int32) (s1 : Int32) 
    (k1 : (s1 = s0) → zEx (zCall d) 12 false 2 zc_law F 1271 [.ref 1000, .ref 0, .ref 71, .int l3] [] (X, b, zLay, K, B, M))
    (k2 : (¬ s1 = s0) → F (some (.int 0)) (X, b, zLay, K, B, M)) :
    zEx (zCall d) 12 false 2 zc_law F 1068 [.ref 1000, .ref 0, .ref 71, .int l3] [.int s0, .int s1] (X, b, zLay, K, B, M) :=
  zr_ic 1071 rfl rfl (fun c1068_0 => (k1 c1068_0)) (fun c1068_0 => zr_iconst 1072 rfl rfl <| zr_zreturn rfl rfl (Or.inl rfl) (k2 c1068_0))
theorem zb_law_1073 {d : Nat} {F : Option Value → zS → Prop} {X : zX} {b : Nat × Nat} {K : Nat → Nat → Option Nat} {B : Nat → Nat → Int64} {M : Nat → Nat → Int32} {L : Nat} {xs : Nat → Int32} (hX0 : X 1000 = some (L, xs))  (l3 : Int32) 
    (g1 : vp_in (l3 + 1) L)
    (g2 : vp_in (l3 + 2) L)
    (g3 : vp_in (l3 + 3) L)
    (g4 : vp_in (l3 + 4) L)
    (k5 : zCall d zm_Boats_crowd [.ref 0, .int (xs (l3 + 1).toNatClampNeg), .int (xs (l3 + 2).toNatClampNeg), .int (xs (l3 + 3).toNatClampNeg), .int (xs (l3 + 4).toNatClampNeg)] (X, (0, 0), zLay, K, B, M) (zGo d 12 false 2 zc_law F 1097 [.ref 1000, .ref 0, .ref 71, .int l3] [] b)) :
    zEx (zCall d) 12 false 2 zc_law F 1073 [.ref 1000, .ref 0, .ref 71, .int l3] [] (X, b, zLay, K, B, M) :=
  zr_aload_n 1074 rfl rfl rfl <| zr_aload_n 1075 rfl rfl rfl <| zr_iload_n 1076 rfl rfl rfl <| zr_iconst 1077 rfl rfl <| zr_ibin 1078 rfl rfl rfl <| zr_iaX 1079 rfl rfl rfl hX0 g1 <| zr_aload_n 1080 rfl rfl rfl <| zr_iload_n 1081 rfl rfl rfl <| zr_iconst 1082 rfl rfl <| zr_ibin 1083 rfl rfl rfl <| zr_iaX 1084 rfl rfl rfl hX0 g2 <| zr_aload_n 1085 rfl rfl rfl <| zr_iload_n 1086 rfl rfl rfl <| zr_iconst 1087 rfl rfl <| zr_ibin 1088 rfl rfl rfl <| zr_iaX 1089 rfl rfl rfl hX0 g3 <| zr_aload_n 1090 rfl rfl rfl <| zr_iload_n 1091 rfl rfl rfl <| zr_iconst 1092 rfl rfl <| zr_ibin 1093 rfl rfl rfl <| zr_iaX 1094 rfl rfl rfl hX0 g4 <| zr_virt 1097 rfl rfl rfl rfl rfl rfl rfl rfl <| k5
theorem zb_law_1097 {d : Nat} {F : Option Value → zS → Prop} {X : zX} {b : Nat × Nat} {K : Nat → Nat → Option Nat} {B : Nat → Nat → Int64} {M : Nat → Nat → Int32} {L : Nat} {xs : Nat → Int32} (hX0 : X 1000 = some (L, xs))  (l3 : Int32) (s0 : Int32) 
    (g1 : vp_in (l3 + 1) L)
    (g2 : vp_in (l3 + 2) L)
    (g3 : vp_in (l3 + 3) L)
    (g4 : vp_in (l3 + 4) L)
    (k5 : zCall d zm_Model_crowd [.ref 71, .int (xs (l3 + 1).toNatClampNeg), .int (xs (l3 + 2).toNatClampNeg), .int (xs (l3 + 3).toNatClampNeg), .int (xs (l3 + 4).toNatClampNeg)] (X, (0, 0), zLay, K, B, M) (zGo d 12 false 2 zc_law F 1121 [.ref 1000, .ref 0, .ref 71, .int l3] [.int s0] b)) :
    zEx (zCall d) 12 false 2 zc_law F 1097 [.ref 1000, .ref 0, .ref 71, .int l3] [.int s0] (X, b, zLay, K, B, M) :=
  zr_aload_n 1098 rfl rfl rfl <| zr_aload_n 1099 rfl rfl rfl <| zr_iload_n 1100 rfl rfl rfl <| zr_iconst 1101 rfl rfl <| zr_ibin 1102 rfl rfl rfl <| zr_iaX 1103 rfl rfl rfl hX0 g1 <| zr_aload_n 1104 rfl rfl rfl <| zr_iload_n 1105 rfl rfl rfl <| zr_iconst 1106 rfl rfl <| zr_ibin 1107 rfl rfl rfl <| zr_iaX 1108 rfl rfl rfl hX0 g2 <| zr_aload_n 1109 rfl rfl rfl <| zr_iload_n 1110 rfl rfl rfl <| zr_iconst 1111 rfl rfl <| zr_ibin 1112 rfl rfl rfl <| zr_iaX 1113 rfl rfl rfl hX0 g3 <| zr_aload_n 1114 rfl rfl rfl <| zr_iload_n 1115 rfl rfl rfl <| zr_iconst 1116 rfl rfl <| zr_ibin 1117 rfl rfl rfl <| zr_iaX 1118 rfl rfl rfl hX0 g4 <| zr_virt 1121 rfl rfl rfl rfl rfl rfl rfl rfl <| k5
theorem zb_law_1121 {d : Nat} {F : Option Value → zS → Prop} {X : zX} {b : Nat × Nat} {K : Nat → Nat → Option Nat} {B : Nat → Nat → Int64} {M : Nat → Nat → Int32} {L : Nat} {xs : Nat → Int32} (hX0 : X 1000 = some (L, xs))  (l3 : Int32) (s0 : Int32) (s1 : Int32) 
    (k1 : (s1 = s0) → zEx (zCall d) 12 false 2 zc_law F 1271 [.ref 1000, .ref 0, .ref 71, .int l3] [] (X, b, zLay, K, B, M))
    (k2 : (¬ s1 = s0) → F (some (.int 0)) (X, b, zLay, K, B, M)) :
    zEx (zCall d) 12 false 2 zc_law F 1121 [.ref 1000, .ref 0, .ref 71, .int l3] [.int s0, .int s1] (X, b, zLay, K, B, M) :=
  zr_ic 1124 rfl rfl (fun c1121_0 => (k1 c1121_0)) (fun c1121_0 => zr_iconst 1125 rfl rfl <| zr_zreturn rfl rfl (Or.inl rfl) (k2 c1121_0))
theorem zb_law_1126 {d : Nat} {F : Option Value → zS → Prop} {X : zX} {b : Nat × Nat} {K : Nat → Nat → Option Nat} {B : Nat → Nat → Int64} {M : Nat → Nat → Int32} {L : Nat} {xs : Nat → Int32} (hX0 : X 1000 = some (L, xs))  (l3 : Int32) 
    (g1 : vp_in (l3 + 1) L)
    (g2 : vp_in (l3 + 2) L)
    (g3 : vp_in (l3 + 3) L)
    (k4 : zCall d zm_Boats_tied [.ref 0, .int (xs (l3 + 1).toNatClampNeg), .int (xs (l3 + 2).toNatClampNeg), .int (xs (l3 + 3).toNatClampNeg)] (X, (0, 0), zLay, K, B, M) (zGo d 12 false 2 zc_law F 1145 [.ref 1000, .ref 0, .ref 71, .int l3] [] b)) :
    zEx (zCall d) 12 false 2 zc_law F 1126 [.ref 1000, .ref 0, .ref 71, .int l3] [] (X, b, zLay, K, B, M) :=
  zr_aload_n 1127 rfl rfl rfl <| zr_aload_n 1128 rfl rfl rfl <| zr_iload_n 1129 rfl rfl rfl <| zr_iconst 1130 rfl rfl <| zr_ibin 1131 rfl rfl rfl <| zr_iaX 1132 rfl rfl rfl hX0 g1 <| zr_aload_n 1133 rfl rfl rfl <| zr_iload_n 1134 rfl rfl rfl <| zr_iconst 1135 rfl rfl <| zr_ibin 1136 rfl rfl rfl <| zr_iaX 1137 rfl rfl rfl hX0 g2 <| zr_aload_n 1138 rfl rfl rfl <| zr_iload_n 1139 rfl rfl rfl <| zr_iconst 1140 rfl rfl <| zr_ibin 1141 rfl rfl rfl <| zr_iaX 1142 rfl rfl rfl hX0 g3 <| zr_virt 1145 rfl rfl rfl rfl rfl rfl rfl rfl <| k4
theorem zb_law_1145 {d : Nat} {F : Option Value → zS → Prop} {X : zX} {b : Nat × Nat} {K : Nat → Nat → Option Nat} {B : Nat → Nat → Int64} {M : Nat → Nat → Int32} {L : Nat} {xs : Nat → Int32} (hX0 : X 1000 = some (L, xs))  (l3 : Int32) (s0 : Int32) 
    (g1 : vp_in (l3 + 1) L)
    (g2 : vp_in (l3 + 2) L)
    (g3 : vp_in (l3 + 3) L)
    (k4 : zCall d zm_Model_tied [.ref 71, .int (xs (l3 + 1).toNatClampNeg), .int (xs (l3 + 2).toNatClampNeg), .int (xs (l3 + 3).toNatClampNeg)] (X, (0, 0), zLay, K, B, M) (zGo d 12 false 2 zc_law F 1164 [.ref 1000, .ref 0, .ref 71, .int l3] [.int s0] b)) :
    zEx (zCall d) 12 false 2 zc_law F 1145 [.ref 1000, .ref 0, .ref 71, .int l3] [.int s0] (X, b, zLay, K, B, M) :=
  zr_aload_n 1146 rfl rfl rfl <| zr_aload_n 1147 rfl rfl rfl <| zr_iload_n 1148 rfl rfl rfl <| zr_iconst 1149 rfl rfl <| zr_ibin 1150 rfl rfl rfl <| zr_iaX 1151 rfl rfl rfl hX0 g1 <| zr_aload_n 1152 rfl rfl rfl <| zr_iload_n 1153 rfl rfl rfl <| zr_iconst 1154 rfl rfl <| zr_ibin 1155 rfl rfl rfl <| zr_iaX 1156 rfl rfl rfl hX0 g2 <| zr_aload_n 1157 rfl rfl rfl <| zr_iload_n 1158 rfl rfl rfl <| zr_iconst 1159 rfl rfl <| zr_ibin 1160 rfl rfl rfl <| zr_iaX 1161 rfl rfl rfl hX0 g3 <| zr_virt 1164 rfl rfl rfl rfl rfl rfl rfl rfl <| k4
theorem zb_law_1164 {d : Nat} {F : Option Value → zS → Prop} {X : zX} {b : Nat × Nat} {K : Nat → Nat → Option Nat} {B : Nat → Nat → Int64} {M : Nat → Nat → Int32} {L : Nat} {xs : Nat → Int32} (hX0 : X 1000 = some (L, xs))  (l3 : Int32) (s0 : Int32) (s1 : Int32) 
    (k1 : (s1 = s0) → zEx (zCall d) 12 false 2 zc_law F 1271 [.ref 1000, .ref 0, .ref 71, .int l3] [] (X, b, zLay, K, B, M))
    (k2 : (¬ s1 = s0) → F (some (.int 0)) (X, b, zLay, K, B, M)) :
    zEx (zCall d) 12 false 2 zc_law F 1164 [.ref 1000, .ref 0, .ref 71, .int l3] [.int s0, .int s1] (X, b, zLay, K, B, M) :=
  zr_ic 1167 rfl rfl (fun c1164_0 => (k1 c1164_0)) (fun c1164_0 => zr_iconst 1168 rfl rfl <| zr_zreturn rfl rfl (Or.inl rfl) (k2 c1164_0))
theorem zb_law_1169 {d : Nat} {F : Option Value → zS → Prop} {X : zX} {b : Nat × Nat} {K : Nat → Nat → Option Nat} {B : Nat → Nat → Int64} {M : Nat → Nat → Int32} {L : Nat} {xs : Nat → Int32} (hX0 : X 1000 = some (L, xs))  (l3 : Int32) 
    (g1 : vp_in (l3 + 1) L)
    (g2 : vp_in (l3 + 2) L)
    (g3 : vp_in (l3 + 3) L)
    (g4 : vp_in (l3 + 4) L)
    (k5 : zCall d zm_Boats_swapped [.ref 0, .int (xs (l3 + 1).toNatClampNeg), .int (xs (l3 + 2).toNatClampNeg), .int (xs (l3 + 3).toNatClampNeg), .int (xs (l3 + 4).toNatClampNeg)] (X, (0, 0), zLay, K, B, M) (zGo d 12 false 2 zc_law F 1193 [.ref 1000, .ref 0, .ref 71, .int l3] [] b)) :
    zEx (zCall d) 12 false 2 zc_law F 1169 [.ref 1000, .ref 0, .ref 71, .int l3] [] (X, b, zLay, K, B, M) :=
  zr_aload_n 1170 rfl rfl rfl <| zr_aload_n 1171 rfl rfl rfl <| zr_iload_n 1172 rfl rfl rfl <| zr_iconst 1173 rfl rfl <| zr_ibin 1174 rfl rfl rfl <| zr_iaX 1175 rfl rfl rfl hX0 g1 <| zr_aload_n 1176 rfl rfl rfl <| zr_iload_n 1177 rfl rfl rfl <| zr_iconst 1178 rfl rfl <| zr_ibin 1179 rfl rfl rfl <| zr_iaX 1180 rfl rfl rfl hX0 g2 <| zr_aload_n 1181 rfl rfl rfl <| zr_iload_n 1182 rfl rfl rfl <| zr_iconst 1183 rfl rfl <| zr_ibin 1184 rfl rfl rfl <| zr_iaX 1185 rfl rfl rfl hX0 g3 <| zr_aload_n 1186 rfl rfl rfl <| zr_iload_n 1187 rfl rfl rfl <| zr_iconst 1188 rfl rfl <| zr_ibin 1189 rfl rfl rfl <| zr_iaX 1190 rfl rfl rfl hX0 g4 <| zr_virt 1193 rfl rfl rfl rfl rfl rfl rfl rfl <| k5
theorem zb_law_1193 {d : Nat} {F : Option Value → zS → Prop} {X : zX} {b : Nat × Nat} {K : Nat → Nat → Option Nat} {B : Nat → Nat → Int64} {M : Nat → Nat → Int32} {L : Nat} {xs : Nat → Int32} (hX0 : X 1000 = some (L, xs))  (l3 : Int32) (s0 : Int32) 
    (g1 : vp_in (l3 + 1) L)
    (g2 : vp_in (l3 + 2) L)
    (g3 : vp_in (l3 + 3) L)
    (g4 : vp_in (l3 + 4) L)
    (k5 : zCall d zm_Model_swapped [.ref 71, .int (xs (l3 + 1).toNatClampNeg), .int (xs (l3 + 2).toNatClampNeg), .int (xs (l3 + 3).toNatClampNeg), .int (xs (l3 + 4).toNatClampNeg)] (X, (0, 0), zLay, K, B, M) (zGo d 12 false 2 zc_law F 1217 [.ref 1000, .ref 0, .ref 71, .int l3] [.int s0] b)) :
    zEx (zCall d) 12 false 2 zc_law F 1193 [.ref 1000, .ref 0, .ref 71, .int l3] [.int s0] (X, b, zLay, K, B, M) :=
  zr_aload_n 1194 rfl rfl rfl <| zr_aload_n 1195 rfl rfl rfl <| zr_iload_n 1196 rfl rfl rfl <| zr_iconst 1197 rfl rfl <| zr_ibin 1198 rfl rfl rfl <| zr_iaX 1199 rfl rfl rfl hX0 g1 <| zr_aload_n 1200 rfl rfl rfl <| zr_iload_n 1201 rfl rfl rfl <| zr_iconst 1202 rfl rfl <| zr_ibin 1203 rfl rfl rfl <| zr_iaX 1204 rfl rfl rfl hX0 g2 <| zr_aload_n 1205 rfl rfl rfl <| zr_iload_n 1206 rfl rfl rfl <| zr_iconst 1207 rfl rfl <| zr_ibin 1208 rfl rfl rfl <| zr_iaX 1209 rfl rfl rfl hX0 g3 <| zr_aload_n 1210 rfl rfl rfl <| zr_iload_n 1211 rfl rfl rfl <| zr_iconst 1212 rfl rfl <| zr_ibin 1213 rfl rfl rfl <| zr_iaX 1214 rfl rfl rfl hX0 g4 <| zr_virt 1217 rfl rfl rfl rfl rfl rfl rfl rfl <| k5
theorem zb_law_1217 {d : Nat} {F : Option Value → zS → Prop} {X : zX} {b : Nat × Nat} {K : Nat → Nat → Option Nat} {B : Nat → Nat → Int64} {M : Nat → Nat → Int32} {L : Nat} {xs : Nat → Int32} (hX0 : X 1000 = some (L, xs))  (l3 : Int32) (s0 : Int32) (s1 : Int32) 
    (k1 : (s1 = s0) → zEx (zCall d) 12 false 2 zc_law F 1271 [.ref 1000, .ref 0, .ref 71, .int l3] [] (X, b, zLay, K, B, M))
    (k2 : (¬ s1 = s0) → F (some (.int 0)) (X, b, zLay, K, B, M)) :
    zEx (zCall d) 12 false 2 zc_law F 1217 [.ref 1000, .ref 0, .ref 71, .int l3] [.int s0, .int s1] (X, b, zLay, K, B, M) :=
  zr_ic 1220 rfl rfl (fun c1217_0 => (k1 c1217_0)) (fun c1217_0 => zr_iconst 1221 rfl rfl <| zr_zreturn rfl rfl (Or.inl rfl) (k2 c1217_0))
theorem zb_law_1222 {d : Nat} {F : Option Value → zS → Prop} {X : zX} {b : Nat × Nat} {K : Nat → Nat → Option Nat} {B : Nat → Nat → Int64} {M : Nat → Nat → Int32} {L : Nat} {xs : Nat → Int32} (hX0 : X 1000 = some (L, xs))  (l3 : Int32) 
    (k1 : zCall d zm_Boats_image [.ref 0] (X, (0, 0), zLay, K, B, M) (zGo d 12 false 2 zc_law F 1226 [.ref 1000, .ref 0, .ref 71, .int l3] [] b)) :
    zEx (zCall d) 12 false 2 zc_law F 1222 [.ref 1000, .ref 0, .ref 71, .int l3] [] (X, b, zLay, K, B, M) :=
  zr_aload_n 1223 rfl rfl rfl <| zr_virt 1226 rfl rfl rfl rfl rfl rfl rfl rfl <| k1
theorem zb_law_1226 {d : Nat} {F : Option Value → zS → Prop} {X : zX} {b : Nat × Nat} {K : Nat → Nat → Option Nat} {B : Nat → Nat → Int64} {M : Nat → Nat → Int32} {L : Nat} {xs : Nat → Int32} (hX0 : X 1000 = some (L, xs))  (l3 : Int32) (s0 : Int32) 
    (k1 : zCall d zm_Model_image [.ref 71] (X, (0, 0), zLay, K, B, M) (zGo d 12 false 2 zc_law F 1230 [.ref 1000, .ref 0, .ref 71, .int l3] [.int s0] b)) :
    zEx (zCall d) 12 false 2 zc_law F 1226 [.ref 1000, .ref 0, .ref 71, .int l3] [.int s0] (X, b, zLay, K, B, M) :=
  zr_aload_n 1227 rfl rfl rfl <| zr_virt 1230 rfl rfl rfl rfl rfl rfl rfl rfl <| k1
theorem zb_law_1230 {d : Nat} {F : Option Value → zS → Prop} {X : zX} {b : Nat × Nat} {K : Nat → Nat → Option Nat} {B : Nat → Nat → Int64} {M : Nat → Nat → Int32} {L : Nat} {xs : Nat → Int32} (hX0 : X 1000 = some (L, xs))  (l3 : Int32) (s0 : Int32) (s1 : Int32) 
    (k1 : (s1 = s0) → zEx (zCall d) 12 false 2 zc_law F 1271 [.ref 1000, .ref 0, .ref 71, .int l3] [] (X, b, zLay, K, B, M))
    (k2 : (¬ s1 = s0) → F (some (.int 0)) (X, b, zLay, K, B, M)) :
    zEx (zCall d) 12 false 2 zc_law F 1230 [.ref 1000, .ref 0, .ref 71, .int l3] [.int s0, .int s1] (X, b, zLay, K, B, M) :=
  zr_ic 1233 rfl rfl (fun c1230_0 => (k1 c1230_0)) (fun c1230_0 => zr_iconst 1234 rfl rfl <| zr_zreturn rfl rfl (Or.inl rfl) (k2 c1230_0))
theorem zb_law_1235 {d : Nat} {F : Option Value → zS → Prop} {X : zX} {b : Nat × Nat} {K : Nat → Nat → Option Nat} {B : Nat → Nat → Int64} {M : Nat → Nat → Int32} {L : Nat} {xs : Nat → Int32} (hX0 : X 1000 = some (L, xs))  (l3 : Int32) 
    (k1 : zCall d zm_Boats_back [.ref 0] (X, (0, 0), zLay, K, B, M) (zGo d 12 false 2 zc_law F 1239 [.ref 1000, .ref 0, .ref 71, .int l3] [] b)) :
    zEx (zCall d) 12 false 2 zc_law F 1235 [.ref 1000, .ref 0, .ref 71, .int l3] [] (X, b, zLay, K, B, M) :=
  zr_aload_n 1236 rfl rfl rfl <| zr_virt 1239 rfl rfl rfl rfl rfl rfl rfl rfl <| k1
theorem zb_law_1239 {d : Nat} {F : Option Value → zS → Prop} {X : zX} {b : Nat × Nat} {K : Nat → Nat → Option Nat} {B : Nat → Nat → Int64} {M : Nat → Nat → Int32} {L : Nat} {xs : Nat → Int32} (hX0 : X 1000 = some (L, xs))  (l3 : Int32) (s0 : Int32) 
    (k1 : zCall d zm_Model_back [.ref 71] (X, (0, 0), zLay, K, B, M) (zGo d 12 false 2 zc_law F 1243 [.ref 1000, .ref 0, .ref 71, .int l3] [.int s0] b)) :
    zEx (zCall d) 12 false 2 zc_law F 1239 [.ref 1000, .ref 0, .ref 71, .int l3] [.int s0] (X, b, zLay, K, B, M) :=
  zr_aload_n 1240 rfl rfl rfl <| zr_virt 1243 rfl rfl rfl rfl rfl rfl rfl rfl <| k1
theorem zb_law_1243 {d : Nat} {F : Option Value → zS → Prop} {X : zX} {b : Nat × Nat} {K : Nat → Nat → Option Nat} {B : Nat → Nat → Int64} {M : Nat → Nat → Int32} {L : Nat} {xs : Nat → Int32} (hX0 : X 1000 = some (L, xs))  (l3 : Int32) (s0 : Int32) (s1 : Int32) 
    (k1 : (s1 = s0) → zEx (zCall d) 12 false 2 zc_law F 1271 [.ref 1000, .ref 0, .ref 71, .int l3] [] (X, b, zLay, K, B, M))
    (k2 : (¬ s1 = s0) → F (some (.int 0)) (X, b, zLay, K, B, M)) :
    zEx (zCall d) 12 false 2 zc_law F 1243 [.ref 1000, .ref 0, .ref 71, .int l3] [.int s0, .int s1] (X, b, zLay, K, B, M) :=
  zr_ic 1246 rfl rfl (fun c1243_0 => (k1 c1243_0)) (fun c1243_0 => zr_iconst 1247 rfl rfl <| zr_zreturn rfl rfl (Or.inl rfl) (k2 c1243_0))
theorem zb_law_1248 {d : Nat} {F : Option Value → zS → Prop} {X : zX} {b : Nat × Nat} {K : Nat → Nat → Option Nat} {B : Nat → Nat → Int64} {M : Nat → Nat → Int32} {L : Nat} {xs : Nat → Int32} (hX0 : X 1000 = some (L, xs))  (l3 : Int32) 
    (g1 : vp_in (l3 + 1) L)
    (k2 : zCall d zm_Boats_about [.ref 0, .int (xs (l3 + 1).toNatClampNeg)] (X, (0, 0), zLay, K, B, M) (zGo d 12 false 2 zc_law F 1257 [.ref 1000, .ref 0, .ref 71, .int l3] [] b)) :
    zEx (zCall d) 12 false 2 zc_law F 1248 [.ref 1000, .ref 0, .ref 71, .int l3] [] (X, b, zLay, K, B, M) :=
  zr_aload_n 1249 rfl rfl rfl <| zr_aload_n 1250 rfl rfl rfl <| zr_iload_n 1251 rfl rfl rfl <| zr_iconst 1252 rfl rfl <| zr_ibin 1253 rfl rfl rfl <| zr_iaX 1254 rfl rfl rfl hX0 g1 <| zr_virt 1257 rfl rfl rfl rfl rfl rfl rfl rfl <| k2
theorem zb_law_1257 {d : Nat} {F : Option Value → zS → Prop} {X : zX} {b : Nat × Nat} {K : Nat → Nat → Option Nat} {B : Nat → Nat → Int64} {M : Nat → Nat → Int32} {L : Nat} {xs : Nat → Int32} (hX0 : X 1000 = some (L, xs))  (l3 : Int32) (s0 : Int32) 
    (g1 : vp_in (l3 + 1) L)
    (k2 : zCall d zm_Model_about [.ref 71, .int (xs (l3 + 1).toNatClampNeg)] (X, (0, 0), zLay, K, B, M) (zGo d 12 false 2 zc_law F 1266 [.ref 1000, .ref 0, .ref 71, .int l3] [.int s0] b)) :
    zEx (zCall d) 12 false 2 zc_law F 1257 [.ref 1000, .ref 0, .ref 71, .int l3] [.int s0] (X, b, zLay, K, B, M) :=
  zr_aload_n 1258 rfl rfl rfl <| zr_aload_n 1259 rfl rfl rfl <| zr_iload_n 1260 rfl rfl rfl <| zr_iconst 1261 rfl rfl <| zr_ibin 1262 rfl rfl rfl <| zr_iaX 1263 rfl rfl rfl hX0 g1 <| zr_virt 1266 rfl rfl rfl rfl rfl rfl rfl rfl <| k2
theorem zb_law_1266 {d : Nat} {F : Option Value → zS → Prop} {X : zX} {b : Nat × Nat} {K : Nat → Nat → Option Nat} {B : Nat → Nat → Int64} {M : Nat → Nat → Int32} {L : Nat} {xs : Nat → Int32} (hX0 : X 1000 = some (L, xs))  (l3 : Int32) (s0 : Int32) (s1 : Int32) 
    (k1 : (s1 = s0) → zEx (zCall d) 12 false 2 zc_law F 1271 [.ref 1000, .ref 0, .ref 71, .int l3] [] (X, b, zLay, K, B, M))
    (k2 : (¬ s1 = s0) → F (some (.int 0)) (X, b, zLay, K, B, M)) :
    zEx (zCall d) 12 false 2 zc_law F 1266 [.ref 1000, .ref 0, .ref 71, .int l3] [.int s0, .int s1] (X, b, zLay, K, B, M) :=
  zr_ic 1269 rfl rfl (fun c1266_0 => (k1 c1266_0)) (fun c1266_0 => zr_iconst 1270 rfl rfl <| zr_zreturn rfl rfl (Or.inl rfl) (k2 c1266_0))
theorem zb_law_1271 {d : Nat} {F : Option Value → zS → Prop} {X : zX} {b : Nat × Nat} {K : Nat → Nat → Option Nat} {B : Nat → Nat → Int64} {M : Nat → Nat → Int32} {L : Nat} {xs : Nat → Int32} (hX0 : X 1000 = some (L, xs))  (l3 : Int32) 
    (k1 : zEx (zCall d) 12 false 2 zc_law F 18 [.ref 1000, .ref 0, .ref 71, .int (l3 + 6)] [] (X, b, zLay, K, B, M)) :
    zEx (zCall d) 12 false 2 zc_law F 1271 [.ref 1000, .ref 0, .ref 71, .int l3] [] (X, b, zLay, K, B, M) :=
  zr_iinc 1274 [.ref 1000, .ref 0, .ref 71, .int (l3 + 6)] rfl rfl (Nat.le_of_ble_eq_true rfl) rfl rfl <| zr_goto rfl <| k1
/-- what an operation owes: class and reference give one answer, and what holds between them stays -/
def zOp (Inv : (Nat → Nat → Option Nat) → (Nat → Nat → Int64) → (Nat → Nat → Int32) → Prop) (X : zX) (mx mm : Nat) (as : List Value) : Prop := ∀ (d : Nat) (K : Nat → Nat → Option Nat) (B : Nat → Nat → Int64) (M : Nat → Nat → Int32), Inv K B M →
  zCall (d + 200) mx (.ref 0 :: as) (X, (0, 0), zLay, K, B, M) (fun v S1 => ∃ (x : Int32) (K1 : Nat → Nat → Option Nat) (B1 : Nat → Nat → Int64) (M1 : Nat → Nat → Int32), v = some (.int x) ∧ S1 = (X, (0, 0), zLay, K1, B1, M1) ∧
    zCall (d + 200) mm (.ref 71 :: as) (X, (0, 0), zLay, K1, B1, M1) (fun v' S2 => ∃ (K2 : Nat → Nat → Option Nat) (B2 : Nat → Nat → Int64) (M2 : Nat → Nat → Int32), v' = some (.int x) ∧ S2 = (X, (0, 0), zLay, K2, B2, M2) ∧ Inv K2 B2 M2))
def zOps (Inv : (Nat → Nat → Option Nat) → (Nat → Nat → Int64) → (Nat → Nat → Int32) → Prop) (L : Nat) (xs : Nat → Int32) : Prop :=
  (∀ a0 : Int32, zOp Inv (zX0 L xs) zm_Boats_place zm_Model_place [.int a0]) ∧
  (∀ a0 a1 a2 : Int32, zOp Inv (zX0 L xs) zm_Boats_way zm_Model_way [.int a0, .int a1, .int a2]) ∧
  (∀ a0 a1 a2 : Int32, zOp Inv (zX0 L xs) zm_Boats_shut zm_Model_shut [.int a0, .int a1, .int a2]) ∧
  (∀ a0 : Int32, zOp Inv (zX0 L xs) zm_Boats_pace zm_Model_pace [.int a0]) ∧
  ( zOp Inv (zX0 L xs) zm_Boats_boat zm_Model_boat []) ∧
  (∀ a0 a1 a2 a3 : Int32, zOp Inv (zX0 L xs) zm_Boats_seen zm_Model_seen [.int a0, .int a1, .int a2, .int a3]) ∧
  (∀ a0 a1 a2 a3 : Int32, zOp Inv (zX0 L xs) zm_Boats_excuse zm_Model_excuse [.int a0, .int a1, .int a2, .int a3]) ∧
  (∀ a0 a1 a2 a3 a4 : Int32, zOp Inv (zX0 L xs) zm_Boats_feed zm_Model_feed [.int a0, .int a1, .int a2, .int a3, .int a4]) ∧
  (∀ a0 : Int32, zOp Inv (zX0 L xs) zm_Boats_end zm_Model_end [.int a0]) ∧
  ( zOp Inv (zX0 L xs) zm_Boats_text zm_Model_text []) ∧
  (∀ a0 : Int32, zOp Inv (zX0 L xs) zm_Boats_fault zm_Model_fault [.int a0]) ∧
  (∀ a0 a1 a2 : Int32, zOp Inv (zX0 L xs) zm_Boats_miles zm_Model_miles [.int a0, .int a1, .int a2]) ∧
  (∀ a0 a1 : Int32, zOp Inv (zX0 L xs) zm_Boats_round zm_Model_round [.int a0, .int a1]) ∧
  (∀ a0 a1 a2 : Int32, zOp Inv (zX0 L xs) zm_Boats_may zm_Model_may [.int a0, .int a1, .int a2]) ∧
  (∀ a0 a1 a2 : Int32, zOp Inv (zX0 L xs) zm_Boats_known zm_Model_known [.int a0, .int a1, .int a2]) ∧
  (∀ a0 a1 a2 a3 : Int32, zOp Inv (zX0 L xs) zm_Boats_over zm_Model_over [.int a0, .int a1, .int a2, .int a3]) ∧
  (∀ a0 a1 a2 a3 a4 : Int32, zOp Inv (zX0 L xs) zm_Boats_longest zm_Model_longest [.int a0, .int a1, .int a2, .int a3, .int a4]) ∧
  (∀ a0 a1 a2 : Int32, zOp Inv (zX0 L xs) zm_Boats_far zm_Model_far [.int a0, .int a1, .int a2]) ∧
  (∀ a0 a1 a2 : Int32, zOp Inv (zX0 L xs) zm_Boats_shortOf zm_Model_shortOf [.int a0, .int a1, .int a2]) ∧
  (∀ a0 a1 a2 : Int32, zOp Inv (zX0 L xs) zm_Boats_broken zm_Model_broken [.int a0, .int a1, .int a2]) ∧
  (∀ a0 a1 a2 a3 : Int32, zOp Inv (zX0 L xs) zm_Boats_look zm_Model_look [.int a0, .int a1, .int a2, .int a3]) ∧
  (∀ a0 a1 a2 : Int32, zOp Inv (zX0 L xs) zm_Boats_send zm_Model_send [.int a0, .int a1, .int a2]) ∧
  (∀ a0 a1 : Int32, zOp Inv (zX0 L xs) zm_Boats_appeal zm_Model_appeal [.int a0, .int a1]) ∧
  (∀ a0 a1 a2 a3 : Int32, zOp Inv (zX0 L xs) zm_Boats_crowd zm_Model_crowd [.int a0, .int a1, .int a2, .int a3]) ∧
  (∀ a0 a1 a2 : Int32, zOp Inv (zX0 L xs) zm_Boats_tied zm_Model_tied [.int a0, .int a1, .int a2]) ∧
  (∀ a0 a1 a2 a3 : Int32, zOp Inv (zX0 L xs) zm_Boats_swapped zm_Model_swapped [.int a0, .int a1, .int a2, .int a3]) ∧
  ( zOp Inv (zX0 L xs) zm_Boats_image zm_Model_image []) ∧
  ( zOp Inv (zX0 L xs) zm_Boats_back zm_Model_back []) ∧
  (∀ a0 : Int32, zOp Inv (zX0 L xs) zm_Boats_about zm_Model_about [.int a0])
theorem zlaw_c0 {d : Nat} {F : Option Value → zS → Prop} {b : Nat × Nat} {L : Nat} {xs : Nat → Int32} {Inv : (Nat → Nat → Option Nat) → (Nat → Nat → Int64) → (Nat → Nat → Int32) → Prop} {K : Nat → Nat → Option Nat} {B : Nat → Nat → Int64} {M : Nat → Nat → Int32} (i : Int32) (hg : ∀ j : Nat, j < 6 → vp_in (i + nI j) L) (ho : zOp Inv (zX0 L xs) zm_Boats_place zm_Model_place [.int (xs (i + 1).toNatClampNeg)]) (h : Inv K B M)
    (kk : ∀ K B M, Inv K B M → zEx (zCall (d + 200)) 12 false 2 zc_law F 1271 [.ref 1000, .ref 0, .ref 71, .int i] [] (zX0 L xs, b, zLay, K, B, M)) : zEx (zCall (d + 200)) 12 false 2 zc_law F 164 [.ref 1000, .ref 0, .ref 71, .int i] [] (zX0 L xs, b, zLay, K, B, M) := by
  refine zb_law_164 (d := d + 200) (L := L) (xs := xs) rfl i (hg 1 (by decide)) ?_
  refine zCall_m _ _ _ _ _ _ ?_ (ho d K B M h)
  rintro v S1 ⟨x, K1, B1, M1, rfl, rfl, h1⟩
  refine zb_law_173 (d := d + 200) (K := K1) (B := B1) (M := M1) (b := b) (L := L) (xs := xs) rfl i x (hg 1 (by decide)) ?_
  refine zCall_m _ _ _ _ _ _ ?_ h1
  rintro v S2 ⟨K2, B2, M2, rfl, rfl, h2⟩
  exact zb_law_182 (d := d + 200) (K := K2) (B := B2) (M := M2) (b := b) (L := L) (xs := xs) rfl i x x (fun _ => kk K2 B2 M2 h2) (fun hn => absurd rfl hn)
theorem zlaw_c1 {d : Nat} {F : Option Value → zS → Prop} {b : Nat × Nat} {L : Nat} {xs : Nat → Int32} {Inv : (Nat → Nat → Option Nat) → (Nat → Nat → Int64) → (Nat → Nat → Int32) → Prop} {K : Nat → Nat → Option Nat} {B : Nat → Nat → Int64} {M : Nat → Nat → Int32} (i : Int32) (hg : ∀ j : Nat, j < 6 → vp_in (i + nI j) L) (ho : zOp Inv (zX0 L xs) zm_Boats_way zm_Model_way [.int (xs (i + 1).toNatClampNeg), .int (xs (i + 2).toNatClampNeg), .int (xs (i + 3).toNatClampNeg)]) (h : Inv K B M)
    (kk : ∀ K B M, Inv K B M → zEx (zCall (d + 200)) 12 false 2 zc_law F 1271 [.ref 1000, .ref 0, .ref 71, .int i] [] (zX0 L xs, b, zLay, K, B, M)) : zEx (zCall (d + 200)) 12 false 2 zc_law F 187 [.ref 1000, .ref 0, .ref 71, .int i] [] (zX0 L xs, b, zLay, K, B, M) := by
  refine zb_law_187 (d := d + 200) (L := L) (xs := xs) rfl i (hg 1 (by decide)) (hg 2 (by decide)) (hg 3 (by decide)) ?_
  refine zCall_m _ _ _ _ _ _ ?_ (ho d K B M h)
  rintro v S1 ⟨x, K1, B1, M1, rfl, rfl, h1⟩
  refine zb_law_206 (d := d + 200) (K := K1) (B := B1) (M := M1) (b := b) (L := L) (xs := xs) rfl i x (hg 1 (by decide)) (hg 2 (by decide)) (hg 3 (by decide)) ?_
  refine zCall_m _ _ _ _ _ _ ?_ h1
  rintro v S2 ⟨K2, B2, M2, rfl, rfl, h2⟩
  exact zb_law_225 (d := d + 200) (K := K2) (B := B2) (M := M2) (b := b) (L := L) (xs := xs) rfl i x x (fun _ => kk K2 B2 M2 h2) (fun hn => absurd rfl hn)
theorem zlaw_c2 {d : Nat} {F : Option Value → zS → Prop} {b : Nat × Nat} {L : Nat} {xs : Nat → Int32} {Inv : (Nat → Nat → Option Nat) → (Nat → Nat → Int64) → (Nat → Nat → Int32) → Prop} {K : Nat → Nat → Option Nat} {B : Nat → Nat → Int64} {M : Nat → Nat → Int32} (i : Int32) (hg : ∀ j : Nat, j < 6 → vp_in (i + nI j) L) (ho : zOp Inv (zX0 L xs) zm_Boats_shut zm_Model_shut [.int (xs (i + 1).toNatClampNeg), .int (xs (i + 2).toNatClampNeg), .int (xs (i + 3).toNatClampNeg)]) (h : Inv K B M)
    (kk : ∀ K B M, Inv K B M → zEx (zCall (d + 200)) 12 false 2 zc_law F 1271 [.ref 1000, .ref 0, .ref 71, .int i] [] (zX0 L xs, b, zLay, K, B, M)) : zEx (zCall (d + 200)) 12 false 2 zc_law F 230 [.ref 1000, .ref 0, .ref 71, .int i] [] (zX0 L xs, b, zLay, K, B, M) := by
  refine zb_law_230 (d := d + 200) (L := L) (xs := xs) rfl i (hg 1 (by decide)) (hg 2 (by decide)) (hg 3 (by decide)) ?_
  refine zCall_m _ _ _ _ _ _ ?_ (ho d K B M h)
  rintro v S1 ⟨x, K1, B1, M1, rfl, rfl, h1⟩
  refine zb_law_249 (d := d + 200) (K := K1) (B := B1) (M := M1) (b := b) (L := L) (xs := xs) rfl i x (hg 1 (by decide)) (hg 2 (by decide)) (hg 3 (by decide)) ?_
  refine zCall_m _ _ _ _ _ _ ?_ h1
  rintro v S2 ⟨K2, B2, M2, rfl, rfl, h2⟩
  exact zb_law_268 (d := d + 200) (K := K2) (B := B2) (M := M2) (b := b) (L := L) (xs := xs) rfl i x x (fun _ => kk K2 B2 M2 h2) (fun hn => absurd rfl hn)
theorem zlaw_c3 {d : Nat} {F : Option Value → zS → Prop} {b : Nat × Nat} {L : Nat} {xs : Nat → Int32} {Inv : (Nat → Nat → Option Nat) → (Nat → Nat → Int64) → (Nat → Nat → Int32) → Prop} {K : Nat → Nat → Option Nat} {B : Nat → Nat → Int64} {M : Nat → Nat → Int32} (i : Int32) (hg : ∀ j : Nat, j < 6 → vp_in (i + nI j) L) (ho : zOp Inv (zX0 L xs) zm_Boats_pace zm_Model_pace [.int (xs (i + 1).toNatClampNeg)]) (h : Inv K B M)
    (kk : ∀ K B M, Inv K B M → zEx (zCall (d + 200)) 12 false 2 zc_law F 1271 [.ref 1000, .ref 0, .ref 71, .int i] [] (zX0 L xs, b, zLay, K, B, M)) : zEx (zCall (d + 200)) 12 false 2 zc_law F 273 [.ref 1000, .ref 0, .ref 71, .int i] [] (zX0 L xs, b, zLay, K, B, M) := by
  refine zb_law_273 (d := d + 200) (L := L) (xs := xs) rfl i (hg 1 (by decide)) ?_
  refine zCall_m _ _ _ _ _ _ ?_ (ho d K B M h)
  rintro v S1 ⟨x, K1, B1, M1, rfl, rfl, h1⟩
  refine zb_law_282 (d := d + 200) (K := K1) (B := B1) (M := M1) (b := b) (L := L) (xs := xs) rfl i x (hg 1 (by decide)) ?_
  refine zCall_m _ _ _ _ _ _ ?_ h1
  rintro v S2 ⟨K2, B2, M2, rfl, rfl, h2⟩
  exact zb_law_291 (d := d + 200) (K := K2) (B := B2) (M := M2) (b := b) (L := L) (xs := xs) rfl i x x (fun _ => kk K2 B2 M2 h2) (fun hn => absurd rfl hn)
theorem zlaw_c4 {d : Nat} {F : Option Value → zS → Prop} {b : Nat × Nat} {L : Nat} {xs : Nat → Int32} {Inv : (Nat → Nat → Option Nat) → (Nat → Nat → Int64) → (Nat → Nat → Int32) → Prop} {K : Nat → Nat → Option Nat} {B : Nat → Nat → Int64} {M : Nat → Nat → Int32} (i : Int32) (hg : ∀ j : Nat, j < 6 → vp_in (i + nI j) L) (ho : zOp Inv (zX0 L xs) zm_Boats_boat zm_Model_boat []) (h : Inv K B M)
    (kk : ∀ K B M, Inv K B M → zEx (zCall (d + 200)) 12 false 2 zc_law F 1271 [.ref 1000, .ref 0, .ref 71, .int i] [] (zX0 L xs, b, zLay, K, B, M)) : zEx (zCall (d + 200)) 12 false 2 zc_law F 296 [.ref 1000, .ref 0, .ref 71, .int i] [] (zX0 L xs, b, zLay, K, B, M) := by
  refine zb_law_296 (d := d + 200) (L := L) (xs := xs) rfl i  ?_
  refine zCall_m _ _ _ _ _ _ ?_ (ho d K B M h)
  rintro v S1 ⟨x, K1, B1, M1, rfl, rfl, h1⟩
  refine zb_law_300 (d := d + 200) (K := K1) (B := B1) (M := M1) (b := b) (L := L) (xs := xs) rfl i x  ?_
  refine zCall_m _ _ _ _ _ _ ?_ h1
  rintro v S2 ⟨K2, B2, M2, rfl, rfl, h2⟩
  exact zb_law_304 (d := d + 200) (K := K2) (B := B2) (M := M2) (b := b) (L := L) (xs := xs) rfl i x x (fun _ => kk K2 B2 M2 h2) (fun hn => absurd rfl hn)
theorem zlaw_c5 {d : Nat} {F : Option Value → zS → Prop} {b : Nat × Nat} {L : Nat} {xs : Nat → Int32} {Inv : (Nat → Nat → Option Nat) → (Nat → Nat → Int64) → (Nat → Nat → Int32) → Prop} {K : Nat → Nat → Option Nat} {B : Nat → Nat → Int64} {M : Nat → Nat → Int32} (i : Int32) (hg : ∀ j : Nat, j < 6 → vp_in (i + nI j) L) (ho : zOp Inv (zX0 L xs) zm_Boats_seen zm_Model_seen [.int (xs (i + 1).toNatClampNeg), .int (xs (i + 2).toNatClampNeg), .int (xs (i + 3).toNatClampNeg), .int (xs (i + 4).toNatClampNeg)]) (h : Inv K B M)
    (kk : ∀ K B M, Inv K B M → zEx (zCall (d + 200)) 12 false 2 zc_law F 1271 [.ref 1000, .ref 0, .ref 71, .int i] [] (zX0 L xs, b, zLay, K, B, M)) : zEx (zCall (d + 200)) 12 false 2 zc_law F 309 [.ref 1000, .ref 0, .ref 71, .int i] [] (zX0 L xs, b, zLay, K, B, M) := by
  refine zb_law_309 (d := d + 200) (L := L) (xs := xs) rfl i (hg 1 (by decide)) (hg 2 (by decide)) (hg 3 (by decide)) (hg 4 (by decide)) ?_
  refine zCall_m _ _ _ _ _ _ ?_ (ho d K B M h)
  rintro v S1 ⟨x, K1, B1, M1, rfl, rfl, h1⟩
  refine zb_law_333 (d := d + 200) (K := K1) (B := B1) (M := M1) (b := b) (L := L) (xs := xs) rfl i x (hg 1 (by decide)) (hg 2 (by decide)) (hg 3 (by decide)) (hg 4 (by decide)) ?_
  refine zCall_m _ _ _ _ _ _ ?_ h1
  rintro v S2 ⟨K2, B2, M2, rfl, rfl, h2⟩
  exact zb_law_357 (d := d + 200) (K := K2) (B := B2) (M := M2) (b := b) (L := L) (xs := xs) rfl i x x (fun _ => kk K2 B2 M2 h2) (fun hn => absurd rfl hn)
theorem zlaw_c6 {d : Nat} {F : Option Value → zS → Prop} {b : Nat × Nat} {L : Nat} {xs : Nat → Int32} {Inv : (Nat → Nat → Option Nat) → (Nat → Nat → Int64) → (Nat → Nat → Int32) → Prop} {K : Nat → Nat → Option Nat} {B : Nat → Nat → Int64} {M : Nat → Nat → Int32} (i : Int32) (hg : ∀ j : Nat, j < 6 → vp_in (i + nI j) L) (ho : zOp Inv (zX0 L xs) zm_Boats_excuse zm_Model_excuse [.int (xs (i + 1).toNatClampNeg), .int (xs (i + 2).toNatClampNeg), .int (xs (i + 3).toNatClampNeg), .int (xs (i + 4).toNatClampNeg)]) (h : Inv K B M)
    (kk : ∀ K B M, Inv K B M → zEx (zCall (d + 200)) 12 false 2 zc_law F 1271 [.ref 1000, .ref 0, .ref 71, .int i] [] (zX0 L xs, b, zLay, K, B, M)) : zEx (zCall (d + 200)) 12 false 2 zc_law F 362 [.ref 1000, .ref 0, .ref 71, .int i] [] (zX0 L xs, b, zLay, K, B, M) := by
  refine zb_law_362 (d := d + 200) (L := L) (xs := xs) rfl i (hg 1 (by decide)) (hg 2 (by decide)) (hg 3 (by decide)) (hg 4 (by decide)) ?_
  refine zCall_m _ _ _ _ _ _ ?_ (ho d K B M h)
  rintro v S1 ⟨x, K1, B1, M1, rfl, rfl, h1⟩
  refine zb_law_386 (d := d + 200) (K := K1) (B := B1) (M := M1) (b := b) (L := L) (xs := xs) rfl i x (hg 1 (by decide)) (hg 2 (by decide)) (hg 3 (by decide)) (hg 4 (by decide)) ?_
  refine zCall_m _ _ _ _ _ _ ?_ h1
  rintro v S2 ⟨K2, B2, M2, rfl, rfl, h2⟩
  exact zb_law_410 (d := d + 200) (K := K2) (B := B2) (M := M2) (b := b) (L := L) (xs := xs) rfl i x x (fun _ => kk K2 B2 M2 h2) (fun hn => absurd rfl hn)
theorem zlaw_c7 {d : Nat} {F : Option Value → zS → Prop} {b : Nat × Nat} {L : Nat} {xs : Nat → Int32} {Inv : (Nat → Nat → Option Nat) → (Nat → Nat → Int64) → (Nat → Nat → Int32) → Prop} {K : Nat → Nat → Option Nat} {B : Nat → Nat → Int64} {M : Nat → Nat → Int32} (i : Int32) (hg : ∀ j : Nat, j < 6 → vp_in (i + nI j) L) (ho : zOp Inv (zX0 L xs) zm_Boats_feed zm_Model_feed [.int (xs (i + 1).toNatClampNeg), .int (xs (i + 2).toNatClampNeg), .int (xs (i + 3).toNatClampNeg), .int (xs (i + 4).toNatClampNeg), .int (xs (i + 5).toNatClampNeg)]) (h : Inv K B M)
    (kk : ∀ K B M, Inv K B M → zEx (zCall (d + 200)) 12 false 2 zc_law F 1271 [.ref 1000, .ref 0, .ref 71, .int i] [] (zX0 L xs, b, zLay, K, B, M)) : zEx (zCall (d + 200)) 12 false 2 zc_law F 415 [.ref 1000, .ref 0, .ref 71, .int i] [] (zX0 L xs, b, zLay, K, B, M) := by
  refine zb_law_415 (d := d + 200) (L := L) (xs := xs) rfl i (hg 1 (by decide)) (hg 2 (by decide)) (hg 3 (by decide)) (hg 4 (by decide)) (hg 5 (by decide)) ?_
  refine zCall_m _ _ _ _ _ _ ?_ (ho d K B M h)
  rintro v S1 ⟨x, K1, B1, M1, rfl, rfl, h1⟩
  refine zb_law_444 (d := d + 200) (K := K1) (B := B1) (M := M1) (b := b) (L := L) (xs := xs) rfl i x (hg 1 (by decide)) (hg 2 (by decide)) (hg 3 (by decide)) (hg 4 (by decide)) (hg 5 (by decide)) ?_
  refine zCall_m _ _ _ _ _ _ ?_ h1
  rintro v S2 ⟨K2, B2, M2, rfl, rfl, h2⟩
  exact zb_law_473 (d := d + 200) (K := K2) (B := B2) (M := M2) (b := b) (L := L) (xs := xs) rfl i x x (fun _ => kk K2 B2 M2 h2) (fun hn => absurd rfl hn)
theorem zlaw_c8 {d : Nat} {F : Option Value → zS → Prop} {b : Nat × Nat} {L : Nat} {xs : Nat → Int32} {Inv : (Nat → Nat → Option Nat) → (Nat → Nat → Int64) → (Nat → Nat → Int32) → Prop} {K : Nat → Nat → Option Nat} {B : Nat → Nat → Int64} {M : Nat → Nat → Int32} (i : Int32) (hg : ∀ j : Nat, j < 6 → vp_in (i + nI j) L) (ho : zOp Inv (zX0 L xs) zm_Boats_end zm_Model_end [.int (xs (i + 1).toNatClampNeg)]) (h : Inv K B M)
    (kk : ∀ K B M, Inv K B M → zEx (zCall (d + 200)) 12 false 2 zc_law F 1271 [.ref 1000, .ref 0, .ref 71, .int i] [] (zX0 L xs, b, zLay, K, B, M)) : zEx (zCall (d + 200)) 12 false 2 zc_law F 478 [.ref 1000, .ref 0, .ref 71, .int i] [] (zX0 L xs, b, zLay, K, B, M) := by
  refine zb_law_478 (d := d + 200) (L := L) (xs := xs) rfl i (hg 1 (by decide)) ?_
  refine zCall_m _ _ _ _ _ _ ?_ (ho d K B M h)
  rintro v S1 ⟨x, K1, B1, M1, rfl, rfl, h1⟩
  refine zb_law_487 (d := d + 200) (K := K1) (B := B1) (M := M1) (b := b) (L := L) (xs := xs) rfl i x (hg 1 (by decide)) ?_
  refine zCall_m _ _ _ _ _ _ ?_ h1
  rintro v S2 ⟨K2, B2, M2, rfl, rfl, h2⟩
  exact zb_law_496 (d := d + 200) (K := K2) (B := B2) (M := M2) (b := b) (L := L) (xs := xs) rfl i x x (fun _ => kk K2 B2 M2 h2) (fun hn => absurd rfl hn)
theorem zlaw_c9 {d : Nat} {F : Option Value → zS → Prop} {b : Nat × Nat} {L : Nat} {xs : Nat → Int32} {Inv : (Nat → Nat → Option Nat) → (Nat → Nat → Int64) → (Nat → Nat → Int32) → Prop} {K : Nat → Nat → Option Nat} {B : Nat → Nat → Int64} {M : Nat → Nat → Int32} (i : Int32) (hg : ∀ j : Nat, j < 6 → vp_in (i + nI j) L) (ho : zOp Inv (zX0 L xs) zm_Boats_text zm_Model_text []) (h : Inv K B M)
    (kk : ∀ K B M, Inv K B M → zEx (zCall (d + 200)) 12 false 2 zc_law F 1271 [.ref 1000, .ref 0, .ref 71, .int i] [] (zX0 L xs, b, zLay, K, B, M)) : zEx (zCall (d + 200)) 12 false 2 zc_law F 501 [.ref 1000, .ref 0, .ref 71, .int i] [] (zX0 L xs, b, zLay, K, B, M) := by
  refine zb_law_501 (d := d + 200) (L := L) (xs := xs) rfl i  ?_
  refine zCall_m _ _ _ _ _ _ ?_ (ho d K B M h)
  rintro v S1 ⟨x, K1, B1, M1, rfl, rfl, h1⟩
  refine zb_law_505 (d := d + 200) (K := K1) (B := B1) (M := M1) (b := b) (L := L) (xs := xs) rfl i x  ?_
  refine zCall_m _ _ _ _ _ _ ?_ h1
  rintro v S2 ⟨K2, B2, M2, rfl, rfl, h2⟩
  exact zb_law_509 (d := d + 200) (K := K2) (B := B2) (M := M2) (b := b) (L := L) (xs := xs) rfl i x x (fun _ => kk K2 B2 M2 h2) (fun hn => absurd rfl hn)
theorem zlaw_c10 {d : Nat} {F : Option Value → zS → Prop} {b : Nat × Nat} {L : Nat} {xs : Nat → Int32} {Inv : (Nat → Nat → Option Nat) → (Nat → Nat → Int64) → (Nat → Nat → Int32) → Prop} {K : Nat → Nat → Option Nat} {B : Nat → Nat → Int64} {M : Nat → Nat → Int32} (i : Int32) (hg : ∀ j : Nat, j < 6 → vp_in (i + nI j) L) (ho : zOp Inv (zX0 L xs) zm_Boats_fault zm_Model_fault [.int (xs (i + 1).toNatClampNeg)]) (h : Inv K B M)
    (kk : ∀ K B M, Inv K B M → zEx (zCall (d + 200)) 12 false 2 zc_law F 1271 [.ref 1000, .ref 0, .ref 71, .int i] [] (zX0 L xs, b, zLay, K, B, M)) : zEx (zCall (d + 200)) 12 false 2 zc_law F 514 [.ref 1000, .ref 0, .ref 71, .int i] [] (zX0 L xs, b, zLay, K, B, M) := by
  refine zb_law_514 (d := d + 200) (L := L) (xs := xs) rfl i (hg 1 (by decide)) ?_
  refine zCall_m _ _ _ _ _ _ ?_ (ho d K B M h)
  rintro v S1 ⟨x, K1, B1, M1, rfl, rfl, h1⟩
  refine zb_law_523 (d := d + 200) (K := K1) (B := B1) (M := M1) (b := b) (L := L) (xs := xs) rfl i x (hg 1 (by decide)) ?_
  refine zCall_m _ _ _ _ _ _ ?_ h1
  rintro v S2 ⟨K2, B2, M2, rfl, rfl, h2⟩
  exact zb_law_532 (d := d + 200) (K := K2) (B := B2) (M := M2) (b := b) (L := L) (xs := xs) rfl i x x (fun _ => kk K2 B2 M2 h2) (fun hn => absurd rfl hn)
theorem zlaw_c11 {d : Nat} {F : Option Value → zS → Prop} {b : Nat × Nat} {L : Nat} {xs : Nat → Int32} {Inv : (Nat → Nat → Option Nat) → (Nat → Nat → Int64) → (Nat → Nat → Int32) → Prop} {K : Nat → Nat → Option Nat} {B : Nat → Nat → Int64} {M : Nat → Nat → Int32} (i : Int32) (hg : ∀ j : Nat, j < 6 → vp_in (i + nI j) L) (ho : zOp Inv (zX0 L xs) zm_Boats_miles zm_Model_miles [.int (xs (i + 1).toNatClampNeg), .int (xs (i + 2).toNatClampNeg), .int (xs (i + 3).toNatClampNeg)]) (h : Inv K B M)
    (kk : ∀ K B M, Inv K B M → zEx (zCall (d + 200)) 12 false 2 zc_law F 1271 [.ref 1000, .ref 0, .ref 71, .int i] [] (zX0 L xs, b, zLay, K, B, M)) : zEx (zCall (d + 200)) 12 false 2 zc_law F 537 [.ref 1000, .ref 0, .ref 71, .int i] [] (zX0 L xs, b, zLay, K, B, M) := by
  refine zb_law_537 (d := d + 200) (L := L) (xs := xs) rfl i (hg 1 (by decide)) (hg 2 (by decide)) (hg 3 (by decide)) ?_
  refine zCall_m _ _ _ _ _ _ ?_ (ho d K B M h)
  rintro v S1 ⟨x, K1, B1, M1, rfl, rfl, h1⟩
  refine zb_law_556 (d := d + 200) (K := K1) (B := B1) (M := M1) (b := b) (L := L) (xs := xs) rfl i x (hg 1 (by decide)) (hg 2 (by decide)) (hg 3 (by decide)) ?_
  refine zCall_m _ _ _ _ _ _ ?_ h1
  rintro v S2 ⟨K2, B2, M2, rfl, rfl, h2⟩
  exact zb_law_575 (d := d + 200) (K := K2) (B := B2) (M := M2) (b := b) (L := L) (xs := xs) rfl i x x (fun _ => kk K2 B2 M2 h2) (fun hn => absurd rfl hn)
theorem zlaw_c12 {d : Nat} {F : Option Value → zS → Prop} {b : Nat × Nat} {L : Nat} {xs : Nat → Int32} {Inv : (Nat → Nat → Option Nat) → (Nat → Nat → Int64) → (Nat → Nat → Int32) → Prop} {K : Nat → Nat → Option Nat} {B : Nat → Nat → Int64} {M : Nat → Nat → Int32} (i : Int32) (hg : ∀ j : Nat, j < 6 → vp_in (i + nI j) L) (ho : zOp Inv (zX0 L xs) zm_Boats_round zm_Model_round [.int (xs (i + 1).toNatClampNeg), .int (xs (i + 2).toNatClampNeg)]) (h : Inv K B M)
    (kk : ∀ K B M, Inv K B M → zEx (zCall (d + 200)) 12 false 2 zc_law F 1271 [.ref 1000, .ref 0, .ref 71, .int i] [] (zX0 L xs, b, zLay, K, B, M)) : zEx (zCall (d + 200)) 12 false 2 zc_law F 580 [.ref 1000, .ref 0, .ref 71, .int i] [] (zX0 L xs, b, zLay, K, B, M) := by
  refine zb_law_580 (d := d + 200) (L := L) (xs := xs) rfl i (hg 1 (by decide)) (hg 2 (by decide)) ?_
  refine zCall_m _ _ _ _ _ _ ?_ (ho d K B M h)
  rintro v S1 ⟨x, K1, B1, M1, rfl, rfl, h1⟩
  refine zb_law_594 (d := d + 200) (K := K1) (B := B1) (M := M1) (b := b) (L := L) (xs := xs) rfl i x (hg 1 (by decide)) (hg 2 (by decide)) ?_
  refine zCall_m _ _ _ _ _ _ ?_ h1
  rintro v S2 ⟨K2, B2, M2, rfl, rfl, h2⟩
  exact zb_law_608 (d := d + 200) (K := K2) (B := B2) (M := M2) (b := b) (L := L) (xs := xs) rfl i x x (fun _ => kk K2 B2 M2 h2) (fun hn => absurd rfl hn)
theorem zlaw_c13 {d : Nat} {F : Option Value → zS → Prop} {b : Nat × Nat} {L : Nat} {xs : Nat → Int32} {Inv : (Nat → Nat → Option Nat) → (Nat → Nat → Int64) → (Nat → Nat → Int32) → Prop} {K : Nat → Nat → Option Nat} {B : Nat → Nat → Int64} {M : Nat → Nat → Int32} (i : Int32) (hg : ∀ j : Nat, j < 6 → vp_in (i + nI j) L) (ho : zOp Inv (zX0 L xs) zm_Boats_may zm_Model_may [.int (xs (i + 1).toNatClampNeg), .int (xs (i + 2).toNatClampNeg), .int (xs (i + 3).toNatClampNeg)]) (h : Inv K B M)
    (kk : ∀ K B M, Inv K B M → zEx (zCall (d + 200)) 12 false 2 zc_law F 1271 [.ref 1000, .ref 0, .ref 71, .int i] [] (zX0 L xs, b, zLay, K, B, M)) : zEx (zCall (d + 200)) 12 false 2 zc_law F 613 [.ref 1000, .ref 0, .ref 71, .int i] [] (zX0 L xs, b, zLay, K, B, M) := by
  refine zb_law_613 (d := d + 200) (L := L) (xs := xs) rfl i (hg 1 (by decide)) (hg 2 (by decide)) (hg 3 (by decide)) ?_
  refine zCall_m _ _ _ _ _ _ ?_ (ho d K B M h)
  rintro v S1 ⟨x, K1, B1, M1, rfl, rfl, h1⟩
  refine zb_law_632 (d := d + 200) (K := K1) (B := B1) (M := M1) (b := b) (L := L) (xs := xs) rfl i x (hg 1 (by decide)) (hg 2 (by decide)) (hg 3 (by decide)) ?_
  refine zCall_m _ _ _ _ _ _ ?_ h1
  rintro v S2 ⟨K2, B2, M2, rfl, rfl, h2⟩
  exact zb_law_651 (d := d + 200) (K := K2) (B := B2) (M := M2) (b := b) (L := L) (xs := xs) rfl i x x (fun _ => kk K2 B2 M2 h2) (fun hn => absurd rfl hn)
theorem zlaw_c14 {d : Nat} {F : Option Value → zS → Prop} {b : Nat × Nat} {L : Nat} {xs : Nat → Int32} {Inv : (Nat → Nat → Option Nat) → (Nat → Nat → Int64) → (Nat → Nat → Int32) → Prop} {K : Nat → Nat → Option Nat} {B : Nat → Nat → Int64} {M : Nat → Nat → Int32} (i : Int32) (hg : ∀ j : Nat, j < 6 → vp_in (i + nI j) L) (ho : zOp Inv (zX0 L xs) zm_Boats_known zm_Model_known [.int (xs (i + 1).toNatClampNeg), .int (xs (i + 2).toNatClampNeg), .int (xs (i + 3).toNatClampNeg)]) (h : Inv K B M)
    (kk : ∀ K B M, Inv K B M → zEx (zCall (d + 200)) 12 false 2 zc_law F 1271 [.ref 1000, .ref 0, .ref 71, .int i] [] (zX0 L xs, b, zLay, K, B, M)) : zEx (zCall (d + 200)) 12 false 2 zc_law F 656 [.ref 1000, .ref 0, .ref 71, .int i] [] (zX0 L xs, b, zLay, K, B, M) := by
  refine zb_law_656 (d := d + 200) (L := L) (xs := xs) rfl i (hg 1 (by decide)) (hg 2 (by decide)) (hg 3 (by decide)) ?_
  refine zCall_m _ _ _ _ _ _ ?_ (ho d K B M h)
  rintro v S1 ⟨x, K1, B1, M1, rfl, rfl, h1⟩
  refine zb_law_675 (d := d + 200) (K := K1) (B := B1) (M := M1) (b := b) (L := L) (xs := xs) rfl i x (hg 1 (by decide)) (hg 2 (by decide)) (hg 3 (by decide)) ?_
  refine zCall_m _ _ _ _ _ _ ?_ h1
  rintro v S2 ⟨K2, B2, M2, rfl, rfl, h2⟩
  exact zb_law_694 (d := d + 200) (K := K2) (B := B2) (M := M2) (b := b) (L := L) (xs := xs) rfl i x x (fun _ => kk K2 B2 M2 h2) (fun hn => absurd rfl hn)
theorem zlaw_c15 {d : Nat} {F : Option Value → zS → Prop} {b : Nat × Nat} {L : Nat} {xs : Nat → Int32} {Inv : (Nat → Nat → Option Nat) → (Nat → Nat → Int64) → (Nat → Nat → Int32) → Prop} {K : Nat → Nat → Option Nat} {B : Nat → Nat → Int64} {M : Nat → Nat → Int32} (i : Int32) (hg : ∀ j : Nat, j < 6 → vp_in (i + nI j) L) (ho : zOp Inv (zX0 L xs) zm_Boats_over zm_Model_over [.int (xs (i + 1).toNatClampNeg), .int (xs (i + 2).toNatClampNeg), .int (xs (i + 3).toNatClampNeg), .int (xs (i + 4).toNatClampNeg)]) (h : Inv K B M)
    (kk : ∀ K B M, Inv K B M → zEx (zCall (d + 200)) 12 false 2 zc_law F 1271 [.ref 1000, .ref 0, .ref 71, .int i] [] (zX0 L xs, b, zLay, K, B, M)) : zEx (zCall (d + 200)) 12 false 2 zc_law F 699 [.ref 1000, .ref 0, .ref 71, .int i] [] (zX0 L xs, b, zLay, K, B, M) := by
  refine zb_law_699 (d := d + 200) (L := L) (xs := xs) rfl i (hg 1 (by decide)) (hg 2 (by decide)) (hg 3 (by decide)) (hg 4 (by decide)) ?_
  refine zCall_m _ _ _ _ _ _ ?_ (ho d K B M h)
  rintro v S1 ⟨x, K1, B1, M1, rfl, rfl, h1⟩
  refine zb_law_723 (d := d + 200) (K := K1) (B := B1) (M := M1) (b := b) (L := L) (xs := xs) rfl i x (hg 1 (by decide)) (hg 2 (by decide)) (hg 3 (by decide)) (hg 4 (by decide)) ?_
  refine zCall_m _ _ _ _ _ _ ?_ h1
  rintro v S2 ⟨K2, B2, M2, rfl, rfl, h2⟩
  exact zb_law_747 (d := d + 200) (K := K2) (B := B2) (M := M2) (b := b) (L := L) (xs := xs) rfl i x x (fun _ => kk K2 B2 M2 h2) (fun hn => absurd rfl hn)
theorem zlaw_c16 {d : Nat} {F : Option Value → zS → Prop} {b : Nat × Nat} {L : Nat} {xs : Nat → Int32} {Inv : (Nat → Nat → Option Nat) → (Nat → Nat → Int64) → (Nat → Nat → Int32) → Prop} {K : Nat → Nat → Option Nat} {B : Nat → Nat → Int64} {M : Nat → Nat → Int32} (i : Int32) (hg : ∀ j : Nat, j < 6 → vp_in (i + nI j) L) (ho : zOp Inv (zX0 L xs) zm_Boats_longest zm_Model_longest [.int (xs (i + 1).toNatClampNeg), .int (xs (i + 2).toNatClampNeg), .int (xs (i + 3).toNatClampNeg), .int (xs (i + 4).toNatClampNeg), .int (xs (i + 5).toNatClampNeg)]) (h : Inv K B M)
    (kk : ∀ K B M, Inv K B M → zEx (zCall (d + 200)) 12 false 2 zc_law F 1271 [.ref 1000, .ref 0, .ref 71, .int i] [] (zX0 L xs, b, zLay, K, B, M)) : zEx (zCall (d + 200)) 12 false 2 zc_law F 752 [.ref 1000, .ref 0, .ref 71, .int i] [] (zX0 L xs, b, zLay, K, B, M) := by
  refine zb_law_752 (d := d + 200) (L := L) (xs := xs) rfl i (hg 1 (by decide)) (hg 2 (by decide)) (hg 3 (by decide)) (hg 4 (by decide)) (hg 5 (by decide)) ?_
  refine zCall_m _ _ _ _ _ _ ?_ (ho d K B M h)
  rintro v S1 ⟨x, K1, B1, M1, rfl, rfl, h1⟩
  refine zb_law_781 (d := d + 200) (K := K1) (B := B1) (M := M1) (b := b) (L := L) (xs := xs) rfl i x (hg 1 (by decide)) (hg 2 (by decide)) (hg 3 (by decide)) (hg 4 (by decide)) (hg 5 (by decide)) ?_
  refine zCall_m _ _ _ _ _ _ ?_ h1
  rintro v S2 ⟨K2, B2, M2, rfl, rfl, h2⟩
  exact zb_law_810 (d := d + 200) (K := K2) (B := B2) (M := M2) (b := b) (L := L) (xs := xs) rfl i x x (fun _ => kk K2 B2 M2 h2) (fun hn => absurd rfl hn)
theorem zlaw_c17 {d : Nat} {F : Option Value → zS → Prop} {b : Nat × Nat} {L : Nat} {xs : Nat → Int32} {Inv : (Nat → Nat → Option Nat) → (Nat → Nat → Int64) → (Nat → Nat → Int32) → Prop} {K : Nat → Nat → Option Nat} {B : Nat → Nat → Int64} {M : Nat → Nat → Int32} (i : Int32) (hg : ∀ j : Nat, j < 6 → vp_in (i + nI j) L) (ho : zOp Inv (zX0 L xs) zm_Boats_far zm_Model_far [.int (xs (i + 1).toNatClampNeg), .int (xs (i + 2).toNatClampNeg), .int (xs (i + 3).toNatClampNeg)]) (h : Inv K B M)
    (kk : ∀ K B M, Inv K B M → zEx (zCall (d + 200)) 12 false 2 zc_law F 1271 [.ref 1000, .ref 0, .ref 71, .int i] [] (zX0 L xs, b, zLay, K, B, M)) : zEx (zCall (d + 200)) 12 false 2 zc_law F 815 [.ref 1000, .ref 0, .ref 71, .int i] [] (zX0 L xs, b, zLay, K, B, M) := by
  refine zb_law_815 (d := d + 200) (L := L) (xs := xs) rfl i (hg 1 (by decide)) (hg 2 (by decide)) (hg 3 (by decide)) ?_
  refine zCall_m _ _ _ _ _ _ ?_ (ho d K B M h)
  rintro v S1 ⟨x, K1, B1, M1, rfl, rfl, h1⟩
  refine zb_law_834 (d := d + 200) (K := K1) (B := B1) (M := M1) (b := b) (L := L) (xs := xs) rfl i x (hg 1 (by decide)) (hg 2 (by decide)) (hg 3 (by decide)) ?_
  refine zCall_m _ _ _ _ _ _ ?_ h1
  rintro v S2 ⟨K2, B2, M2, rfl, rfl, h2⟩
  exact zb_law_853 (d := d + 200) (K := K2) (B := B2) (M := M2) (b := b) (L := L) (xs := xs) rfl i x x (fun _ => kk K2 B2 M2 h2) (fun hn => absurd rfl hn)
theorem zlaw_c18 {d : Nat} {F : Option Value → zS → Prop} {b : Nat × Nat} {L : Nat} {xs : Nat → Int32} {Inv : (Nat → Nat → Option Nat) → (Nat → Nat → Int64) → (Nat → Nat → Int32) → Prop} {K : Nat → Nat → Option Nat} {B : Nat → Nat → Int64} {M : Nat → Nat → Int32} (i : Int32) (hg : ∀ j : Nat, j < 6 → vp_in (i + nI j) L) (ho : zOp Inv (zX0 L xs) zm_Boats_shortOf zm_Model_shortOf [.int (xs (i + 1).toNatClampNeg), .int (xs (i + 2).toNatClampNeg), .int (xs (i + 3).toNatClampNeg)]) (h : Inv K B M)
    (kk : ∀ K B M, Inv K B M → zEx (zCall (d + 200)) 12 false 2 zc_law F 1271 [.ref 1000, .ref 0, .ref 71, .int i] [] (zX0 L xs, b, zLay, K, B, M)) : zEx (zCall (d + 200)) 12 false 2 zc_law F 858 [.ref 1000, .ref 0, .ref 71, .int i] [] (zX0 L xs, b, zLay, K, B, M) := by
  refine zb_law_858 (d := d + 200) (L := L) (xs := xs) rfl i (hg 1 (by decide)) (hg 2 (by decide)) (hg 3 (by decide)) ?_
  refine zCall_m _ _ _ _ _ _ ?_ (ho d K B M h)
  rintro v S1 ⟨x, K1, B1, M1, rfl, rfl, h1⟩
  refine zb_law_877 (d := d + 200) (K := K1) (B := B1) (M := M1) (b := b) (L := L) (xs := xs) rfl i x (hg 1 (by decide)) (hg 2 (by decide)) (hg 3 (by decide)) ?_
  refine zCall_m _ _ _ _ _ _ ?_ h1
  rintro v S2 ⟨K2, B2, M2, rfl, rfl, h2⟩
  exact zb_law_896 (d := d + 200) (K := K2) (B := B2) (M := M2) (b := b) (L := L) (xs := xs) rfl i x x (fun _ => kk K2 B2 M2 h2) (fun hn => absurd rfl hn)
theorem zlaw_c19 {d : Nat} {F : Option Value → zS → Prop} {b : Nat × Nat} {L : Nat} {xs : Nat → Int32} {Inv : (Nat → Nat → Option Nat) → (Nat → Nat → Int64) → (Nat → Nat → Int32) → Prop} {K : Nat → Nat → Option Nat} {B : Nat → Nat → Int64} {M : Nat → Nat → Int32} (i : Int32) (hg : ∀ j : Nat, j < 6 → vp_in (i + nI j) L) (ho : zOp Inv (zX0 L xs) zm_Boats_broken zm_Model_broken [.int (xs (i + 1).toNatClampNeg), .int (xs (i + 2).toNatClampNeg), .int (xs (i + 3).toNatClampNeg)]) (h : Inv K B M)
    (kk : ∀ K B M, Inv K B M → zEx (zCall (d + 200)) 12 false 2 zc_law F 1271 [.ref 1000, .ref 0, .ref 71, .int i] [] (zX0 L xs, b, zLay, K, B, M)) : zEx (zCall (d + 200)) 12 false 2 zc_law F 901 [.ref 1000, .ref 0, .ref 71, .int i] [] (zX0 L xs, b, zLay, K, B, M) := by
  refine zb_law_901 (d := d + 200) (L := L) (xs := xs) rfl i (hg 1 (by decide)) (hg 2 (by decide)) (hg 3 (by decide)) ?_
  refine zCall_m _ _ _ _ _ _ ?_ (ho d K B M h)
  rintro v S1 ⟨x, K1, B1, M1, rfl, rfl, h1⟩
  refine zb_law_920 (d := d + 200) (K := K1) (B := B1) (M := M1) (b := b) (L := L) (xs := xs) rfl i x (hg 1 (by decide)) (hg 2 (by decide)) (hg 3 (by decide)) ?_
  refine zCall_m _ _ _ _ _ _ ?_ h1
  rintro v S2 ⟨K2, B2, M2, rfl, rfl, h2⟩
  exact zb_law_939 (d := d + 200) (K := K2) (B := B2) (M := M2) (b := b) (L := L) (xs := xs) rfl i x x (fun _ => kk K2 B2 M2 h2) (fun hn => absurd rfl hn)
theorem zlaw_c20 {d : Nat} {F : Option Value → zS → Prop} {b : Nat × Nat} {L : Nat} {xs : Nat → Int32} {Inv : (Nat → Nat → Option Nat) → (Nat → Nat → Int64) → (Nat → Nat → Int32) → Prop} {K : Nat → Nat → Option Nat} {B : Nat → Nat → Int64} {M : Nat → Nat → Int32} (i : Int32) (hg : ∀ j : Nat, j < 6 → vp_in (i + nI j) L) (ho : zOp Inv (zX0 L xs) zm_Boats_look zm_Model_look [.int (xs (i + 1).toNatClampNeg), .int (xs (i + 2).toNatClampNeg), .int (xs (i + 3).toNatClampNeg), .int (xs (i + 4).toNatClampNeg)]) (h : Inv K B M)
    (kk : ∀ K B M, Inv K B M → zEx (zCall (d + 200)) 12 false 2 zc_law F 1271 [.ref 1000, .ref 0, .ref 71, .int i] [] (zX0 L xs, b, zLay, K, B, M)) : zEx (zCall (d + 200)) 12 false 2 zc_law F 944 [.ref 1000, .ref 0, .ref 71, .int i] [] (zX0 L xs, b, zLay, K, B, M) := by
  refine zb_law_944 (d := d + 200) (L := L) (xs := xs) rfl i (hg 1 (by decide)) (hg 2 (by decide)) (hg 3 (by decide)) (hg 4 (by decide)) ?_
  refine zCall_m _ _ _ _ _ _ ?_ (ho d K B M h)
  rintro v S1 ⟨x, K1, B1, M1, rfl, rfl, h1⟩
  refine zb_law_968 (d := d + 200) (K := K1) (B := B1) (M := M1) (b := b) (L := L) (xs := xs) rfl i x (hg 1 (by decide)) (hg 2 (by decide)) (hg 3 (by decide)) (hg 4 (by decide)) ?_
  refine zCall_m _ _ _ _ _ _ ?_ h1
  rintro v S2 ⟨K2, B2, M2, rfl, rfl, h2⟩
  exact zb_law_992 (d := d + 200) (K := K2) (B := B2) (M := M2) (b := b) (L := L) (xs := xs) rfl i x x (fun _ => kk K2 B2 M2 h2) (fun hn => absurd rfl hn)
theorem zlaw_c21 {d : Nat} {F : Option Value → zS → Prop} {b : Nat × Nat} {L : Nat} {xs : Nat → Int32} {Inv : (Nat → Nat → Option Nat) → (Nat → Nat → Int64) → (Nat → Nat → Int32) → Prop} {K : Nat → Nat → Option Nat} {B : Nat → Nat → Int64} {M : Nat → Nat → Int32} (i : Int32) (hg : ∀ j : Nat, j < 6 → vp_in (i + nI j) L) (ho : zOp Inv (zX0 L xs) zm_Boats_send zm_Model_send [.int (xs (i + 1).toNatClampNeg), .int (xs (i + 2).toNatClampNeg), .int (xs (i + 3).toNatClampNeg)]) (h : Inv K B M)
    (kk : ∀ K B M, Inv K B M → zEx (zCall (d + 200)) 12 false 2 zc_law F 1271 [.ref 1000, .ref 0, .ref 71, .int i] [] (zX0 L xs, b, zLay, K, B, M)) : zEx (zCall (d + 200)) 12 false 2 zc_law F 997 [.ref 1000, .ref 0, .ref 71, .int i] [] (zX0 L xs, b, zLay, K, B, M) := by
  refine zb_law_997 (d := d + 200) (L := L) (xs := xs) rfl i (hg 1 (by decide)) (hg 2 (by decide)) (hg 3 (by decide)) ?_
  refine zCall_m _ _ _ _ _ _ ?_ (ho d K B M h)
  rintro v S1 ⟨x, K1, B1, M1, rfl, rfl, h1⟩
  refine zb_law_1016 (d := d + 200) (K := K1) (B := B1) (M := M1) (b := b) (L := L) (xs := xs) rfl i x (hg 1 (by decide)) (hg 2 (by decide)) (hg 3 (by decide)) ?_
  refine zCall_m _ _ _ _ _ _ ?_ h1
  rintro v S2 ⟨K2, B2, M2, rfl, rfl, h2⟩
  exact zb_law_1035 (d := d + 200) (K := K2) (B := B2) (M := M2) (b := b) (L := L) (xs := xs) rfl i x x (fun _ => kk K2 B2 M2 h2) (fun hn => absurd rfl hn)
theorem zlaw_c22 {d : Nat} {F : Option Value → zS → Prop} {b : Nat × Nat} {L : Nat} {xs : Nat → Int32} {Inv : (Nat → Nat → Option Nat) → (Nat → Nat → Int64) → (Nat → Nat → Int32) → Prop} {K : Nat → Nat → Option Nat} {B : Nat → Nat → Int64} {M : Nat → Nat → Int32} (i : Int32) (hg : ∀ j : Nat, j < 6 → vp_in (i + nI j) L) (ho : zOp Inv (zX0 L xs) zm_Boats_appeal zm_Model_appeal [.int (xs (i + 1).toNatClampNeg), .int (xs (i + 2).toNatClampNeg)]) (h : Inv K B M)
    (kk : ∀ K B M, Inv K B M → zEx (zCall (d + 200)) 12 false 2 zc_law F 1271 [.ref 1000, .ref 0, .ref 71, .int i] [] (zX0 L xs, b, zLay, K, B, M)) : zEx (zCall (d + 200)) 12 false 2 zc_law F 1040 [.ref 1000, .ref 0, .ref 71, .int i] [] (zX0 L xs, b, zLay, K, B, M) := by
  refine zb_law_1040 (d := d + 200) (L := L) (xs := xs) rfl i (hg 1 (by decide)) (hg 2 (by decide)) ?_
  refine zCall_m _ _ _ _ _ _ ?_ (ho d K B M h)
  rintro v S1 ⟨x, K1, B1, M1, rfl, rfl, h1⟩
  refine zb_law_1054 (d := d + 200) (K := K1) (B := B1) (M := M1) (b := b) (L := L) (xs := xs) rfl i x (hg 1 (by decide)) (hg 2 (by decide)) ?_
  refine zCall_m _ _ _ _ _ _ ?_ h1
  rintro v S2 ⟨K2, B2, M2, rfl, rfl, h2⟩
  exact zb_law_1068 (d := d + 200) (K := K2) (B := B2) (M := M2) (b := b) (L := L) (xs := xs) rfl i x x (fun _ => kk K2 B2 M2 h2) (fun hn => absurd rfl hn)
theorem zlaw_c23 {d : Nat} {F : Option Value → zS → Prop} {b : Nat × Nat} {L : Nat} {xs : Nat → Int32} {Inv : (Nat → Nat → Option Nat) → (Nat → Nat → Int64) → (Nat → Nat → Int32) → Prop} {K : Nat → Nat → Option Nat} {B : Nat → Nat → Int64} {M : Nat → Nat → Int32} (i : Int32) (hg : ∀ j : Nat, j < 6 → vp_in (i + nI j) L) (ho : zOp Inv (zX0 L xs) zm_Boats_crowd zm_Model_crowd [.int (xs (i + 1).toNatClampNeg), .int (xs (i + 2).toNatClampNeg), .int (xs (i + 3).toNatClampNeg), .int (xs (i + 4).toNatClampNeg)]) (h : Inv K B M)
    (kk : ∀ K B M, Inv K B M → zEx (zCall (d + 200)) 12 false 2 zc_law F 1271 [.ref 1000, .ref 0, .ref 71, .int i] [] (zX0 L xs, b, zLay, K, B, M)) : zEx (zCall (d + 200)) 12 false 2 zc_law F 1073 [.ref 1000, .ref 0, .ref 71, .int i] [] (zX0 L xs, b, zLay, K, B, M) := by
  refine zb_law_1073 (d := d + 200) (L := L) (xs := xs) rfl i (hg 1 (by decide)) (hg 2 (by decide)) (hg 3 (by decide)) (hg 4 (by decide)) ?_
  refine zCall_m _ _ _ _ _ _ ?_ (ho d K B M h)
  rintro v S1 ⟨x, K1, B1, M1, rfl, rfl, h1⟩
  refine zb_law_1097 (d := d + 200) (K := K1) (B := B1) (M := M1) (b := b) (L := L) (xs := xs) rfl i x (hg 1 (by decide)) (hg 2 (by decide)) (hg 3 (by decide)) (hg 4 (by decide)) ?_
  refine zCall_m _ _ _ _ _ _ ?_ h1
  rintro v S2 ⟨K2, B2, M2, rfl, rfl, h2⟩
  exact zb_law_1121 (d := d + 200) (K := K2) (B := B2) (M := M2) (b := b) (L := L) (xs := xs) rfl i x x (fun _ => kk K2 B2 M2 h2) (fun hn => absurd rfl hn)
theorem zlaw_c24 {d : Nat} {F : Option Value → zS → Prop} {b : Nat × Nat} {L : Nat} {xs : Nat → Int32} {Inv : (Nat → Nat → Option Nat) → (Nat → Nat → Int64) → (Nat → Nat → Int32) → Prop} {K : Nat → Nat → Option Nat} {B : Nat → Nat → Int64} {M : Nat → Nat → Int32} (i : Int32) (hg : ∀ j : Nat, j < 6 → vp_in (i + nI j) L) (ho : zOp Inv (zX0 L xs) zm_Boats_tied zm_Model_tied [.int (xs (i + 1).toNatClampNeg), .int (xs (i + 2).toNatClampNeg), .int (xs (i + 3).toNatClampNeg)]) (h : Inv K B M)
    (kk : ∀ K B M, Inv K B M → zEx (zCall (d + 200)) 12 false 2 zc_law F 1271 [.ref 1000, .ref 0, .ref 71, .int i] [] (zX0 L xs, b, zLay, K, B, M)) : zEx (zCall (d + 200)) 12 false 2 zc_law F 1126 [.ref 1000, .ref 0, .ref 71, .int i] [] (zX0 L xs, b, zLay, K, B, M) := by
  refine zb_law_1126 (d := d + 200) (L := L) (xs := xs) rfl i (hg 1 (by decide)) (hg 2 (by decide)) (hg 3 (by decide)) ?_
  refine zCall_m _ _ _ _ _ _ ?_ (ho d K B M h)
  rintro v S1 ⟨x, K1, B1, M1, rfl, rfl, h1⟩
  refine zb_law_1145 (d := d + 200) (K := K1) (B := B1) (M := M1) (b := b) (L := L) (xs := xs) rfl i x (hg 1 (by decide)) (hg 2 (by decide)) (hg 3 (by decide)) ?_
  refine zCall_m _ _ _ _ _ _ ?_ h1
  rintro v S2 ⟨K2, B2, M2, rfl, rfl, h2⟩
  exact zb_law_1164 (d := d + 200) (K := K2) (B := B2) (M := M2) (b := b) (L := L) (xs := xs) rfl i x x (fun _ => kk K2 B2 M2 h2) (fun hn => absurd rfl hn)
theorem zlaw_c25 {d : Nat} {F : Option Value → zS → Prop} {b : Nat × Nat} {L : Nat} {xs : Nat → Int32} {Inv : (Nat → Nat → Option Nat) → (Nat → Nat → Int64) → (Nat → Nat → Int32) → Prop} {K : Nat → Nat → Option Nat} {B : Nat → Nat → Int64} {M : Nat → Nat → Int32} (i : Int32) (hg : ∀ j : Nat, j < 6 → vp_in (i + nI j) L) (ho : zOp Inv (zX0 L xs) zm_Boats_swapped zm_Model_swapped [.int (xs (i + 1).toNatClampNeg), .int (xs (i + 2).toNatClampNeg), .int (xs (i + 3).toNatClampNeg), .int (xs (i + 4).toNatClampNeg)]) (h : Inv K B M)
    (kk : ∀ K B M, Inv K B M → zEx (zCall (d + 200)) 12 false 2 zc_law F 1271 [.ref 1000, .ref 0, .ref 71, .int i] [] (zX0 L xs, b, zLay, K, B, M)) : zEx (zCall (d + 200)) 12 false 2 zc_law F 1169 [.ref 1000, .ref 0, .ref 71, .int i] [] (zX0 L xs, b, zLay, K, B, M) := by
  refine zb_law_1169 (d := d + 200) (L := L) (xs := xs) rfl i (hg 1 (by decide)) (hg 2 (by decide)) (hg 3 (by decide)) (hg 4 (by decide)) ?_
  refine zCall_m _ _ _ _ _ _ ?_ (ho d K B M h)
  rintro v S1 ⟨x, K1, B1, M1, rfl, rfl, h1⟩
  refine zb_law_1193 (d := d + 200) (K := K1) (B := B1) (M := M1) (b := b) (L := L) (xs := xs) rfl i x (hg 1 (by decide)) (hg 2 (by decide)) (hg 3 (by decide)) (hg 4 (by decide)) ?_
  refine zCall_m _ _ _ _ _ _ ?_ h1
  rintro v S2 ⟨K2, B2, M2, rfl, rfl, h2⟩
  exact zb_law_1217 (d := d + 200) (K := K2) (B := B2) (M := M2) (b := b) (L := L) (xs := xs) rfl i x x (fun _ => kk K2 B2 M2 h2) (fun hn => absurd rfl hn)
theorem zlaw_c26 {d : Nat} {F : Option Value → zS → Prop} {b : Nat × Nat} {L : Nat} {xs : Nat → Int32} {Inv : (Nat → Nat → Option Nat) → (Nat → Nat → Int64) → (Nat → Nat → Int32) → Prop} {K : Nat → Nat → Option Nat} {B : Nat → Nat → Int64} {M : Nat → Nat → Int32} (i : Int32) (hg : ∀ j : Nat, j < 6 → vp_in (i + nI j) L) (ho : zOp Inv (zX0 L xs) zm_Boats_image zm_Model_image []) (h : Inv K B M)
    (kk : ∀ K B M, Inv K B M → zEx (zCall (d + 200)) 12 false 2 zc_law F 1271 [.ref 1000, .ref 0, .ref 71, .int i] [] (zX0 L xs, b, zLay, K, B, M)) : zEx (zCall (d + 200)) 12 false 2 zc_law F 1222 [.ref 1000, .ref 0, .ref 71, .int i] [] (zX0 L xs, b, zLay, K, B, M) := by
  refine zb_law_1222 (d := d + 200) (L := L) (xs := xs) rfl i  ?_
  refine zCall_m _ _ _ _ _ _ ?_ (ho d K B M h)
  rintro v S1 ⟨x, K1, B1, M1, rfl, rfl, h1⟩
  refine zb_law_1226 (d := d + 200) (K := K1) (B := B1) (M := M1) (b := b) (L := L) (xs := xs) rfl i x  ?_
  refine zCall_m _ _ _ _ _ _ ?_ h1
  rintro v S2 ⟨K2, B2, M2, rfl, rfl, h2⟩
  exact zb_law_1230 (d := d + 200) (K := K2) (B := B2) (M := M2) (b := b) (L := L) (xs := xs) rfl i x x (fun _ => kk K2 B2 M2 h2) (fun hn => absurd rfl hn)
theorem zlaw_c27 {d : Nat} {F : Option Value → zS → Prop} {b : Nat × Nat} {L : Nat} {xs : Nat → Int32} {Inv : (Nat → Nat → Option Nat) → (Nat → Nat → Int64) → (Nat → Nat → Int32) → Prop} {K : Nat → Nat → Option Nat} {B : Nat → Nat → Int64} {M : Nat → Nat → Int32} (i : Int32) (hg : ∀ j : Nat, j < 6 → vp_in (i + nI j) L) (ho : zOp Inv (zX0 L xs) zm_Boats_back zm_Model_back []) (h : Inv K B M)
    (kk : ∀ K B M, Inv K B M → zEx (zCall (d + 200)) 12 false 2 zc_law F 1271 [.ref 1000, .ref 0, .ref 71, .int i] [] (zX0 L xs, b, zLay, K, B, M)) : zEx (zCall (d + 200)) 12 false 2 zc_law F 1235 [.ref 1000, .ref 0, .ref 71, .int i] [] (zX0 L xs, b, zLay, K, B, M) := by
  refine zb_law_1235 (d := d + 200) (L := L) (xs := xs) rfl i  ?_
  refine zCall_m _ _ _ _ _ _ ?_ (ho d K B M h)
  rintro v S1 ⟨x, K1, B1, M1, rfl, rfl, h1⟩
  refine zb_law_1239 (d := d + 200) (K := K1) (B := B1) (M := M1) (b := b) (L := L) (xs := xs) rfl i x  ?_
  refine zCall_m _ _ _ _ _ _ ?_ h1
  rintro v S2 ⟨K2, B2, M2, rfl, rfl, h2⟩
  exact zb_law_1243 (d := d + 200) (K := K2) (B := B2) (M := M2) (b := b) (L := L) (xs := xs) rfl i x x (fun _ => kk K2 B2 M2 h2) (fun hn => absurd rfl hn)
theorem zlaw_c28 {d : Nat} {F : Option Value → zS → Prop} {b : Nat × Nat} {L : Nat} {xs : Nat → Int32} {Inv : (Nat → Nat → Option Nat) → (Nat → Nat → Int64) → (Nat → Nat → Int32) → Prop} {K : Nat → Nat → Option Nat} {B : Nat → Nat → Int64} {M : Nat → Nat → Int32} (i : Int32) (hg : ∀ j : Nat, j < 6 → vp_in (i + nI j) L) (ho : zOp Inv (zX0 L xs) zm_Boats_about zm_Model_about [.int (xs (i + 1).toNatClampNeg)]) (h : Inv K B M)
    (kk : ∀ K B M, Inv K B M → zEx (zCall (d + 200)) 12 false 2 zc_law F 1271 [.ref 1000, .ref 0, .ref 71, .int i] [] (zX0 L xs, b, zLay, K, B, M)) : zEx (zCall (d + 200)) 12 false 2 zc_law F 1248 [.ref 1000, .ref 0, .ref 71, .int i] [] (zX0 L xs, b, zLay, K, B, M) := by
  refine zb_law_1248 (d := d + 200) (L := L) (xs := xs) rfl i (hg 1 (by decide)) ?_
  refine zCall_m _ _ _ _ _ _ ?_ (ho d K B M h)
  rintro v S1 ⟨x, K1, B1, M1, rfl, rfl, h1⟩
  refine zb_law_1257 (d := d + 200) (K := K1) (B := B1) (M := M1) (b := b) (L := L) (xs := xs) rfl i x (hg 1 (by decide)) ?_
  refine zCall_m _ _ _ _ _ _ ?_ h1
  rintro v S2 ⟨K2, B2, M2, rfl, rfl, h2⟩
  exact zb_law_1266 (d := d + 200) (K := K2) (B := B2) (M := M2) (b := b) (L := L) (xs := xs) rfl i x x (fun _ => kk K2 B2 M2 h2) (fun hn => absurd rfl hn)
theorem zlaw_loop {d : Nat} {b : Nat × Nat} {L : Nat} {xs : Nat → Int32} (hL : L ≤ 3072) {Inv : (Nat → Nat → Option Nat) → (Nat → Nat → Int64) → (Nat → Nat → Int32) → Prop} (hops : zOps Inv L xs) : ∀ (n j : Nat) (K : Nat → Nat → Option Nat) (B : Nat → Nat → Int64) (M : Nat → Nat → Int32), L + 6 ≤ j + n → j ≤ L → Inv K B M → zEx (zCall (d + 200)) 12 false 2 zc_law (fun v _ => v = some (.int 1)) 18 [.ref 1000, .ref 0, .ref 71, .int (nI j)] [] (zX0 L xs, b, zLay, K, B, M) := by
  intro n
  induction n with
  | zero => intro j K B M h1 h2; omega
  | succ n ih =>
    intro j K B M h1 h2 h
    have hc : ∀ (hn : ¬ ((Int32.ofNat L) - 6) < nI j), j + 6 ≤ L := by
      intro hn
      rcases Nat.lt_or_ge L (j + 6) with hlt | hge
      · refine absurd ?_ hn
        rw [Int32.lt_iff_toInt_lt]
        have e1 : (Int32.ofNat L - 6).toInt = (L : Int) - 6 := pk_sub_toInt (a := L) (b := 6) (by omega) (by omega)
        rw [e1, nI_toInt (by omega)]
        omega
      · exact hge
    by_cases hcc : ((Int32.ofNat L) - 6) < nI j
    · have hab : ∀ {P : Prop}, ¬ ((Int32.ofNat L) - 6) < nI j → P := fun hn => absurd hcc hn
      exact zb_law_18 (d := d + 200) (L := L) (xs := xs) rfl (nI j) (fun _ => rfl) hab hab hab hab hab hab hab hab hab hab hab hab hab hab hab hab hab hab hab hab hab hab hab hab hab hab hab hab hab hab hab
    · have hj := hc hcc
      have hg : ∀ k : Nat, k < 6 → vp_in (nI j + nI k) L := fun k hk => by
        rw [nI_add]
        exact vp_in_nI (by omega) (by omega)
      have kk : ∀ K B M, Inv K B M → zEx (zCall (d + 200)) 12 false 2 zc_law (fun v _ => v = some (.int 1)) 1271 [.ref 1000, .ref 0, .ref 71, .int (nI j)] [] (zX0 L xs, b, zLay, K, B, M) := fun K B M h => by
        refine zb_law_1271 (d := d + 200) (L := L) (xs := xs) rfl (nI j) ?_
        rw [show nI j + 6 = nI (j + 6) from nI_add j 6]
        exact ih (j + 6) K B M (by omega) (by omega) h
      refine zb_law_18 (d := d + 200) (L := L) (xs := xs) rfl (nI j) (fun hh => absurd hh hcc) (fun _ => vp_in_nI (by omega) (by omega)) ?_ ?_ ?_ ?_ ?_ ?_ ?_ ?_ ?_ ?_ ?_ ?_ ?_ ?_ ?_ ?_ ?_ ?_ ?_ ?_ ?_ ?_ ?_ ?_ ?_ ?_ ?_ ?_ ?_ ?_
      · exact fun _  _ => zlaw_c0 (nI j) hg (hops.1 _) h kk
      · exact fun _ _ _ => zlaw_c1 (nI j) hg (hops.2.1 _ _ _) h kk
      · exact fun _ _ _ _ => zlaw_c2 (nI j) hg (hops.2.2.1 _ _ _) h kk
      · exact fun _ _ _ _ _ => zlaw_c3 (nI j) hg (hops.2.2.2.1 _) h kk
      · exact fun _ _ _ _ _ _ => zlaw_c4 (nI j) hg (hops.2.2.2.2.1) h kk
      · exact fun _ _ _ _ _ _ _ => zlaw_c5 (nI j) hg (hops.2.2.2.2.2.1 _ _ _ _) h kk
      · exact fun _ _ _ _ _ _ _ _ => zlaw_c6 (nI j) hg (hops.2.2.2.2.2.2.1 _ _ _ _) h kk
      · exact fun _ _ _ _ _ _ _ _ _ => zlaw_c7 (nI j) hg (hops.2.2.2.2.2.2.2.1 _ _ _ _ _) h kk
      · exact fun _ _ _ _ _ _ _ _ _ _ => zlaw_c8 (nI j) hg (hops.2.2.2.2.2.2.2.2.1 _) h kk
      · exact fun _ _ _ _ _ _ _ _ _ _ _ => zlaw_c9 (nI j) hg (hops.2.2.2.2.2.2.2.2.2.1) h kk
      · exact fun _ _ _ _ _ _ _ _ _ _ _ _ => zlaw_c10 (nI j) hg (hops.2.2.2.2.2.2.2.2.2.2.1 _) h kk
      · exact fun _ _ _ _ _ _ _ _ _ _ _ _ _ => zlaw_c11 (nI j) hg (hops.2.2.2.2.2.2.2.2.2.2.2.1 _ _ _) h kk
      · exact fun _ _ _ _ _ _ _ _ _ _ _ _ _ _ => zlaw_c12 (nI j) hg (hops.2.2.2.2.2.2.2.2.2.2.2.2.1 _ _) h kk
      · exact fun _ _ _ _ _ _ _ _ _ _ _ _ _ _ _ => zlaw_c13 (nI j) hg (hops.2.2.2.2.2.2.2.2.2.2.2.2.2.1 _ _ _) h kk
      · exact fun _ _ _ _ _ _ _ _ _ _ _ _ _ _ _ _ => zlaw_c14 (nI j) hg (hops.2.2.2.2.2.2.2.2.2.2.2.2.2.2.1 _ _ _) h kk
      · exact fun _ _ _ _ _ _ _ _ _ _ _ _ _ _ _ _ _ => zlaw_c15 (nI j) hg (hops.2.2.2.2.2.2.2.2.2.2.2.2.2.2.2.1 _ _ _ _) h kk
      · exact fun _ _ _ _ _ _ _ _ _ _ _ _ _ _ _ _ _ _ => zlaw_c16 (nI j) hg (hops.2.2.2.2.2.2.2.2.2.2.2.2.2.2.2.2.1 _ _ _ _ _) h kk
      · exact fun _ _ _ _ _ _ _ _ _ _ _ _ _ _ _ _ _ _ _ => zlaw_c17 (nI j) hg (hops.2.2.2.2.2.2.2.2.2.2.2.2.2.2.2.2.2.1 _ _ _) h kk
      · exact fun _ _ _ _ _ _ _ _ _ _ _ _ _ _ _ _ _ _ _ _ => zlaw_c18 (nI j) hg (hops.2.2.2.2.2.2.2.2.2.2.2.2.2.2.2.2.2.2.1 _ _ _) h kk
      · exact fun _ _ _ _ _ _ _ _ _ _ _ _ _ _ _ _ _ _ _ _ _ => zlaw_c19 (nI j) hg (hops.2.2.2.2.2.2.2.2.2.2.2.2.2.2.2.2.2.2.2.1 _ _ _) h kk
      · exact fun _ _ _ _ _ _ _ _ _ _ _ _ _ _ _ _ _ _ _ _ _ _ => zlaw_c20 (nI j) hg (hops.2.2.2.2.2.2.2.2.2.2.2.2.2.2.2.2.2.2.2.2.1 _ _ _ _) h kk
      · exact fun _ _ _ _ _ _ _ _ _ _ _ _ _ _ _ _ _ _ _ _ _ _ _ => zlaw_c21 (nI j) hg (hops.2.2.2.2.2.2.2.2.2.2.2.2.2.2.2.2.2.2.2.2.2.1 _ _ _) h kk
      · exact fun _ _ _ _ _ _ _ _ _ _ _ _ _ _ _ _ _ _ _ _ _ _ _ _ => zlaw_c22 (nI j) hg (hops.2.2.2.2.2.2.2.2.2.2.2.2.2.2.2.2.2.2.2.2.2.2.1 _ _) h kk
      · exact fun _ _ _ _ _ _ _ _ _ _ _ _ _ _ _ _ _ _ _ _ _ _ _ _ _ => zlaw_c23 (nI j) hg (hops.2.2.2.2.2.2.2.2.2.2.2.2.2.2.2.2.2.2.2.2.2.2.2.1 _ _ _ _) h kk
      · exact fun _ _ _ _ _ _ _ _ _ _ _ _ _ _ _ _ _ _ _ _ _ _ _ _ _ _ => zlaw_c24 (nI j) hg (hops.2.2.2.2.2.2.2.2.2.2.2.2.2.2.2.2.2.2.2.2.2.2.2.2.1 _ _ _) h kk
      · exact fun _ _ _ _ _ _ _ _ _ _ _ _ _ _ _ _ _ _ _ _ _ _ _ _ _ _ _ => zlaw_c25 (nI j) hg (hops.2.2.2.2.2.2.2.2.2.2.2.2.2.2.2.2.2.2.2.2.2.2.2.2.2.1 _ _ _ _) h kk
      · exact fun _ _ _ _ _ _ _ _ _ _ _ _ _ _ _ _ _ _ _ _ _ _ _ _ _ _ _ _ => zlaw_c26 (nI j) hg (hops.2.2.2.2.2.2.2.2.2.2.2.2.2.2.2.2.2.2.2.2.2.2.2.2.2.2.1) h kk
      · exact fun _ _ _ _ _ _ _ _ _ _ _ _ _ _ _ _ _ _ _ _ _ _ _ _ _ _ _ _ _ => zlaw_c27 (nI j) hg (hops.2.2.2.2.2.2.2.2.2.2.2.2.2.2.2.2.2.2.2.2.2.2.2.2.2.2.2.1) h kk
      · exact fun _ _ _ _ _ _ _ _ _ _ _ _ _ _ _ _ _ _ _ _ _ _ _ _ _ _ _ _ _ _ => zlaw_c28 (nI j) hg (hops.2.2.2.2.2.2.2.2.2.2.2.2.2.2.2.2.2.2.2.2.2.2.2.2.2.2.2.2 _) h kk
      · exact fun _ _ _ _ _ _ _ _ _ _ _ _ _ _ _ _ _ _ _ _ _ _ _ _ _ _ _ _ _ _ => kk K B M h
