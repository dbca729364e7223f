/-! ===== the constructors: an evaluator of the pure machine on closed memory ===== -/
abbrev zzN : Type := (Nat × Nat) × Nat × List (Nat × Nat × Nat) × List (Nat × Nat × Int32)
def zzaK : List (Nat × Nat × Nat) → Nat → Nat → Option Nat
  | [], _, _ => none
  | (c, k, v) :: r, a, b => bif Nat.beq a c then (bif Nat.beq b k then some v else zzaK r a b) else zzaK r a b
def zzaM : List (Nat × Nat × Int32) → Nat → Nat → Int32
  | [], _, _ => 0
  | (c, k, v) :: r, a, b => bif Nat.beq a c then (bif Nat.beq b k then v else zzaM r a b) else zzaM r a b
def zzem (X : zX) (s : zzN) : zS := (X, s.1, zLay.take s.2.1, zzaK s.2.2.1, fun _ _ => 0, zzaM s.2.2.2)
/-- what a step ends in: none (stuck), a next state, a return, a call -/
abbrev zzA : Type := Option ((Nat × List Value × List Value × zzN) ⊕ (zzN ⊕ (Nat × List Value × Nat × List Value × List Value × zzN)))
abbrev zzGo (pc : Nat) (ls st : List Value) (s : zzN) : zzA := some (.inl (pc, ls, st, s))
abbrev zzRet (s : zzN) : zzA := some (.inr (.inl s))
abbrev zzCal (mi : Nat) (as : List Value) (pc : Nat) (ls r : List Value) (s : zzN) : zzA := some (.inr (.inr (mi, as, pc, ls, r, s)))
abbrev zzBad : zzA := none
def zzgl (s : zzN) (a : Nat) : Option (Nat ⊕ (Nat × Nat)) := bif Nat.blt a s.2.1 then zget zLay a else none
def zzcndb : ClassFile.Cond → Int32 → Int32 → Bool
  | .eq, x, y => decide (x = y)
  | .ne, x, y => !decide (x = y)
  | .lt, x, y => decide (x < y)
  | .ge, x, y => decide (y ≤ x)
  | .gt, x, y => decide (y < x)
  | .le, x, y => decide (x ≤ y)
def zzvib (i : Int32) (n : Nat) : Bool := !(decide (i < 0)) && Nat.blt i.toNatClampNeg n
def zzfrK (n : Nat) : List (Nat × Nat × Nat) → Bool
  | [] => true
  | (c, _) :: r => bif Nat.beq n c then false else zzfrK n r
def zzfrM (n : Nat) : List (Nat × Nat × Int32) → Bool
  | [] => true
  | (c, _) :: r => bif Nat.beq n c then false else zzfrM n r
def zzfr (s : zzN) (n : Nat) : Bool := Nat.ble 1 s.1.1 && (Nat.ble n s.1.2 && (Nat.blt s.2.1 97 && (zzfrK s.2.1 s.2.2.1 && zzfrM s.2.1 s.2.2.2)))
def zzadd (s : zzN) (n : Nat) : zzN := ((s.1.1 - 1, s.1.2 - n), s.2.1 + 1, s.2.2.1, s.2.2.2)
def zzstM (pc : Nat) (ls r : List Value) (s : zzN) (a k : Nat) (x : Int32) : zzA := match decide (zzaM s.2.2.2 a k = x) with
  | true => zzGo pc ls r s
  | false => zzGo pc ls r (s.1, s.2.1, s.2.2.1, (a, k, x) :: s.2.2.2)
def zzstp (own : Nat) (ini : Bool) (rt : Nat) (e : zE) (pc : Nat) (ls st : List Value) (s : zzN) : zzA :=
  match e.1 with
  | .iconst _ => zzGo (pc + 1) ls (.int e.2.1 :: st) s
  | .bipush _ => zzGo (pc + 2) ls (.int e.2.1 :: st) s
  | .sipush _ => zzGo (pc + 3) ls (.int e.2.1 :: st) s
  | .iload_n k => (match zget ls k.val with
    | some (.int x) => zzGo (pc + 1) ls (.int x :: st) s
    | _ => zzBad)
  | .aload_n k => (match zget ls k.val with
    | some (.ref x) => zzGo (pc + 1) ls (.ref x :: st) s
    | _ => zzBad)
  | .istore_n k => (match st with
    | .int x :: r => bif Nat.blt k.val ls.length then zzGo (pc + 1) (zst1 ls k.val (.int x)) r s else zzBad
    | _ => zzBad)
  | .astore_n k => (match st with
    | .ref x :: r => bif Nat.blt k.val ls.length then zzGo (pc + 1) (zst1 ls k.val (.ref x)) r s else zzBad
    | _ => zzBad)
  | .iinc k _ => (match zget ls k with
    | some (.int x) => bif Nat.blt k ls.length then zzGo (pc + 3) (zst1 ls k (.int (x + e.2.1))) st s else zzBad
    | _ => zzBad)
  | .dup => (match st with
    | .ref a :: r => zzGo (pc + 1) ls (.ref a :: .ref a :: r) s
    | _ => zzBad)
  | .ifCond cd _ => (match st with
    | .int x :: r => bif zzcndb cd x 0 then zzGo e.2.2.1 ls r s else zzGo (pc + 3) ls r s
    | _ => zzBad)
  | .if_icmp cd _ => (match st with
    | .int y :: .int x :: r => bif zzcndb cd x y then zzGo e.2.2.1 ls r s else zzGo (pc + 3) ls r s
    | _ => zzBad)
  | .goto _ => zzGo e.2.2.1 ls st s
  | .getfield idx => (match zlk2 zflL own idx with
    | some (ci, k, kd, _, _) => (match st with
      | .ref a :: r => (match zzgl s a with
        | some (.inl ci') => bif Nat.beq ci ci' then (bif Nat.beq kd 1 then (match zzaK s.2.2.1 a k with
            | some j => zzGo (pc + 3) ls (.ref j :: r) s
            | none => zzBad) else zzGo (pc + 3) ls (.int (zzaM s.2.2.2 a k) :: r) s) else zzBad
        | _ => zzBad)
      | _ => zzBad)
    | none => zzBad)
  | .putfield idx => (match zlk2 zflL own idx with
    | some (ci, k, kd, fin, _) => (match st with
      | .int x :: .ref a :: r => (match zzgl s a with
        | some (.inl ci') => bif Nat.beq ci ci' && ((Nat.beq kd 0 || (Nat.beq kd 2 && (decide (x = 0) || decide (x = 1)))) && (!fin || (ini && Nat.beq own ci))) then zzstM (pc + 3) ls r s a k x else zzBad
        | _ => zzBad)
      | .ref x :: .ref a :: r => (match zzgl s a with
        | some (.inl ci') => bif Nat.beq ci ci' && (Nat.beq kd 1 && (!fin || (ini && Nat.beq own ci))) then zzGo (pc + 3) ls r (s.1, s.2.1, (a, k, x) :: s.2.2.1, s.2.2.2) else zzBad
        | _ => zzBad)
      | _ => zzBad)
    | none => zzBad)
  | .iaload => (match st with
    | .int i :: .ref a :: r => (match zzgl s a with
      | some (.inr (t, n)) => bif Nat.beq 0 t && zzvib i n then zzGo (pc + 1) ls (.int (zzaM s.2.2.2 a i.toNatClampNeg) :: r) s else zzBad
      | _ => zzBad)
    | _ => zzBad)
  | .iastore => (match st with
    | .int x :: .int i :: .ref a :: r => (match zzgl s a with
      | some (.inr (t, n)) => bif Nat.beq 0 t && zzvib i n then zzstM (pc + 1) ls r s a i.toNatClampNeg x else zzBad
      | _ => zzBad)
    | _ => zzBad)
  | .aastore => (match st with
    | .ref x :: .int i :: .ref a :: r => (match zzgl s a with
      | some (.inr (t, n)) => (match zzgl s x with
        | some (.inl c) => bif Nat.beq 4 t && (zzvib i n && Nat.beq c 8) then zzGo (pc + 1) ls r (s.1, s.2.1, (a, i.toNatClampNeg, x) :: s.2.2.1, s.2.2.2) else zzBad
        | _ => zzBad)
      | _ => zzBad)
    | _ => zzBad)
  | .arraylength => (match st with
    | .ref a :: r => (match zzgl s a with
      | some (.inr (t, n)) => bif Nat.blt t 5 then zzGo (pc + 1) ls (.int (Int32.ofNat n) :: r) s else zzBad
      | _ => zzBad)
    | _ => zzBad)
  | .new idx => (match zlk2 zccL own idx with
    | some (ci, _) => (match (zcl[ci]?).map (fun q => q.2.2) with
      | some N => (match zget zLay s.2.1 with
        | some (.inl ci') => bif Nat.beq ci ci' && zzfr s N then zzGo (pc + 3) ls (.ref s.2.1 :: st) (zzadd s N) else zzBad
        | _ => zzBad)
      | none => zzBad)
    | none => zzBad)
  | .newarray t => (match zaty t with
    | some t => (match st with
      | .int n :: r => (match zget zLay s.2.1 with
        | some (.inr (t', m)) => bif Nat.beq t t' && (Nat.beq n.toNatClampNeg m && (!(decide (n < 0)) && (Nat.ble m 100000 && zzfr s m))) then zzGo (pc + 2) ls (.ref s.2.1 :: r) (zzadd s m) else zzBad
        | _ => zzBad)
      | _ => zzBad)
    | none => zzBad)
  | .anewarray idx => (match zlk2 zccL own idx with
    | some (ci, _) => (match st with
      | .int n :: r => (match zget zLay s.2.1 with
        | some (.inr (t', m)) => bif Nat.beq 4 t' && (Nat.beq ci 8 && (Nat.beq n.toNatClampNeg m && (!(decide (n < 0)) && (Nat.ble m 100000 && zzfr s m)))) then zzGo (pc + 3) ls (.ref s.2.1 :: r) (zzadd s m) else zzBad
        | _ => zzBad)
      | _ => zzBad)
    | none => zzBad)
  | .invokestatic idx => (match zlk2 zmlL own idx with
    | some (mi, n, _, _, _) => bif Nat.beq mi 302 then zzBad else bif Nat.ble 303 mi then (match zmth mi st with
        | some (v, r) => bif Nat.ble (zcat r) 8 then zzGo (pc + 3) ls (v :: r) s else zzBad
        | none => zzBad)
      else (match ztake n [] st with
        | some (as, r) => bif Nat.ble (zcat r) 8 then zzCal mi as (pc + 3) ls r s else zzBad
        | none => zzBad)
    | none => zzBad)
  | .invokevirtual idx => (match zlk2 zmlL own idx with
    | some (mi, n, cl, _, _) => (match ztake n [] st with
      | some (as, .ref b :: r) => (match zzgl s b with
        | some (.inl c) => bif Nat.ble (zcat r) 8 && (Nat.beq cl c && Nat.blt cl 99) then zzCal mi (.ref b :: as) (pc + 3) ls r s else zzBad
        | _ => zzBad)
      | _ => zzBad)
    | none => zzBad)
  | .invokespecial idx => (match zlk2 zoiL own idx with
    | some _ => (match st with
      | .ref _ :: r => bif Nat.ble (zcat r) 8 then zzGo (pc + 3) ls r s else zzBad
      | _ => zzBad)
    | none => (match zlk2 zmlL own idx with
      | some (mi, n, _, _, _) => (match ztake n [] st with
        | some (as, .ref b :: r) => bif Nat.ble (zcat r) 8 then zzCal mi (.ref b :: as) (pc + 3) ls r s else zzBad
        | _ => zzBad)
      | none => zzBad))
  | .return_ => (match st with
    | [] => bif Nat.beq rt 0 then zzRet s else zzBad
    | _ => zzBad)
  | _ => zzBad
def zzgo (cev : Nat → List Value → zzN → Option zzN) (own : Nat) (ini : Bool) (rt : Nat) (cd : List (List (Nat × zE))) (stop : Nat) : Nat → Nat → List Value → List Value → zzN → zzA
  | 0, _, _, _, _ => zzBad
  | n + 1, pc, ls, st, s => bif Nat.beq pc stop then zzGo pc ls st s else match zlk2 cd (pc / 32) pc with
    | none => zzBad
    | some e => match zzstp own ini rt e pc ls st s with
      | some (.inl (pc', ls', st', s')) => zzgo cev own ini rt cd stop n pc' ls' st' s'
      | some (.inr (.inl s')) => zzRet s'
      | some (.inr (.inr (mi, as, pc', ls', r, s'))) => (match zlk zalL mi with
        | none => (match cev mi as ((0, 0), s'.2) with
          | some s2 => zzgo cev own ini rt cd stop n pc' ls' r (s'.1, s2.2)
          | none => zzBad)
        | some a => bif Nat.ble a.1 s'.1.1 && Nat.ble a.2 s'.1.2 then (match cev mi as (a, s'.2) with
          | some s2 => zzgo cev own ini rt cd stop n pc' ls' r ((s'.1.1 - a.1, s'.1.2 - a.2), s2.2)
          | none => zzBad) else zzBad)
      | none => zzBad
def zzev : Nat → Nat → List Value → zzN → Option zzN
  | 0, _, _, _ => none
  | d + 1, mi, as, s => match zinfL[mi]? with
    | some (own, ini, rt, mL, _, _, cd) => bif Nat.ble (zarg as).length mL then (match zzgo (zzev d) own ini rt cd 99999 9000 0 (zfill mL (zarg as)) [] s with
      | some (.inr (.inl s')) => some s'
      | _ => none) else none
    | none => none
/-- the memory behind both constructors, ahead of the law's loop -/
def zzrun : zzA := zzgo (zzev 10) 12 false 2 zc_law 18 100 0 [.ref 1000, .null, .null, .null] [] ((100, 20000), 0, [], [])
