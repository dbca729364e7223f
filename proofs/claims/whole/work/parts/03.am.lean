/-! ===== the pure machine: memory of small numbers, one rule an instruction, calls by contract ===== -/
abbrev zY : Type := List (Nat ⊕ (Nat × Nat))
abbrev zX : Type := Nat → Option (Nat × (Nat → Int32))
abbrev zS : Type := zX × (Nat × Nat) × zY × (Nat → Nat → Option Nat) × (Nat → Nat → Int64) × (Nat → Nat → Int32)
abbrev zE : Type := Instr × Int32 × Nat × List (Int32 × Nat)
def zu {α : Type} (M : Nat → Nat → α) (c k : Nat) (v : α) : Nat → Nat → α := fun c' => if c' = c then (fun k' => if k' = k then v else M c k') else M c'
def zget {α : Type} : List α → Nat → Option α
  | [], _ => none
  | a :: _, 0 => some a
  | _ :: t, n + 1 => zget t n
def zset {α : Type} : List α → Nat → α → List α
  | [], _, _ => []
  | _ :: t, 0, v => v :: t
  | a :: t, n + 1, v => a :: zset t n v
def zisL : Option Value → Bool
  | some v => Nat.beq v.category 2
  | none => false
def zclr (ls : List Value) : Nat → List Value
  | 0 => ls
  | j + 1 => bif zisL (zget ls j) then zset ls j .null else ls
def zst1 (ls : List Value) (i : Nat) (v : Value) : List Value := zset (zclr ls i) i v
def zst2 (ls : List Value) (i : Nat) (v : Value) : List Value := zset (zset (zclr ls i) i v) (i + 1) .null
def zcat : List Value → Nat
  | [] => 0
  | v :: t => v.category + zcat t
def zarg : List Value → List Value
  | [] => []
  | v :: t => bif Nat.beq v.category 2 then v :: .null :: zarg t else v :: zarg t
def zfill : Nat → List Value → List Value
  | 0, _ => []
  | n + 1, [] => .null :: zfill n []
  | n + 1, v :: t => v :: zfill n t
def ztake : Nat → List Value → List Value → Option (List Value × List Value)
  | 0, acc, st => some (acc, st)
  | _ + 1, _, [] => none
  | n + 1, acc, v :: st => ztake n (v :: acc) st
def zrv : Option Nat → Value
  | none => .null
  | some a => .ref a
def zsw (Q : Nat → Prop) (x : Int32) (d : Nat) : List (Int32 × Nat) → Prop
  | [] => Q d
  | (k, t) :: r => (x = k → Q t) ∧ (¬ x = k → zsw Q x d r)
/-- what a field of a class holds: true where it is a reference -/
def zfv (isR : Bool) (S : zS) (c k : Nat) : Value := bif isR then zrv (S.2.2.2.1 c k) else .int (S.2.2.2.2.2 c k)
def zput (S : zS) (c k : Nat) : Value → zS
  | .int x => (S.1, S.2.1, S.2.2.1, S.2.2.2.1, S.2.2.2.2.1, zu S.2.2.2.2.2 c k x)
  | .ref a => (S.1, S.2.1, S.2.2.1, zu S.2.2.2.1 c k (some a), S.2.2.2.2.1, S.2.2.2.2.2)
  | _ => S
def zbud (S : zS) (b : Nat × Nat) : zS := (S.1, b, S.2.2)
def znew (S : zS) (e : Nat ⊕ (Nat × Nat)) (n : Nat) : zS := (S.1, (S.2.1.1 - 1, S.2.1.2 - n), S.2.2.1 ++ [e], (fun c k => if c = S.2.2.1.length then none else S.2.2.2.1 c k), (fun c k => if c = S.2.2.1.length then 0 else S.2.2.2.2.1 c k), (fun c k => if c = S.2.2.1.length then 0 else S.2.2.2.2.2 c k))
def zcpy (M : Nat → Nat → Int32) (a b sp dp n : Nat) : Nat → Nat → Int32 := fun c => if c = b then va_cpy (M a) (M b) sp dp n else M c
/-- a link of a field: its class's number, its place, whether it is a reference, whether it is final -/
abbrev zFl : Type := Nat → Nat → Option (Nat × Nat × Bool × Bool)
/-- what the machine is told of the classes: links of fields, methods (number, how many arguments), numbers, classes; static arrays; texts; a method's class, room -/
abbrev zT : Type := zFl × (Nat → Nat → Option (Nat × Nat)) × (Nat → Nat → Option Int32) × (Nat → Nat → Option Int64) × (Nat → Nat → Option (Nat × Nat)) × (Nat → Nat → Option Nat) × (Nat → Nat → Option Nat) × (Nat → Nat × Nat × Nat)
def zibin : Instr → Option (Int32 → Int32 → Int32)
  | .iadd => some (fun x y => x + y)
  | .isub => some (fun x y => x - y)
  | .imul => some (fun x y => x * y)
  | .iand => some (fun x y => x &&& y)
  | .ior => some (fun x y => x ||| y)
  | .ixor => some (fun x y => x ^^^ y)
  | .ishl => some (fun x y => x <<< (y &&& 31))
  | .ishr => some (fun x y => x >>> (y &&& 31))
  | .iushr => some (fun x y => (x.toUInt32 >>> (y.toUInt32 &&& Int32.toUInt32 31)).toInt32)
  | _ => none
def zlbin : Instr → Option (Int64 → Int64 → Int64)
  | .ladd => some (fun x y => x + y)
  | .lsub => some (fun x y => x - y)
  | .lmul => some (fun x y => x * y)
  | _ => none
def zcnd : ClassFile.Cond → Int32 → Int32 → Prop
  | .eq, x, y => x = y
  | .ne, x, y => ¬ x = y
  | .lt, x, y => x < y
  | .ge, x, y => y ≤ x
  | .gt, x, y => y < x
  | .le, x, y => x ≤ y
def zaty : ArrayType → Option Nat
  | .int => some 0
  | .byte => some 1
  | .boolean => some 2
  | .long => some 3
  | _ => none
def znarr (t : Nat) (x : Int32) : Int32 := bif Nat.beq t 1 then vp_nar .byte x else vp_nar .boolean x
def zldi (ls : List Value) (i : Nat) (K : Value → Prop) : Prop := match zget ls i with
  | some (.int x) => K (.int x)
  | _ => False
def zldl (ls : List Value) (i : Nat) (K : Value → Prop) : Prop := match zget ls i with
  | some (.long x) => K (.long x)
  | _ => False
def zlda (ls : List Value) (i : Nat) (K : Value → Prop) : Prop := match zget ls i with
  | some (.ref x) => K (.ref x)
  | _ => False
def zlen (S : zS) (t a : Nat) : Option Nat := match zget S.2.2.1 a with
  | some (.inr (t', n)) => bif Nat.beq t t' then some n else none
  | _ => none
def zalen (S : zS) (a : Nat) : Option Nat := match zget S.2.2.1 a with
  | some (.inr (t, n)) => bif Nat.blt t 5 then some n else none
  | _ => none
/-- the JDK's Math -/
def zmth : Nat → List Value → Option (Value × List Value)
  | 303, .int y :: .int x :: r => some (.int (if x < y then y else x), r)
  | 304, .int y :: .int x :: r => some (.int (if y < x then y else x), r)
  | 305, .long y :: .long x :: r => some (.long (if y < x then y else x), r)
  | 306, .long y :: .long x :: r => some (.long (if y < x then x else y), r)
  | _, _ => none
def zpok : Nat → Value → Prop
  | 0, .int _ => True
  | 2, .int x => x = 0 ∨ x = 1
  | 1, .ref _ => True
  | _, _ => False
abbrev zC : Type := Nat → List Value → zS → (Option Value → zS → Prop) → Prop
abbrev zQ : Type := Nat → List Value → List Value → zS → Prop
def zcal (call : zC) (Q : zQ) (mi : Nat) (as : List Value) (pc : Nat) (ls r : List Value) (S : zS) : Prop :=
  match zlk zalL mi with
  | none => call mi as (zbud S (0, 0)) (fun v S' => Q pc ls (v.toList ++ r) (zbud S' S.2.1))
  | some a => a.1 ≤ S.2.1.1 ∧ a.2 ≤ S.2.1.2 ∧ call mi as (zbud S a) (fun v S' => Q pc ls (v.toList ++ r) (zbud S' (S.2.1.1 - a.1, S.2.1.2 - a.2)))
def ziS (call : zC) (own : Nat) (Q : zQ) (idx pc : Nat) (ls st : List Value) (S : zS) : Prop :=
  match zlk2 zmlL own idx with
  | some (mi, n, _, _, _) => bif Nat.beq mi 302 then
      (match st with
      | .int n :: .int dp :: .ref b :: .int sp :: .ref a :: r => ∃ n0 n1 : Nat, zlen S 0 a = some n0 ∧ zlen S 0 b = some n1 ∧ Nat.ble (zcat r) 8 = true ∧ ¬ sp < 0 ∧ ¬ dp < 0 ∧ ¬ n < 0 ∧ sp.toNatClampNeg + n.toNatClampNeg ≤ n0 ∧ dp.toNatClampNeg + n.toNatClampNeg ≤ n1 ∧
          Q (pc + 3) ls r (S.1, S.2.1, S.2.2.1, S.2.2.2.1, S.2.2.2.2.1, zcpy S.2.2.2.2.2 a b sp.toNatClampNeg dp.toNatClampNeg n.toNatClampNeg)
      | _ => False)
    else bif Nat.ble 303 mi then
      (match zmth mi st with
      | some (v, r) => Nat.ble (zcat r) 8 = true ∧ Q (pc + 3) ls (v :: r) S
      | none => False)
    else match ztake n [] st with
      | some (as, r) => Nat.ble (zcat r) 8 = true ∧ zcal call Q mi as (pc + 3) ls r S
      | none => False
  | none => False
def ziV (call : zC) (own : Nat) (Q : zQ) (idx pc : Nat) (ls st : List Value) (S : zS) : Prop :=
  match zlk2 zmlL own idx with
  | some (mi, n, cl, _, _) => match ztake n [] st with
      | some (as, .ref b :: r) => Nat.ble (zcat r) 8 = true ∧ ((cl = 99 → 2000 ≤ b ∧ b < 2015) ∧ (¬ cl = 99 → zget S.2.2.1 b = some (.inl cl))) ∧ zcal call Q mi (.ref b :: as) (pc + 3) ls r S
      | _ => False
  | none => False
def ziI (call : zC) (own : Nat) (Q : zQ) (idx pc : Nat) (ls st : List Value) (S : zS) : Prop :=
  match zlk2 zoiL own idx with
  | some _ => (match st with
      | .ref _ :: r => Nat.ble (zcat r) 8 = true ∧ Q (pc + 3) ls r S
      | _ => False)
  | none => match zlk2 zmlL own idx with
    | some (mi, n, _, _, _) => (match ztake n [] st with
      | some (as, .ref b :: r) => Nat.ble (zcat r) 8 = true ∧ zcal call Q mi (.ref b :: as) (pc + 3) ls r S
      | _ => False)
    | none => False
/-- what is asked of the state ahead of an instruction -/
def zwp (call : zC) (own : Nat) (ini : Bool) (rt : Nat) (Q : zQ) (F : Option Value → zS → Prop) (e : zE) (pc : Nat) (ls st : List Value) (S : zS) : Prop :=
  match e.1 with
  | .iconst _ => Q (pc + 1) ls (.int e.2.1 :: st) S
  | .bipush _ => Q (pc + 2) ls (.int e.2.1 :: st) S
  | .sipush _ => Q (pc + 3) ls (.int e.2.1 :: st) S
  | .lconst n => Q (pc + 1) ls (.long (Int64.ofNat n.val) :: st) S
  | .ldc idx => (match zlk2 zciL own idx with
    | some v => Q (pc + 2) ls (.int v.1 :: st) S
    | none => match zlk2 ztxL own idx with
      | some a => Q (pc + 2) ls (.ref a.1 :: st) S
      | none => False)
  | .ldc_w idx => (match zlk2 zciL own idx with
    | some v => Q (pc + 3) ls (.int v.1 :: st) S
    | none => False)
  | .ldc2_w idx => (match zlk2 zclL own idx with
    | some v => Q (pc + 3) ls (.long v.1 :: st) S
    | none => False)
  | .iload_n k => zldi ls k.val (fun v => Q (pc + 1) ls (v :: st) S)
  | .iload k => zldi ls k (fun v => Q (pc + 2) ls (v :: st) S)
  | .lload_n k => zldl ls k.val (fun v => Q (pc + 1) ls (v :: st) S)
  | .lload k => zldl ls k (fun v => Q (pc + 2) ls (v :: st) S)
  | .aload_n k => zlda ls k.val (fun v => Q (pc + 1) ls (v :: st) S)
  | .aload k => zlda ls k (fun v => Q (pc + 2) ls (v :: st) S)
  | .istore_n k => (match st with
    | .int x :: r => k.val < ls.length ∧ Q (pc + 1) (zst1 ls k.val (.int x)) r S
    | _ => False)
  | .istore k => (match st with
    | .int x :: r => k < ls.length ∧ Q (pc + 2) (zst1 ls k (.int x)) r S
    | _ => False)
  | .lstore_n k => (match st with
    | .long x :: r => k.val + 1 < ls.length ∧ Q (pc + 1) (zst2 ls k.val (.long x)) r S
    | _ => False)
  | .lstore k => (match st with
    | .long x :: r => k + 1 < ls.length ∧ Q (pc + 2) (zst2 ls k (.long x)) r S
    | _ => False)
  | .astore_n k => (match st with
    | .ref x :: r => k.val < ls.length ∧ Q (pc + 1) (zst1 ls k.val (.ref x)) r S
    | _ => False)
  | .astore k => (match st with
    | .ref x :: r => k < ls.length ∧ Q (pc + 2) (zst1 ls k (.ref x)) r S
    | _ => False)
  | .iinc k _ => k < ls.length ∧ zldi ls k (fun v => match v with
    | .int x => Q (pc + 3) (zst1 ls k (.int (x + e.2.1))) st S
    | _ => False)
  | .idiv => (match st with
    | .int y :: .int x :: r => ¬ y = 0 ∧ Q (pc + 1) ls (.int (x / y) :: r) S
    | _ => False)
  | .irem => (match st with
    | .int y :: .int x :: r => ¬ y = 0 ∧ Q (pc + 1) ls (.int (x - x / y * y) :: r) S
    | _ => False)
  | .ldiv => (match st with
    | .long y :: .long x :: r => ¬ y = 0 ∧ Q (pc + 1) ls (.long (x / y) :: r) S
    | _ => False)
  | .ineg => (match st with
    | .int x :: r => Q (pc + 1) ls (.int (-x) :: r) S
    | _ => False)
  | .lneg => (match st with
    | .long x :: r => Q (pc + 1) ls (.long (-x) :: r) S
    | _ => False)
  | .i2l => (match st with
    | .int x :: r => Q (pc + 1) ls (.long x.toInt64 :: r) S
    | _ => False)
  | .l2i => (match st with
    | .long x :: r => Q (pc + 1) ls (.int x.toInt32 :: r) S
    | _ => False)
  | .i2b => (match st with
    | .int x :: r => Q (pc + 1) ls (.int x.toInt8.toInt32 :: r) S
    | _ => False)
  | .lcmp => (match st with
    | .long y :: .long x :: r => Q (pc + 1) ls (.int (lg_cmp x y) :: r) S
    | _ => False)
  | .dup => (match st with
    | v :: r => v.category = 1 ∧ Q (pc + 1) ls (v :: v :: r) S
    | _ => False)
  | .dup_x1 => (match st with
    | v :: w :: r => v.category = 1 ∧ w.category = 1 ∧ Q (pc + 1) ls (v :: w :: v :: r) S
    | _ => False)
  | .dup2 => (match st with
    | v :: w :: r => v.category = 1 ∧ w.category = 1 ∧ Q (pc + 1) ls (v :: w :: v :: w :: r) S
    | _ => False)
  | .pop => (match st with
    | v :: r => v.category = 1 ∧ Q (pc + 1) ls r S
    | _ => False)
  | .ifCond cd _ => (match st with
    | .int x :: r => (zcnd cd x 0 → Q e.2.2.1 ls r S) ∧ (¬ zcnd cd x 0 → Q (pc + 3) ls r S)
    | _ => False)
  | .if_icmp cd _ => (match st with
    | .int y :: .int x :: r => (zcnd cd x y → Q e.2.2.1 ls r S) ∧ (¬ zcnd cd x y → Q (pc + 3) ls r S)
    | _ => False)
  | .goto _ => Q e.2.2.1 ls st S
  | .tableswitch _ _ _ _ => (match st with
    | .int x :: r => zsw (fun t => Q t ls r S) x e.2.2.1 e.2.2.2
    | _ => False)
  | .lookupswitch _ _ => (match st with
    | .int x :: r => zsw (fun t => Q t ls r S) x e.2.2.1 e.2.2.2
    | _ => False)
  | .getfield idx => (match zlk2 zflL own idx with
    | some (ci, k, kd, _, _) => (match st with
      | .ref a :: r => zget S.2.2.1 a = some (.inl ci) ∧ Q (pc + 3) ls (zfv (Nat.beq kd 1) S a k :: r) S
      | _ => False)
    | none => False)
  | .putfield idx => (match zlk2 zflL own idx with
    | some (ci, k, kd, fin, _) => (match st with
      | v :: .ref a :: r => zget S.2.2.1 a = some (.inl ci) ∧ zpok kd v ∧ (fin = true → ini = true ∧ own = ci) ∧ Q (pc + 3) ls r (zput S a k v)
      | _ => False)
    | none => False)
  | .getstatic idx => (match zlk2 zgsL own idx with
    | some a => Q (pc + 3) ls (.ref a.1 :: st) S
    | none => False)
  | .iaload => (match st with
    | .int i :: .ref a :: r => (match zlen S 0 a with
      | some n => vp_in i n ∧ Q (pc + 1) ls (.int (S.2.2.2.2.2 a i.toNatClampNeg) :: r) S
      | none => match S.1 a with
        | some x => vp_in i x.1 ∧ Q (pc + 1) ls (.int (x.2 i.toNatClampNeg) :: r) S
        | none => False)
    | _ => False)
  | .baload => (match st with
    | .int i :: .ref a :: r => (match zlen S 1 a with
      | some n => vp_in i n ∧ Q (pc + 1) ls (.int (S.2.2.2.2.2 a i.toNatClampNeg) :: r) S
      | none => match zlen S 2 a with
        | some n => vp_in i n ∧ Q (pc + 1) ls (.int (S.2.2.2.2.2 a i.toNatClampNeg) :: r) S
        | none => False)
    | _ => False)
  | .laload => (match st with
    | .int i :: .ref a :: r => (match zlen S 3 a with
      | some n => vp_in i n ∧ Q (pc + 1) ls (.long (S.2.2.2.2.1 a i.toNatClampNeg) :: r) S
      | none => False)
    | _ => False)
  | .aaload => (match st with
    | .int i :: .ref a :: r => (match zlen S 4 a with
      | some n => vp_in i n ∧ Q (pc + 1) ls (zrv (S.2.2.2.1 a i.toNatClampNeg) :: r) S
      | none => False)
    | _ => False)
  | .iastore => (match st with
    | .int x :: .int i :: .ref a :: r => (match zlen S 0 a with
      | some n => vp_in i n ∧ Q (pc + 1) ls r (S.1, S.2.1, S.2.2.1, S.2.2.2.1, S.2.2.2.2.1, zu S.2.2.2.2.2 a i.toNatClampNeg x)
      | none => False)
    | _ => False)
  | .bastore => (match st with
    | .int x :: .int i :: .ref a :: r => (match zlen S 1 a with
      | some n => vp_in i n ∧ Q (pc + 1) ls r (S.1, S.2.1, S.2.2.1, S.2.2.2.1, S.2.2.2.2.1, zu S.2.2.2.2.2 a i.toNatClampNeg (vp_nar .byte x))
      | none => match zlen S 2 a with
        | some n => vp_in i n ∧ Q (pc + 1) ls r (S.1, S.2.1, S.2.2.1, S.2.2.2.1, S.2.2.2.2.1, zu S.2.2.2.2.2 a i.toNatClampNeg (vp_nar .boolean x))
        | none => False)
    | _ => False)
  | .lastore => (match st with
    | .long x :: .int i :: .ref a :: r => (match zlen S 3 a with
      | some n => vp_in i n ∧ Q (pc + 1) ls r (S.1, S.2.1, S.2.2.1, S.2.2.2.1, zu S.2.2.2.2.1 a i.toNatClampNeg x, S.2.2.2.2.2)
      | none => False)
    | _ => False)
  | .aastore => (match st with
    | .ref x :: .int i :: .ref a :: r => (match zlen S 4 a with
      | some n => vp_in i n ∧ zget S.2.2.1 x = some (.inl 8) ∧ Q (pc + 1) ls r (S.1, S.2.1, S.2.2.1, zu S.2.2.2.1 a i.toNatClampNeg (some x), S.2.2.2.2.1, S.2.2.2.2.2)
      | none => False)
    | _ => False)
  | .arraylength => (match st with
    | .ref a :: r => (match zalen S a with
      | some n => Q (pc + 1) ls (.int (Int32.ofNat n) :: r) S
      | none => match S.1 a with
        | some x => Q (pc + 1) ls (.int (Int32.ofNat x.1) :: r) S
        | none => False)
    | _ => False)
  | .new idx => (match zlk2 zccL own idx with
    | some (ci, _) => ∃ N : Nat, (zcl[ci]?).map (fun q => q.2.2) = some N ∧ 1 ≤ S.2.1.1 ∧ N ≤ S.2.1.2 ∧ S.2.2.1.length < 1000 ∧ Q (pc + 3) ls (.ref S.2.2.1.length :: st) (znew S (.inl ci) N)
    | none => False)
  | .newarray t => (match zaty t with
    | some t => (match st with
      | .int n :: r => ¬ n < 0 ∧ n.toNatClampNeg ≤ 100000 ∧ 1 ≤ S.2.1.1 ∧ n.toNatClampNeg ≤ S.2.1.2 ∧ S.2.2.1.length < 1000 ∧ Q (pc + 2) ls (.ref S.2.2.1.length :: r) (znew S (.inr (t, n.toNatClampNeg)) n.toNatClampNeg)
      | _ => False)
    | none => False)
  | .anewarray idx => (match zlk2 zccL own idx with
    | some (ci, _) => (match st with
      | .int n :: r => ci = 8 ∧ ¬ n < 0 ∧ n.toNatClampNeg ≤ 100000 ∧ 1 ≤ S.2.1.1 ∧ n.toNatClampNeg ≤ S.2.1.2 ∧ S.2.2.1.length < 1000 ∧ Q (pc + 3) ls (.ref S.2.2.1.length :: r) (znew S (.inr (4, n.toNatClampNeg)) n.toNatClampNeg)
      | _ => False)
    | none => False)
  | .invokestatic idx => ziS call own Q idx pc ls st S
  | .invokevirtual idx => ziV call own Q idx pc ls st S
  | .invokespecial idx => ziI call own Q idx pc ls st S
  | .ireturn => (match st with
    | [.int v] => (rt = 1 ∨ (rt = 2 ∧ (v = 0 ∨ v = 1))) ∧ F (some (.int v)) S
    | _ => False)
  | .lreturn => (match st with
    | [.long v] => rt = 3 ∧ F (some (.long v)) S
    | _ => False)
  | .areturn => (match st with
    | [.ref v] => rt = 4 ∧ F (some (.ref v)) S
    | _ => False)
  | .return_ => st = [] ∧ rt = 0 ∧ F none S
  | i => match zibin i with
    | some f => (match st with
      | .int y :: .int x :: r => Q (pc + 1) ls (.int (f x y) :: r) S
      | _ => False)
    | none => match zlbin i with
      | some f => (match st with
        | .long y :: .long x :: r => Q (pc + 1) ls (.long (f x y) :: r) S
        | _ => False)
      | none => False
/-- the run of a body from a frame on: the least that the rules allow -/
def zEx (call : zC) (own : Nat) (ini : Bool) (rt : Nat) (cd : List (List (Nat × zE))) (F : Option Value → zS → Prop) (pc : Nat) (ls st : List Value) (S : zS) : Prop :=
  ∀ P : zQ, (∀ pc ls st S e, zlk2 cd (pc / 32) pc = some e → zwp call own ini rt P F e pc ls st S → P pc ls st S) → P pc ls st S
/-- texts: their length, and what stands at a place -/
def zprim (mi : Nat) (as : List Value) (S : zS) (F : Option Value → zS → Prop) : Prop := match mi, as with
  | 300, [.ref a] => ∃ t, zstb[a - 2000]? = some t ∧ 2000 ≤ a ∧ F (some (.int (Int32.ofNat t.length))) S
  | 301, [.ref a, .int i] => ∃ t, zstb[a - 2000]? = some t ∧ 2000 ≤ a ∧ vp_in i t.length ∧ F (some (.int (t.getD i.toNatClampNeg 0))) S
  | _, _ => False
def zCall : Nat → zC
  | 0, _, _, _, _ => False
  | d + 1, mi, as, S, F => match zinfL[mi]? with
    | some (own, ini, rt, mL, _, _, cd) => (zarg as).length ≤ mL ∧ zEx (zCall d) own ini rt cd F 0 (zfill mL (zarg as)) [] S
    | none => 2 ≤ d ∧ zprim mi as S F
