/-- the length of an instruction -/
def zil : Instr → Nat
  | .bipush _ => 2
  | .sipush _ => 3
  | .ldc _ => 2
  | .ldc_w _ => 3
  | .ldc2_w _ => 3
  | .iload _ => 2
  | .lload _ => 2
  | .aload _ => 2
  | .istore _ => 2
  | .lstore _ => 2
  | .astore _ => 2
  | .iinc _ _ => 3
  | .ifCond _ _ => 3
  | .if_icmp _ _ => 3
  | .goto _ => 3
  | .getfield _ => 3
  | .putfield _ => 3
  | .getstatic _ => 3
  | .new _ => 3
  | .newarray _ => 2
  | .anewarray _ => 3
  | .invokestatic _ => 3
  | .invokevirtual _ => 3
  | .invokespecial _ => 3
  | _ => 1
def ztsB (pc : Nat) (lo : Int) : List Int → List (Int32 × Nat) → Bool
  | [], [] => true
  | o :: os, (k, t) :: r => decide (k.toInt = lo) && decide ((pc : Int) + o = (t : Int)) && ztsB pc (lo + 1) os r
  | _, _ => false
def zlsB (pc : Nat) : List (Int × Int) → List (Int32 × Nat) → Bool
  | [], [] => true
  | o :: os, (k, t) :: r => decide (k.toInt = o.1) && decide ((pc : Int) + o.2 = (t : Int)) && zlsB pc os r
  | _, _ => false
def zopB (pc : Nat) (e : zE) : Bool := match e.1 with
  | .iconst n => decide (Int32.ofInt n = e.2.1)
  | .bipush n => decide ((Int8.ofInt n).toInt32 = e.2.1)
  | .sipush n => decide ((Int16.ofInt n).toInt32 = e.2.1)
  | .iinc _ n => decide (Int32.ofInt n = e.2.1)
  | .ifCond _ o => decide ((pc : Int) + o = (e.2.2.1 : Int))
  | .if_icmp _ o => decide ((pc : Int) + o = (e.2.2.1 : Int))
  | .goto o => decide ((pc : Int) + o = (e.2.2.1 : Int))
  | .tableswitch d lo hi os => decide ((pc : Int) + d = (e.2.2.1 : Int)) && ztsB pc lo os.toList e.2.2.2 && decide (hi = lo + os.toList.length - 1) && decide (lo ≤ hi + 1)
  | .lookupswitch d ps => decide ((pc : Int) + d = (e.2.2.1 : Int)) && zlsB pc ps.toList e.2.2.2 && (ps.toList.zip (ps.toList.drop 1)).all (fun (a, next) => a.1 < next.1)
  | _ => true
def zsws : Instr → Bool
  | .tableswitch .. => true
  | .lookupswitch .. => true
  | _ => false
def zdcB (cc : ByteArray) (_ pc : Nat) (e : zE) : Bool := (match decode cc pc with
  | .ok (i, n) => decide (i = e.1) && (zsws i || Nat.beq n (zil i))
  | .error _ => false) && zopB pc e
def zrtB (rt : Nat) : Option FieldType → Bool
  | none => Nat.beq rt 0
  | some .int => Nat.beq rt 1
  | some .boolean => Nat.beq rt 2
  | some .long => Nat.beq rt 3
  | some (.object _) => Nat.beq rt 4
  | _ => false
/-- a method's rows -/
def zmiB (mi : Nat) : Bool := match zinfL[mi]?, znamL[mi]? with
  | some (own, ini, rt, mL, a, b, cd), some (y, by_, ret, row) => zall cd (zdcB by_) && zeqW row (.code y by_ mL ret) && decide (zcn[own]? = some y.cls) && plainName y.cls && (!ini || decide (y.name = "<init>")) && zrtB rt ret && Nat.ble mL 40
      && decide ((zlk zalL mi).getD (0, 0) = (a, b)) && decide (y.cls ≠ "java/lang/invoke/MethodHandle" ∧ y.cls ≠ "java/lang/invoke/VarHandle")
  | _, _ => false
def zAllOk : Prop := ∀ mi : Nat, mi < zinfL.length → zmiB mi = true
