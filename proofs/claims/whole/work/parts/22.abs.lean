/-! ===== what is meant: sets of places, miles, code of clauses ===== -/
/-- the set of those k below n with f, as a number -/
def zsb (f : Nat → Bool) : Nat → Nat
  | 0 => 0
  | k + 1 => zsb f k ||| (bif f k then 2 ^ k else 0)
/-- canal data: cells 3 to 8 of the class, as numbers -/
def zcd (M : Nat → Nat → Int32) : Nat → Nat → Nat := fun c i => if 3 ≤ c ∧ c ≤ 8 then (M c i).toNatClampNeg else 0
/-- the same out of the reference's row -/
def zrd (A : Nat → Int32) : Nat → Nat → Nat := fun c i => if 3 ≤ c ∧ c ≤ 5 then (A (17 + c + 3 * i)).toNatClampNeg else if 6 ≤ c ∧ c ≤ 8 then (A (64 + c + 3 * i)).toNatClampNeg else 0
/-- is way w shut on day d by one of the first s spans -/
def zshut (g : Nat → Nat → Nat) (w d : Nat) : Nat → Bool
  | 0 => false
  | s + 1 => zshut g w d s || (Nat.beq (g 6 s) w && (Nat.ble (g 7 s) d && Nat.ble d (g 8 s)))
def zup2 (r : Nat → Nat → Nat) (p q v : Nat) : Nat → Nat → Nat := fun x y => if (x = q ∧ y = p) ∨ (x = p ∧ y = q) then v else r x y
/-- miles by single ways (the first k); 100000 where there is none; day 60: nothing is shut -/
def zW (g : Nat → Nat → Nat) (s d : Nat) : Nat → Nat → Nat → Nat
  | 0 => fun x y => if x = y then 0 else 100000
  | k + 1 => if d = 60 ∨ zshut g k d s = false then zup2 (zW g s d k) (g 3 k) (g 4 k) (Nat.min (g 5 k) (zW g s d k (g 3 k) (g 4 k))) else zW g s d k
def zFs (k : Nat) (r : Nat → Nat → Nat) : Nat → Nat → Nat := fun x y => Nat.min (r x y) (r x k + r k y)
def zFW (r : Nat → Nat → Nat) : Nat → Nat → Nat → Nat
  | 0 => r
  | k + 1 => zFs k (zFW r k)
/-- the least miles on a day: w ways, s spans that are shut -/
def zD (g : Nat → Nat → Nat) (w s d : Nat) : Nat → Nat → Nat := zFW (zW g s d w) 10
/-- a step of a clause (kind, number) on both sides -/
def zcc (t : Nat × Nat) : Int32 := nI (256 * t.2 + t.1)
def zrop (t : Nat × Nat) : Int32 :=
  match t.1 with
  | 2 => 400 | 7 => 401 | 8 => 401 | 9 => 401 | 10 => 401 | 11 => 401 | 12 => 401 | 13 => 401
  | 14 => 407 | 15 => 406 | 16 => 405 | 17 => 60 | 18 => 300 | 19 => 62 | 20 => 301 | 21 => 61 | 22 => 35
  | 23 => 43 | 24 => 45 | 25 => 42 | 26 => 47 | 30 => 402 | _ => 0
def zrov (t : Nat × Nat) : Int32 := if t.1 = 2 then nI t.2 else if 7 ≤ t.1 ∧ t.1 ≤ 13 then nI (t.1 - 7) else 0
/-- names that a clause may have; whether a clause asks -/
def zmsk : Nat → Nat
  | 0 => 31 | 1 => 3 | 2 => 35 | _ => 64
def zask : Nat → Bool
  | 0 => true | 2 => true | _ => false
/-- steps over a pile of answers: true for what is asked, false for a number; at most 32 lie there -/
def zty1 (mask : Nat) (t : Nat × Nat) (s : List Bool) : Option (List Bool) :=
  if t.1 = 2 then (if t.2 ≤ 9999 ∧ s.length < 32 then some (false :: s) else none)
  else if 7 ≤ t.1 ∧ t.1 ≤ 13 then (if mask.testBit (t.1 - 7) = true ∧ t.2 = 0 ∧ s.length < 32 then some (false :: s) else none)
  else if t.2 = 0 then (match s with
    | false :: false :: r => if 17 ≤ t.1 ∧ t.1 ≤ 22 then some (true :: r) else if 23 ≤ t.1 ∧ t.1 ≤ 26 then some (false :: r) else if t.1 = 30 then some s else none
    | true :: true :: r => if t.1 = 14 ∨ t.1 = 15 then some (true :: r) else if t.1 = 16 then some s else none
    | false :: _ => if t.1 = 30 then some s else none
    | true :: _ => if t.1 = 16 then some s else none
    | [] => none)
  else none
def zty (mask : Nat) : List (Nat × Nat) → List Bool → Option (List Bool)
  | [], s => some s
  | t :: c, s => match zty1 mask t s with
    | some s' => zty mask c s'
    | none => none
