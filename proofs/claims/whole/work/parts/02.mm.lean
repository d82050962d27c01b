/-! A SMALL MACHINE. The program's whole memory (80 cells, all made by the two constructors) is a function of cell and place
to a number; methods run on it by their instructions, read from tables. Everything about the class and the reference is said
of this machine; that the real machine does what the small one does is proved once, instruction by instruction. -/
/-- a value: an int, a long, a reference (a cell's number; from 1000 on: what was there at the start) -/
abbrev MV : Type := Int ⊕ (Int ⊕ Nat)
/-- memory: cell, place, number -/
abbrev ME : Type := Nat → Int → Int
/-- references in fields: cell, place, cell -/
abbrev MR : Type := Nat → Nat → Option Nat
abbrev IE : Type := Instr × Nat × Int × Nat × Nat × List (Int × Nat)
def i32 (x : Int) : Int := (Int32.ofInt x).toInt
def i64 (x : Int) : Int := (Int64.ofInt x).toInt
def iad (a b : Int) : Int := i32 (a + b)
def isb (a b : Int) : Int := i32 (a - b)
def iml (a b : Int) : Int := i32 (a * b)
def ing (a : Int) : Int := i32 (-a)
def idv (a b : Int) : Int := (Int32.ofInt a / Int32.ofInt b).toInt
def irm (a b : Int) : Int := (Int32.ofInt a - Int32.ofInt a / Int32.ofInt b * Int32.ofInt b).toInt
def ian (a b : Int) : Int := (Int32.ofInt a &&& Int32.ofInt b).toInt
def iro (a b : Int) : Int := (Int32.ofInt a ||| Int32.ofInt b).toInt
def ixr (a b : Int) : Int := (Int32.ofInt a ^^^ Int32.ofInt b).toInt
def isl (a b : Int) : Int := (Int32.ofInt a <<< (Int32.ofInt b &&& 31)).toInt
def isr (a b : Int) : Int := (Int32.ofInt a >>> (Int32.ofInt b &&& 31)).toInt
def isu (a b : Int) : Int := (((Int32.ofInt a).toUInt32 >>> ((Int32.ofInt b).toUInt32 &&& Int32.toUInt32 31)).toInt32).toInt
def lad (a b : Int) : Int := i64 (a + b)
def lsb (a b : Int) : Int := i64 (a - b)
def lml (a b : Int) : Int := i64 (a * b)
def lng (a : Int) : Int := i64 (-a)
def ldv (a b : Int) : Int := (Int64.ofInt a / Int64.ofInt b).toInt
def lrm (a b : Int) : Int := (Int64.ofInt a - Int64.ofInt a / Int64.ofInt b * Int64.ofInt b).toInt
def lan (a b : Int) : Int := (Int64.ofInt a &&& Int64.ofInt b).toInt
def lor_ (a b : Int) : Int := (Int64.ofInt a ||| Int64.ofInt b).toInt
def lsl_ (a b : Int) : Int := (Int64.ofInt a <<< ((Int32.ofInt b).toInt64 &&& 63)).toInt
def lcm_ (a b : Int) : Int := if a < b then -1 else if a = b then 0 else 1
def imx (a b : Int) : Int := if a < b then b else a
def imn (a b : Int) : Int := if b < a then b else a
def iab (a : Int) : Int := if 0 ≤ a then a else isb 0 a
def l2i_ (a : Int) : Int := (Int64.ofInt a).toInt32.toInt
def i2b_ (a : Int) : Int := (Int32.ofInt a).toInt8.toInt32.toInt
def i2s_ (a : Int) : Int := (Int32.ofInt a).toInt16.toInt32.toInt
def i2c_ (a : Int) : Int := ((Int32.ofInt a).toUInt32 % 65536).toInt32.toInt
/-- memory with one place changed -/
def upd_ (I : ME) (c : Nat) (i v : Int) : ME := fun c' i' => if c' = c ∧ i' = i then v else I c' i'
def updR (R : MR) (c i v : Nat) : MR := fun c' i' => if c' = c ∧ i' = i then some v else R c' i'
/-- locals, walked so that what comes out is written out -/
def getL.{u} {α : Sort u} (bad : α) : List (Option MV) → Nat → (MV → α) → α
  | [], _, _ => bad
  | h :: _, 0, K => match h with
    | some v => K v
    | none => bad
  | _ :: t, i + 1, K => getL bad t i K
/-- a value of one slot is stored; a long just ahead of it is gone -/
def setL.{u} {α : Sort u} (bad : α) : List (Option MV) → Nat → MV → (List (Option MV) → α) → α
  | [], _, _, _ => bad
  | _ :: t, 0, v, K => K (some v :: t)
  | h :: t, i + 1, v, K => match i, h with
    | 0, some (.inr (.inl _)) => setL bad t i v fun t' => K (none :: t')
    | _, _ => setL bad t i v fun t' => K (h :: t')
/-- a long is stored -/
def setL2.{u} {α : Sort u} (bad : α) : List (Option MV) → Nat → MV → (List (Option MV) → α) → α
  | [], _, _, _ => bad
  | _ :: t, 0, v, K => match t with
    | [] => bad
    | _ :: t' => K (some v :: none :: t')
  | h :: t, i + 1, v, K => match i, h with
    | 0, some (.inr (.inl _)) => setL2 bad t i v fun t' => K (none :: t')
    | _, _ => setL2 bad t i v fun t' => K (h :: t')
/-- the arguments of a call off the stack, the first one first -/
def popN.{u} {α : Sort u} (bad : α) : Nat → List MV → List MV → (List MV → List MV → α) → α
  | 0, st, acc, K => K acc st
  | _ + 1, [], _, _ => bad
  | n + 1, v :: st, acc, K => popN bad n st (v :: acc) K
def padN.{u} {α : Sort u} : Nat → (List (Option MV) → α) → α
  | 0, K => K []
  | n + 1, K => padN n fun t => K (none :: t)
def entS.{u} {α : Sort u} (bad : α) : List MV → Nat → (List (Option MV) → α) → α
  | [], n, K => padN n K
  | .inl x :: vs, n, K => match n with
    | 0 => bad
    | n' + 1 => entS bad vs n' fun t => K (some (.inl x) :: t)
  | .inr (.inl x) :: vs, n, K => match n with
    | n' + 2 => entS bad vs n' fun t => K (some (.inr (.inl x)) :: none :: t)
    | _ => bad
  | .inr (.inr x) :: vs, n, K => match n with
    | 0 => bad
    | n' + 1 => entS bad vs n' fun t => K (some (.inr (.inr x)) :: t)
/-- a method's locals at its entry: n of them in all -/
def entL.{u} {α : Sort u} (bad : α) (n : Nat) (as : List MV) (K : List (Option MV) → α) : α := entS bad as n K
def elemN : Nat → List Nat → Bool
  | _, [] => false
  | a, b :: t => bif Nat.beq a b then true else elemN a t
/-- a branch: a condition that isn't decided by numbers alone stays as it is -/
def brc.{u} {α : Sort u} (c : Prop) (h : Decidable c) (a b : α) : α := match h with
  | .isTrue _ => a
  | .isFalse _ => b
/-- a switch: the first case that is it -/
def swK.{u} {α : Sort u} (x : Int) (dflt : Nat) (K : Nat → α) : List (Int × Nat) → α
  | [] => K dflt
  | (i, t) :: r => brc (x = i) (Int.instDecidableEq x i) (K t) (swK x dflt K r)
/-- the machine's own functions of ints: 9003 abs, 9004 max, 9005 min -/
def primK.{u} {α : Sort u} (bad : α) (y : Nat) (as : List MV) (K : Int → α) : α := match as with
  | [.inl a] => bif Nat.beq y 9003 then K (iab a) else bad
  | [.inl a, .inl b] => bif Nat.beq y 9004 then K (imx a b) else bif Nat.beq y 9005 then K (imn a b) else bad
  | _ => bad
