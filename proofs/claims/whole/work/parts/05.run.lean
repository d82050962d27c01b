/-! the run: what the small machine does, and how conditions are read off it -/
/-- the class of the receiver of a method (999: static; 100: a text) -/
def CLL : List Nat := [0, 999, 999, 0, 0, 0, 0, 0, 0, 0, 0, 0, 1, 1, 1, 999, 1, 1, 2, 2, 2, 2, 2, 2, 2, 3, 3, 3, 3, 3, 3, 3, 999, 4, 4, 4, 4, 4, 4, 4, 4, 4, 4, 4, 4, 4, 4, 4, 4, 4, 4, 4, 4, 4, 4, 4, 4, 4, 999, 4, 4, 5, 5, 5, 5, 5, 6, 6, 6, 6, 6, 6, 6, 6, 6, 6, 6, 6, 6, 6, 6, 6, 6, 6, 6, 6, 6, 6, 6, 7, 7, 7, 7, 7, 7, 7, 7, 7, 7, 7, 7, 999, 7, 8, 8, 8, 8, 8, 8, 8, 999, 8, 8, 8, 8, 8, 9, 9, 9, 9, 9, 9, 9, 9, 9, 9, 9, 9, 9, 10, 10, 10, 10, 10, 10, 10, 10, 10, 10, 10, 10, 10, 10, 10, 10, 10, 10, 10, 10, 10, 10, 10, 10, 10, 10, 10, 10, 10, 10, 10, 10, 10, 10, 10, 10, 10, 10, 10, 10, 10, 10, 10, 10, 10, 10, 999, 999, 999, 999, 999, 10, 10, 10, 999, 999, 999, 999, 999, 999, 999, 11, 11, 11, 11, 11, 999, 999, 11, 11, 11, 11, 999, 11, 11, 11, 11, 999, 11, 11, 11, 11, 11, 11, 11, 11, 11, 11, 11, 999, 11, 11, 11, 11, 11, 11, 11, 11, 11, 11, 11, 999, 999, 11, 11, 999, 999, 999, 11, 11, 11, 11, 999, 11, 11, 11, 11, 11, 11, 11, 11, 11, 11, 11, 11, 11, 11, 11, 11, 11, 11, 11, 11, 11, 11, 11, 11, 11, 11, 11, 11, 11, 11, 11, 11, 11, 11, 11, 999, 11, 11, 11, 11, 11, 11, 11, 999, 11, 11, 11, 999, 11, 11, 11, 11, 11, 999, 999, 999, 999, 100, 100, 100, 100, 100, 999, 999, 999, 999, 999, 999, 999, 999]
abbrev MS : Type := Nat × MR × ME
def kindC (c : Nat) : Nat × Nat × Nat := KDL.getD c (9, 0, 0)
def isO (c z : Nat) : Bool := kdK false c fun kd _ ci => Nat.beq kd 2 && Nat.beq ci z
def isA (c t : Nat) : Bool := kdK false c fun kd _ _ => Nat.beq kd t
def lenA (c : Nat) : Int := kdK 0 c fun _ n _ => n
def ITf (k : Nat) : Nat → Option IE := gT (ITL.getD k (0, fun _ => none)).1 (ITL.getD k (0, fun _ => none)).2
def maxM (k : Nat) : Nat := (MIL.getD k (0, 9)).1
def retM (k : Nat) : Nat := (MIL.getD k (0, 9)).2
def clsM (k : Nat) : Nat := CLL.getD k 998
def catS : List MV → Nat
  | [] => 0
  | .inr (.inl _) :: t => catS t + 2
  | _ :: t => catS t + 1
/-- the receiver is one of that class -/
def rcvB (k : Nat) (as : List MV) : Bool := bif Nat.beq (clsM k) 999 then true else match as with
  | .inr (.inr c) :: _ => bif Nat.beq (clsM k) 100 then Nat.blt 1099 c && Nat.blt c 1200 else isO c (clsM k)
  | _ => false
def retB (rc : Nat) (v : MV) : Bool := match rc, v with
  | 1, .inl _ => true
  | 2, .inl b => decide (b = 0) || decide (b = 1)
  | 3, .inr (.inl _) => true
  | 4, .inr (.inr _) => true
  | 5, .inl b => decide (-128 ≤ b) && decide (b ≤ 127)
  | _, _ => false
def stpT (E : IE) (ls : List (Option MV)) (st : List MV) (S : MS) : Option (Nat × List (Option MV) × List MV × MS) :=
  stp none (fun i n a => if 0 ≤ i ∧ i < n then a else none) (fun b a => if b = 0 then none else a) (fun v a => brc (v = 0) (Int.instDecidableEq v 0) a (brc (v = 1) (Int.instDecidableEq v 1) a none))
    (fun c j K => match S.2.1 c j with
      | some c' => K c'
      | none => none) (fun S c i K => K (S.2.2 c i)) (fun S c i v => (S.1, S.2.1, upd_ S.2.2 c i v)) E ls st S (fun a b c d => some (a, b, c, d))
/-- n places of a row laid into another (or the same), as they all were before -/
def cpyM (I : ME) (c0 : Nat) (sp : Int) (c1 : Nat) (dp n : Int) : ME := fun c i => if c = c1 ∧ dp ≤ i ∧ i < dp + n then I c0 (sp + (i - dp)) else I c i
def cpyB (c0 : Nat) (sp : Int) (c1 : Nat) (dp n : Int) : Bool := ((isA c0 0 && isA c1 0) || (isA c0 1 && isA c1 1)) && decide (0 ≤ sp) && decide (0 ≤ dp) && decide (0 ≤ n) && decide (sp + n ≤ lenA c0) && decide (dp + n ≤ lenA c1)
def run : Nat → Nat → Nat → Nat → List (Option MV) → List MV → MS → Option (Option MV × MS)
  | 0, _, _, _, _, _, _ => none
  | n + 1, d, k, pc, ls, st, S => match ITf k pc with
    | none => none
    | some (ins, nx, x, y, z, sw) => match ins with
      | .return_ => match retM k, st with
        | 0, [] => some (none, S)
        | _, _ => none
      | .ireturn | .lreturn | .areturn => match st with
        | [v] => bif retB (retM k) v then some (some v, S) else none
        | _ => none
      | .invokevirtual _ | .invokespecial _ | .invokestatic _ => match d with
        | 0 => none
        | d' + 1 => match popN none z st [] (fun as rest => some (as, rest)) with
          | none => none
          | some (as, rest) => bif Nat.blt 8 (catS rest) then none else bif Nat.beq y 9001 then (match as with
              | [.inr (.inr c)] => bif Nat.blt c 1000 then run n (d' + 1) k nx ls rest S else none
              | _ => none)
            else bif Nat.beq y 9002 then (match as with
              | [.inr (.inr c0), .inl sp, .inr (.inr c1), .inl dp, .inl m] => bif cpyB c0 sp c1 dp m && Nat.beq S.1 80 then run n (d' + 1) k nx ls rest (S.1, S.2.1, cpyM S.2.2 c0 sp c1 dp m) else none
              | _ => none)
            else bif Nat.blt 9002 y then primK none y as fun v => run n (d' + 1) k nx ls (.inl v :: rest) S
            else bif rcvB y as then (match entL none (maxM y) as some with
              | none => none
              | some ls' => match run n d' y 0 ls' [] S with
                | none => none
                | some (none, S') => run n (d' + 1) k nx ls rest S'
                | some (some v, S') => run n (d' + 1) k nx ls (v :: rest) S')
            else none
      | .new _ => bif isO S.1 z then run n d k nx ls (.inr (.inr S.1) :: st) (S.1 + 1, S.2) else none
      | .newarray t => match st with
        | .inl m :: st' => bif (match t with
            | .int => isA S.1 0
            | .long => isA S.1 1
            | _ => false) && decide (m = lenA S.1) then run n d k nx ls (.inr (.inr S.1) :: st') (S.1 + 1, S.2) else none
        | _ => none
      | .putfield i => match y with
        | j + 3 => match st with
          | .inr (.inr v) :: .inr (.inr c) :: st' => bif isO c z && Nat.blt v 1000 then run n d k nx ls st' (S.1, updR S.2.1 c j v, S.2.2) else none
          | _ => none
        | _ => match stpT (.putfield i, nx, x, y, z, sw) ls st S with
          | none => none
          | some (pc', ls', st', S') => run n d k pc' ls' st' S'
      | _ => match stpT (ins, nx, x, y, z, sw) ls st S with
        | none => none
        | some (pc', ls', st', S') => run n d k pc' ls' st' S'
def runM (n d k : Nat) (as : List MV) (S : MS) : Option (Option MV × MS) := match entL none (maxM k) as some with
  | none => none
  | some ls => run n d k 0 ls [] S
