/-! what a program checks of the tables: each instruction is the class file's, its words stand in the Statement's tables -/
def yM (k : Nat) : MethodName := yML.getD k yL_law
def cdM (k : Nat) : ByteArray := cdL.getD k cL_law
def rtM (k : Nat) : Option FieldType := rtL.getD k none
def ownM (k : Nat) : String := (yM k).cls
def clT (z : Nat) : vw_C := clL.getD z (RX0, TX0, 0)
def ftT (z j : Nat) : Nat := (ftL.getD z []).getD j 9
def wAt (h : Nat) (w : Jvm.Cond) : Bool := decide (tables_1[h]? = some w)
def irB (n : Int) : Bool := decide (-2147483648 ≤ n) && decide (n ≤ 2147483647)
def irLB (n : Int) : Bool := decide (-9223372036854775808 ≤ n) && decide (n ≤ 9223372036854775807)
def hintA (pc : Nat) : List (Nat × Nat) → Nat
  | [] => 0
  | (a, h) :: t => bif Nat.beq pc a then h else hintA pc t
def okF (k i : Nat) (z j h : Nat) : Bool :=
  wAt h (.fieldLink (ownM k) i ((clT z).2.1 j).1 ((clT z).2.1 j).2.1 ((clT z).2.1 j).2.2.1) || wAt h (.fieldLinkNest (ownM k) i ((clT z).2.1 j).1 ((clT z).2.1 j).2.1 ((clT z).2.1 j).2.2.1 "LotteryOfLosses")
def okC (k i y h : Nat) : Bool := wAt h (.methodLink (ownM k) i (yM y)) || wAt h (.methodLinkNest (ownM k) i (yM y) "LotteryOfLosses")
/-- the methods that are run by their code -/
def okY (y : Nat) : Bool := Nat.blt y 311 && !(Nat.blt 295 y && Nat.blt y 299)
def primN (y : Nat) : MethodName := bif Nat.beq y 9003 then Jvm.Lib.Math.abs.name else bif Nat.beq y 9004 then Jvm.Lib.Math.max.name else Jvm.Lib.Math.min.name
def okB (k pc : Nat) (E : IE) (h : Nat) : Bool := match E with
  | (ins, nx, x, y, z, sw) => decide (decode (cdM k) pc = .ok (ins, nx - pc)) && (match ins with
    | .iconst n => Nat.beq nx (pc + 1) && irB n
    | .bipush n => Nat.beq nx (pc + 2) && irB n && decide ((Int8.ofInt n).toInt32 = Int32.ofInt n)
    | .sipush n => Nat.beq nx (pc + 3) && irB n && decide ((Int16.ofInt n).toInt32 = Int32.ofInt n)
    | .lconst n => Nat.beq nx (pc + 1) && irLB x && decide (Int64.ofNat n.val = Int64.ofInt x)
    | .ldc i => Nat.beq nx (pc + 2) && (bif Nat.beq y 0 then irB x && wAt h (.constant (ownM k) i (Int32.ofInt x)) else decide ((ownM k, i, y - 1100) ∈ SPL) && Nat.ble 1100 y && Nat.blt y 1110)
    | .ldc_w i => Nat.beq nx (pc + 3) && irB x && wAt h (.constant (ownM k) i (Int32.ofInt x))
    | .ldc2_w i => Nat.beq nx (pc + 3) && irLB x && wAt h (.constantLong (ownM k) i (Int64.ofInt x))
    | .iload _ | .lload _ | .aload _ | .istore _ | .lstore _ | .astore _ => Nat.beq nx (pc + 2)
    | .iinc _ n => Nat.beq nx (pc + 3)
    | .ifCond _ o => Nat.beq nx (pc + 3) && decide ((pc : Int) + o = (y : Int))
    | .if_icmp _ o => Nat.beq nx (pc + 3) && decide ((pc : Int) + o = (y : Int))
    | .goto o => Nat.beq nx (pc + 3) && decide ((pc : Int) + o = (y : Int))
    | .tableswitch df lo hi offs => decide ((pc : Int) + df = (y : Int)) && decide (hi = lo + sw.length - 1) && decide (offs.toList.length = sw.length) && (List.range sw.length).all (fun j => match sw[j]?, offs[j]? with
        | some q, some o => decide (q.1 = lo + j) && decide ((pc : Int) + o = (q.2 : Int))
        | _, _ => false)
    | .lookupswitch df ps => decide ((pc : Int) + df = (y : Int)) && decide (ps.toList.map (fun q => (q.1, (pc : Int) + q.2)) = sw.map (fun q => (q.1, (q.2 : Int)))) && (ps.toList.zip (ps.toList.drop 1)).all (fun (a, next) => a.1 < next.1)
    | .getfield i => Nat.beq nx (pc + 3) && (bif Nat.beq z 100 then decide (x = 0) && (bif Nat.beq y 3 then wAt h (.fieldLink (ownM k) i "java/lang/String" "value" "[B") else wAt h (.fieldLink (ownM k) i "java/lang/String" "coder" "B"))
        else Nat.blt z 12 && decide (0 ≤ x) && Nat.blt x.toNat (clT z).2.2 && okF k i z x.toNat h && Nat.beq (ftT z x.toNat) (min y 3) && (Nat.blt y 3 || Nat.beq y (x.toNat + 3)))
    | .putfield i => Nat.beq nx (pc + 3) && Nat.blt z 12 && decide (0 ≤ x) && Nat.blt x.toNat (clT z).2.2 && okF k i z x.toNat h && Nat.beq (ftT z x.toNat) (min y 3) && (Nat.blt y 3 || Nat.beq y (x.toNat + 3))
        && (!((clT z).2.1 x.toNat).2.2.2 || (decide ((yM k).name = "<init>") && decide (((clT z).2.1 x.toNat).1 = ownM k) && wAt h (.fieldLink (ownM k) i ((clT z).2.1 x.toNat).1 ((clT z).2.1 x.toNat).2.1 ((clT z).2.1 x.toNat).2.2.1)))
    | .getstatic i => Nat.beq nx (pc + 3) && (bif Nat.beq y 0 then decide (x = 1) && wAt h (.fieldLink (ownM k) i "java/lang/String" "COMPACT_STRINGS" "Z") else bif Nat.beq y 1001 then wAt h (.fieldLink (ownM k) i "LotteryOfLosses$Acts" "ABOVE" "[I") else Nat.beq y 1002 && wAt h (.fieldLink (ownM k) i "LotteryOfLosses$Acts" "BODIES" "[I"))
    | .invokevirtual i => Nat.beq nx (pc + 3) && okY y && okC k i y h && Nat.blt 0 (MWL.getD y (0, 0, 0, 0)).2.2.2 && decide ((parseMethodDescriptor (yM y).desc).map (fun d => d.parameters.length + 1) = some z)
    | .invokestatic i => Nat.beq nx (pc + 3) && (bif Nat.beq y 9002 then wAt h (.methodLink (ownM k) i arraycopyName) && Nat.beq z 5 else bif Nat.blt 9002 y then Nat.blt y 9006 && Nat.beq z (bif Nat.beq y 9003 then 1 else 2) && wAt h (.methodLink (ownM k) i (primN y)) else okY y && okC k i y h && Nat.beq (clsM y) 999 && decide ((parseMethodDescriptor (yM y).desc).map (fun d => d.parameters.length) = some z))
    | .invokespecial i => Nat.beq nx (pc + 3) && (bif Nat.beq y 9001 then wAt h (.methodLink (ownM k) i objectInit) && Nat.beq z 1 else okY y && okC k i y h && !(Nat.beq (clsM y) 999) && decide ((yM y).name = "<init>") && Nat.beq (retM y) 0 && decide ((parseMethodDescriptor (yM y).desc).map (fun d => d.parameters.length + 1) = some z))
    | .new i => Nat.beq nx (pc + 3) && Nat.blt z 12 && wAt h (.classLink (ownM k) i (clT z).1)
    | .newarray _ => Nat.beq nx (pc + 2)
    | .return_ => Nat.beq nx (pc + 1) && Nat.beq (retM k) 0
    | .ireturn => Nat.beq nx (pc + 1) && (Nat.beq (retM k) 1 || Nat.beq (retM k) 2 || Nat.beq (retM k) 5)
    | .lreturn => Nat.beq nx (pc + 1) && Nat.beq (retM k) 3
    | .areturn => Nat.beq nx (pc + 1) && Nat.beq (retM k) 4
    | _ => Nat.beq nx (pc + 1))
def okI (k pc : Nat) : Bool := match ITf k pc with
  | none => true
  | some E => okB k pc E (hintA pc (HTL.getD k []))
def okRg (k a n : Nat) : Bool := (List.range n).all (fun j => okI k (a + j))
def okAll (k : Nat) : Bool := (List.range (ITL.getD k (0, fun _ => none)).1).all (okI k)
/-- a method's own words -/
def okM (k : Nat) : Bool := match MWL.getD k (0, 0, 0, 0) with
  | (a, b, c, s) => wAt b (.code (yM k) (cdM k) (maxM k) (rtM k)) && wAt c (.initialized (ownM k)) && plainName (ownM k) && decide (ownM k ≠ "java/lang/invoke/MethodHandle" ∧ ownM k ≠ "java/lang/invoke/VarHandle") && Nat.ble (maxM k) 45
    && (bif Nat.beq (clsM k) 999 then wAt a (.static (yM k)) && Nat.beq s 0 else wAt a (.instanceMethod (yM k)) && (bif Nat.beq (clsM k) 100 then decide (ownM k = "java/lang/String") else Nat.blt (clsM k) 12 && decide ((clT (clsM k)).1 = ownM k)))
    && (bif Nat.beq s 0 then true else bif Nat.blt s 100000 then wAt (s - 1) (.selects (ownM k) (yM k) (yM k)) else decide ((tables_1[s - 100000]? = some (.privateMethod (yM k))) ∧ ((lw_privs.map (·.1)).contains (yM k) = true)))
    && (match retM k, rtM k with
      | 0, none => true
      | 1, some .int => true
      | 2, some .boolean => true
      | 3, some .long => true
      | 4, some (.object _) => true
      | 5, some .byte => true
      | _, _ => false)
