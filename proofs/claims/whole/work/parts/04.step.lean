/-! one instruction of the small machine, in continuation form: the same text serves the run (answers: options) and the
reading of conditions (answers: propositions) -/
def kTab (c : Nat) : List Int := bif Nat.beq c 1001 then [0, 0, 0, 2, 1, 3, 0, 4] else bif Nat.beq c 1002 then [1, 10, 11, 2, 20, 0, 0, 0, 0, 30, 0, 0, 0, 41, 40, 0, 0, 0, 50, 0, 0, 0, 0, 60, 70, 0, 0, 0, 0, 80, 0, 81] else bif Nat.blt 1199 c then strL.getD (c - 1200) [] else []
def kLen (c : Nat) : Int := Int.ofNat (kTab c).length
def kVal (c : Nat) (i : Int) : Int := (kTab c).getD i.toNat 0
/-- a value of one slot -/
def c1K.{u} {α : Sort u} (bad : α) (v : MV) (a : α) : α := match v with
  | .inr (.inl _) => bad
  | _ => a
def stp.{u} {α : Sort u} {σ : Type} (bad : α) (cI : Int → Int → α → α) (cZ : Int → α → α) (cB : Int → α → α) (gr : Nat → Nat → (Nat → α) → α) (rd : σ → Nat → Int → (Int → α) → α) (wr : σ → Nat → Int → Int → σ)
    (E : IE) (ls : List (Option MV)) (st : List MV) (S : σ) (K : Nat → List (Option MV) → List MV → σ → α) : α :=
  let c1 : MV → α → α := c1K bad
  match E with
  | (ins, nx, x, y, z, sw) => match ins with
    | .iadd => match st with
      | .inl b :: .inl a :: st' => K nx ls (.inl (iad a b) :: st') S
      | _ => bad
    | .isub => match st with
      | .inl b :: .inl a :: st' => K nx ls (.inl (isb a b) :: st') S
      | _ => bad
    | .imul => match st with
      | .inl b :: .inl a :: st' => K nx ls (.inl (iml a b) :: st') S
      | _ => bad
    | .iand => match st with
      | .inl b :: .inl a :: st' => K nx ls (.inl (ian a b) :: st') S
      | _ => bad
    | .ior => match st with
      | .inl b :: .inl a :: st' => K nx ls (.inl (iro a b) :: st') S
      | _ => bad
    | .ixor => match st with
      | .inl b :: .inl a :: st' => K nx ls (.inl (ixr a b) :: st') S
      | _ => bad
    | .ishl => match st with
      | .inl b :: .inl a :: st' => K nx ls (.inl (isl a b) :: st') S
      | _ => bad
    | .ishr => match st with
      | .inl b :: .inl a :: st' => K nx ls (.inl (isr a b) :: st') S
      | _ => bad
    | .iushr => match st with
      | .inl b :: .inl a :: st' => K nx ls (.inl (isu a b) :: st') S
      | _ => bad
    | .idiv => match st with
      | .inl b :: .inl a :: st' => cZ b (K nx ls (.inl (idv a b) :: st') S)
      | _ => bad
    | .irem => match st with
      | .inl b :: .inl a :: st' => cZ b (K nx ls (.inl (irm a b) :: st') S)
      | _ => bad
    | .ineg => match st with
      | .inl a :: st' => K nx ls (.inl (ing a) :: st') S
      | _ => bad
    | .ladd => match st with
      | .inr (.inl b) :: .inr (.inl a) :: st' => K nx ls (.inr (.inl (lad a b)) :: st') S
      | _ => bad
    | .lsub => match st with
      | .inr (.inl b) :: .inr (.inl a) :: st' => K nx ls (.inr (.inl (lsb a b)) :: st') S
      | _ => bad
    | .lmul => match st with
      | .inr (.inl b) :: .inr (.inl a) :: st' => K nx ls (.inr (.inl (lml a b)) :: st') S
      | _ => bad
    | .land => match st with
      | .inr (.inl b) :: .inr (.inl a) :: st' => K nx ls (.inr (.inl (lan a b)) :: st') S
      | _ => bad
    | .lor => match st with
      | .inr (.inl b) :: .inr (.inl a) :: st' => K nx ls (.inr (.inl (lor_ a b)) :: st') S
      | _ => bad
    | .ldiv => match st with
      | .inr (.inl b) :: .inr (.inl a) :: st' => cZ b (K nx ls (.inr (.inl (ldv a b)) :: st') S)
      | _ => bad
    | .lrem => match st with
      | .inr (.inl b) :: .inr (.inl a) :: st' => cZ b (K nx ls (.inr (.inl (lrm a b)) :: st') S)
      | _ => bad
    | .lneg => match st with
      | .inr (.inl a) :: st' => K nx ls (.inr (.inl (lng a)) :: st') S
      | _ => bad
    | .lshl => match st with
      | .inl b :: .inr (.inl a) :: st' => K nx ls (.inr (.inl (lsl_ a b)) :: st') S
      | _ => bad
    | .lcmp => match st with
      | .inr (.inl b) :: .inr (.inl a) :: st' => K nx ls (.inl (lcm_ a b) :: st') S
      | _ => bad
    | .i2l => match st with
      | .inl a :: st' => K nx ls (.inr (.inl a) :: st') S
      | _ => bad
    | .l2i => match st with
      | .inr (.inl a) :: st' => K nx ls (.inl (l2i_ a) :: st') S
      | _ => bad
    | .i2b => match st with
      | .inl a :: st' => K nx ls (.inl (i2b_ a) :: st') S
      | _ => bad
    | .i2s => match st with
      | .inl a :: st' => K nx ls (.inl (i2s_ a) :: st') S
      | _ => bad
    | .i2c => match st with
      | .inl a :: st' => K nx ls (.inl (i2c_ a) :: st') S
      | _ => bad
    | .iconst n => K nx ls (.inl n :: st) S
    | .bipush n => K nx ls (.inl n :: st) S
    | .sipush n => K nx ls (.inl n :: st) S
    | .lconst _ => K nx ls (.inr (.inl x) :: st) S
    | .ldc _ => bif Nat.beq y 0 then K nx ls (.inl x :: st) S else K nx ls (.inr (.inr y) :: st) S
    | .ldc_w _ => K nx ls (.inl x :: st) S
    | .ldc2_w _ => K nx ls (.inr (.inl x) :: st) S
    | .iload_n i => getL bad ls i.val fun v => match v with
      | .inl a => K nx ls (.inl a :: st) S
      | _ => bad
    | .istore_n i => match st with
      | .inl a :: st' => setL bad ls i.val (.inl a) fun ls' => K nx ls' st' S
      | _ => bad
    | .iload i => getL bad ls i fun v => match v with
      | .inl a => K nx ls (.inl a :: st) S
      | _ => bad
    | .istore i => match st with
      | .inl a :: st' => setL bad ls i (.inl a) fun ls' => K nx ls' st' S
      | _ => bad
    | .lload_n i => getL bad ls i.val fun v => match v with
      | .inr (.inl a) => K nx ls (.inr (.inl a) :: st) S
      | _ => bad
    | .lstore_n i => match st with
      | .inr (.inl a) :: st' => setL2 bad ls i.val (.inr (.inl a)) fun ls' => K nx ls' st' S
      | _ => bad
    | .lload i => getL bad ls i fun v => match v with
      | .inr (.inl a) => K nx ls (.inr (.inl a) :: st) S
      | _ => bad
    | .lstore i => match st with
      | .inr (.inl a) :: st' => setL2 bad ls i (.inr (.inl a)) fun ls' => K nx ls' st' S
      | _ => bad
    | .aload_n i => getL bad ls i.val fun v => match v with
      | .inr (.inr a) => K nx ls (.inr (.inr a) :: st) S
      | _ => bad
    | .astore_n i => match st with
      | .inr (.inr a) :: st' => setL bad ls i.val (.inr (.inr a)) fun ls' => K nx ls' st' S
      | _ => bad
    | .aload i => getL bad ls i fun v => match v with
      | .inr (.inr a) => K nx ls (.inr (.inr a) :: st) S
      | _ => bad
    | .astore i => match st with
      | .inr (.inr a) :: st' => setL bad ls i (.inr (.inr a)) fun ls' => K nx ls' st' S
      | _ => bad
    | .iinc i n => getL bad ls i fun v => match v with
      | .inl a => setL bad ls i (.inl (iad a n)) fun ls' => K nx ls' st S
      | _ => bad
    | .dup => match st with
      | v :: st' => c1 v (K nx ls (v :: v :: st') S)
      | _ => bad
    | .pop => match st with
      | v :: st' => c1 v (K nx ls st' S)
      | _ => bad
    | .dup_x1 => match st with
      | v :: w :: st' => c1 v (c1 w (K nx ls (v :: w :: v :: st') S))
      | _ => bad
    | .dup_x2 => match st with
      | v :: w :: u :: st' => c1 v (c1 w (c1 u (K nx ls (v :: w :: u :: v :: st') S)))
      | _ => bad
    | .dup2 => match st with
      | .inr (.inl a) :: st' => K nx ls (.inr (.inl a) :: .inr (.inl a) :: st') S
      | v :: w :: st' => c1 v (c1 w (K nx ls (v :: w :: v :: w :: st') S))
      | _ => bad
    | .goto _ => K y ls st S
    | .ifCond c _ => match c, st with
      | .eq, .inl a :: st' => brc (a = 0) (Int.instDecidableEq a 0) (K y ls st' S) (K nx ls st' S)
      | .ne, .inl a :: st' => brc (a = 0) (Int.instDecidableEq a 0) (K nx ls st' S) (K y ls st' S)
      | .lt, .inl a :: st' => brc (a < 0) (Int.decLt a 0) (K y ls st' S) (K nx ls st' S)
      | .ge, .inl a :: st' => brc (a < 0) (Int.decLt a 0) (K nx ls st' S) (K y ls st' S)
      | .gt, .inl a :: st' => brc (0 < a) (Int.decLt 0 a) (K y ls st' S) (K nx ls st' S)
      | .le, .inl a :: st' => brc (0 < a) (Int.decLt 0 a) (K nx ls st' S) (K y ls st' S)
      | _, _ => bad
    | .if_icmp c _ => match c, st with
      | .eq, .inl b :: .inl a :: st' => brc (a = b) (Int.instDecidableEq a b) (K y ls st' S) (K nx ls st' S)
      | .ne, .inl b :: .inl a :: st' => brc (a = b) (Int.instDecidableEq a b) (K nx ls st' S) (K y ls st' S)
      | .lt, .inl b :: .inl a :: st' => brc (a < b) (Int.decLt a b) (K y ls st' S) (K nx ls st' S)
      | .ge, .inl b :: .inl a :: st' => brc (a < b) (Int.decLt a b) (K nx ls st' S) (K y ls st' S)
      | .gt, .inl b :: .inl a :: st' => brc (b < a) (Int.decLt b a) (K y ls st' S) (K nx ls st' S)
      | .le, .inl b :: .inl a :: st' => brc (b < a) (Int.decLt b a) (K nx ls st' S) (K y ls st' S)
      | _, _ => bad
    | .tableswitch _ _ _ _ => match st with
      | .inl a :: st' => swK a y (fun t => K t ls st' S) sw
      | _ => bad
    | .lookupswitch _ _ => match st with
      | .inl a :: st' => swK a y (fun t => K t ls st' S) sw
      | _ => bad
    | .getfield _ => match st with
      | .inr (.inr c) :: st' => bif Nat.beq z 100 then (bif Nat.blt 1099 c && Nat.blt c 1200 then (bif Nat.beq y 3 then K nx ls (.inr (.inr (c + 100)) :: st') S else K nx ls (.inl 0 :: st') S) else bad)
        else kdK bad c fun kd _ ci => bif Nat.beq kd 2 && Nat.beq ci z then (match y with
          | 0 => rd S c x fun v => K nx ls (.inl v :: st') S
          | 1 => rd S c x fun v => K nx ls (.inl v :: st') S
          | 2 => rd S c x fun v => K nx ls (.inr (.inl v) :: st') S
          | j + 3 => gr c j fun c' => K nx ls (.inr (.inr c') :: st') S) else bad
      | _ => bad
    | .putfield _ => match y, st with
      | 0, .inl v :: .inr (.inr c) :: st' => kdK bad c fun kd _ ci => bif Nat.beq kd 2 && Nat.beq ci z then K nx ls st' (wr S c x v) else bad
      | 1, .inl v :: .inr (.inr c) :: st' => kdK bad c fun kd _ ci => bif Nat.beq kd 2 && Nat.beq ci z then cB v (K nx ls st' (wr S c x v)) else bad
      | 2, .inr (.inl v) :: .inr (.inr c) :: st' => kdK bad c fun kd _ ci => bif Nat.beq kd 2 && Nat.beq ci z then K nx ls st' (wr S c x v) else bad
      | _, _ => bad
    | .getstatic _ => bif Nat.beq y 0 then K nx ls (.inl x :: st) S else K nx ls (.inr (.inr y) :: st) S
    | .iaload => match st with
      | .inl i :: .inr (.inr c) :: st' => bif Nat.blt c 1000 then (kdK bad c fun kd n _ => bif Nat.beq kd 0 then cI i n (rd S c i fun v => K nx ls (.inl v :: st') S) else bad)
        else bif Nat.beq c 1000 then rd S 1000 (-1) fun n => cI i n (rd S 1000 i fun v => K nx ls (.inl v :: st') S)
        else bif Nat.blt c 1100 then cI i (kLen c) (K nx ls (.inl (kVal c i) :: st') S) else bad
      | _ => bad
    | .baload => match st with
      | .inl i :: .inr (.inr c) :: st' => bif Nat.blt 1199 c then cI i (kLen c) (K nx ls (.inl (kVal c i) :: st') S) else bad
      | _ => bad
    | .laload => match st with
      | .inl i :: .inr (.inr c) :: st' => kdK bad c fun kd n _ => bif Nat.beq kd 1 then cI i n (rd S c i fun v => K nx ls (.inr (.inl v) :: st') S) else bad
      | _ => bad
    | .iastore => match st with
      | .inl v :: .inl i :: .inr (.inr c) :: st' => kdK bad c fun kd n _ => bif Nat.beq kd 0 then cI i n (K nx ls st' (wr S c i v)) else bad
      | _ => bad
    | .lastore => match st with
      | .inr (.inl v) :: .inl i :: .inr (.inr c) :: st' => kdK bad c fun kd n _ => bif Nat.beq kd 1 then cI i n (K nx ls st' (wr S c i v)) else bad
      | _ => bad
    | .arraylength => match st with
      | .inr (.inr c) :: st' => bif Nat.blt c 1000 then (kdK bad c fun kd n _ => bif Nat.blt kd 2 then K nx ls (.inl n :: st') S else bad)
        else bif Nat.beq c 1000 then rd S 1000 (-1) fun n => K nx ls (.inl n :: st') S
        else bif Nat.blt 1199 c then K nx ls (.inl (kLen c) :: st') S else bad
      | _ => bad
    | _ => bad
