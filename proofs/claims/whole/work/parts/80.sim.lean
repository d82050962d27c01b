/-! THE REAL MACHINE DOES WHAT THE SMALL ONE DOES: what they have in common -/
def GWL : List Jvm.Cond := lw_tbl.filter goodWord
def nestW : Jvm.Cond → Bool
  | .fieldLinkNest .. => true
  | .methodLinkNest .. => true
  | _ => false
/-- where all is: the first cell's address, the heap at the start, addresses of what was there, the script, the classes -/
abbrev SE : Type := (Nat × Heap) × (Nat → Nat) × (Int → Int) × va_G × (ClassId × ClassId)
def bsE (e : SE) : Nat := e.1.1
def hpE (e : SE) : Heap := e.1.2
def akE (e : SE) : Nat → Nat := e.2.1
def xsE (e : SE) : Int → Int := e.2.2.1
def dE (e : SE) : va_G := e.2.2.2.1
def cIE (e : SE) : ClassId := e.2.2.2.2.1
def cJE (e : SE) : ClassId := e.2.2.2.2.2
def AE (e : SE) : Nat → Prop := fun q => bsE e ≤ q
def adE (e : SE) (c : Nat) : Nat := if c < 1000 then bsE e + c else akE e c
def trV (e : SE) : MV → Value
  | .inl x => .int (Int32.ofInt x)
  | .inr (.inl x) => .long (Int64.ofInt x)
  | .inr (.inr c) => .ref (adE e c)
def fvE (e : SE) (t c j : Nat) (R : MR) (I : ME) : Value := match t with
  | 0 => .int (Int32.ofInt (I c (Int.ofNat j)))
  | 1 => .int (Int32.ofInt (I c (Int.ofNat j)))
  | 2 => .long (Int64.ofInt (I c (Int.ofNat j)))
  | _ => va_rf ((R c j).map (adE e))
def enE (e : SE) (R : MR) (I : ME) (c : Nat) : va_E := match KDL.getD c (9, 0, 0) with
  | (0, n, _) => .inl (cIE e, n, .inl fun j => Int32.ofInt (I c (Int.ofNat j)))
  | (1, n, _) => .inl (cJE e, n, .inr (.inl fun j => Int64.ofInt (I c (Int.ofNat j))))
  | (_, n, z) => .inr (z, (List.range n).map fun j => fvE e (ftT z j) c j R I)
def wlE (e : SE) (S : MS) : va_W := (List.range S.1).map fun c => (bsE e + c, enE e S.2.1 S.2.2 c)
def IR (x : Int) : Prop := -2147483648 ≤ x ∧ x ≤ 2147483647
def IRL (x : Int) : Prop := -9223372036854775808 ≤ x ∧ x ≤ 9223372036854775807
/-- cells that were there at the start: the script, two tables, ten texts and their bytes -/
def kRef (c : Nat) : Prop := c = 1000 ∨ c = 1001 ∨ c = 1002 ∨ (1100 ≤ c ∧ c < 1110) ∨ (1200 ≤ c ∧ c < 1210)
def canV (n : Nat) : MV → Prop
  | .inl x => IR x
  | .inr (.inl x) => IRL x
  | .inr (.inr c) => c < n ∨ kRef c
def lgS (c : Nat) (j : Int) : Bool := match KDL.getD c (9, 0, 0) with
  | (1, _, _) => true
  | (2, _, z) => Nat.beq (ftT z j.toNat) 2
  | _ => false
def canM (I : ME) : Prop := ∀ c j, if lgS c j = true then IRL (I c j) else IR (I c j)
/-- what the Statement gives of what was there at the start, at a state of the tables -/
def KC (e : SE) (U : State) : Prop :=
  (0 ≤ xsE e (-1) ∧ xsE e (-1) ≤ 2147483647) ∧ va_T .int (akE e 1000) (xsE e (-1)).toNat (fun j => .int (Int32.ofInt (xsE e (Int.ofNat j)))) (AE e) U (hpE e) ∧
  va_Z "LotteryOfLosses$Acts" "ABOVE" "[I" (.ref (akE e 1001)) (AE e) U (hpE e) ∧ va_T .int (akE e 1001) 8 (fun j => .int (Int32.ofInt (kVal 1001 (Int.ofNat j)))) (AE e) U (hpE e) ∧
  va_Z "LotteryOfLosses$Acts" "BODIES" "[I" (.ref (akE e 1002)) (AE e) U (hpE e) ∧ va_T .int (akE e 1002) 32 (fun j => .int (Int32.ofInt (kVal 1002 (Int.ofNat j)))) (AE e) U (hpE e) ∧
  va_Z "java/lang/String" "COMPACT_STRINGS" "Z" (.int 1) (AE e) U (hpE e) ∧
  (∀ i, i < 10 → va_O "java/lang/String" (akE e (1100 + i)) (AE e) U (hpE e) ∧ va_OF "java/lang/String" "coder" "B" (.int 0) (akE e (1100 + i)) (AE e) U (hpE e) ∧
    va_OF "java/lang/String" "value" "[B" (.ref (akE e (1200 + i))) (akE e (1100 + i)) (AE e) U (hpE e) ∧ va_T .byte (akE e (1200 + i)) (kTab (1200 + i)).length (fun j => .int (Int32.ofInt (kVal (1200 + i) (Int.ofNat j)))) (AE e) U (hpE e)) ∧
  (∀ q ∈ SPL, vk_R q.1 q.2.1 (stxL.getD q.2.2 "") (akE e (1100 + q.2.2)) U) ∧
  (∀ w ∈ tables_1, nestW w = true → va_Nw w U)
def KS (e : SE) (U : State) : Prop := va_K (dE e) clL [(cIE e, .int), (cJE e, .long)] U ∧ KC e U
theorem KC.warm {e : SE} {s U : State} (hW : s.WarmedH U.vm) (h : KC e s) : KC e U := by
  obtain ⟨h0, h1, h2, h3, h4, h5, h6, h7, h8, h9⟩ := h
  have hv := hW.alike
  refine ⟨h0, h1.moved hv, h2.moved hv, h3.moved hv, h4.moved hv, h5.moved hv, h6.moved hv, fun i hi => ?_, fun q hq => (h8 q hq).warm hW, fun w hw hn => ?_⟩
  · obtain ⟨a, b, c, d⟩ := h7 i hi
    exact ⟨a.moved hv, b.moved hv, c.moved hv, d.moved hv⟩
  · have h := h9 w hw hn
    cases w <;> simp only [nestW] at hn <;> first | (cases hn; done) | exact va_Nw.warmF hW h | exact va_Nw.warmM hW h
theorem KS.warm {e : SE} {s U : State} (hW : s.WarmedH U.vm) (h : KS e s) : KS e U := ⟨va_K.moved hW.alike h.1, h.2.warm hW⟩
theorem KC.same {e : SE} {s U : State} (hv : s.vm = U.vm) (h : KC e s) : KC e U := by
  obtain ⟨h0, h1, h2, h3, h4, h5, h6, h7, h8, h9⟩ := h
  have ha : s.vm.Alike U.vm := by rw [hv]; exact Vm.Alike.refl _
  refine ⟨h0, h1.moved ha, h2.moved ha, h3.moved ha, h4.moved ha, h5.moved ha, h6.moved ha, fun i hi => ?_, fun q hq => (h8 q hq).same hv.symm, fun w hw hn => ?_⟩
  · obtain ⟨a, b, c, d⟩ := h7 i hi
    exact ⟨a.moved ha, b.moved ha, c.moved ha, d.moved ha⟩
  · refine va_Nw.same ?_ hv (h9 w hw hn)
    cases w <;> simp only [nestW] at hn <;> first | (cases hn; done) | rfl
theorem KS.same {e : SE} {s U : State} (hv : s.vm = U.vm) (h : KS e s) : KS e U := ⟨va_K.moved (by rw [hv]; exact Vm.Alike.refl _) h.1, h.2.same hv⟩
/-- a frame of method k -/
def FrC (e : SE) (k : Nat) (p : Program) (s : State) (m : MethodId) (args : Array Value) (meth : Method) (c : Code) : Prop :=
  p.tables.exec = Jvm.exec ∧ c.code = cdM k ∧ s.vm.findClass (ownM k) = some m.cls ∧ (∀ w ∈ GWL, w.before args s = true) ∧ KS e s ∧ (∀ q, q < bsE e → s.heap[q]? = (hpE e)[q]?) ∧ bsE e ≤ s.heap.size ∧ c.maxLocals = maxM k
def lsR (e : SE) (n mx : Nat) (lsA : Array Slot) (ls : List (Option MV)) : Prop :=
  lsA.size = mx ∧ ls.length = mx ∧ lv_wf lsA ∧ ∀ (j : Nat) (v : MV), ls[j]? = some (some v) → lsA[j]? = some (.val (trV e v)) ∧ canV n v
/-- what holds of a memory by itself: numbers in range, the script, references to what is made, what isn't made yet is blank -/
def RVE (e : SE) (S : MS) : Prop := canM S.2.2 ∧ (∀ j, S.2.2 1000 j = xsE e j) ∧ (∀ c j c', S.2.1 c j = some c' → c' < S.1) ∧ S.1 ≤ 80 ∧ ∀ c, S.1 ≤ c → c < 1000 → (∀ j, S.2.2 c j = 0) ∧ ∀ j, S.2.1 c j = none
def WdR (e : SE) (s : State) (H : Heap) (locs : List Loc) (S : MS) : Prop :=
  va_P (dE e) clL (wlE e S) H ∧ (S.1 < 80 → H.size = bsE e + S.1) ∧ va_S (AE e) s.heap H locs ∧ RVE e S
def SR (e : SE) (mx : Nat) (s : State) (H : Heap) (locs : List Loc) (lsA : Array Slot) (ls : List (Option MV)) (st : List MV) (S : MS) : Prop :=
  WdR e s H locs S ∧ lsR e S.1 mx lsA ls ∧ ∀ v ∈ st, canV S.1 v
-- numbers
theorem ir_i32 (z : Int32) : IR z.toInt := ⟨Int32.le_toInt z, Int.lt_add_one_iff.mp (Int32.toInt_lt z)⟩
theorem ir_i64 (z : Int64) : IRL z.toInt := ⟨Int64.le_toInt z, Int.lt_add_one_iff.mp (Int64.toInt_lt z)⟩
theorem of_to32 (z : Int32) : Int32.ofInt z.toInt = z := Int32.ofInt_toInt z
theorem of_to64 (z : Int64) : Int64.ofInt z.toInt = z := Int64.ofInt_toInt z
theorem to_of32 {x : Int} (h : IR x) : (Int32.ofInt x).toInt = x := Int32.toInt_ofInt_of_le h.1 (by have := h.2; omega)
theorem to_of64 {x : Int} (h : IRL x) : (Int64.ofInt x).toInt = x := Int64.toInt_ofInt_of_le h.1 (by have := h.2; omega)
theorem o_iad (a b : Int) : Int32.ofInt (iad a b) = Int32.ofInt a + Int32.ofInt b := by unfold iad i32; rw [of_to32, Int32.ofInt_add]
theorem o_isb (a b : Int) : Int32.ofInt (isb a b) = Int32.ofInt a - Int32.ofInt b := by unfold isb i32; rw [of_to32, Int32.ofInt_sub]
theorem o_iml (a b : Int) : Int32.ofInt (iml a b) = Int32.ofInt a * Int32.ofInt b := by unfold iml i32; rw [of_to32, Int32.ofInt_mul]
theorem o_ing (a : Int) : Int32.ofInt (ing a) = - Int32.ofInt a := by unfold ing i32; rw [of_to32, Int32.ofInt_neg]
theorem o_lad (a b : Int) : Int64.ofInt (lad a b) = Int64.ofInt a + Int64.ofInt b := by unfold lad i64; rw [of_to64, Int64.ofInt_add]
theorem o_lsb (a b : Int) : Int64.ofInt (lsb a b) = Int64.ofInt a - Int64.ofInt b := by unfold lsb i64; rw [of_to64, Int64.ofInt_sub]
theorem o_lml (a b : Int) : Int64.ofInt (lml a b) = Int64.ofInt a * Int64.ofInt b := by unfold lml i64; rw [of_to64, Int64.ofInt_mul]
theorem o_lng (a : Int) : Int64.ofInt (lng a) = - Int64.ofInt a := by unfold lng i64; rw [of_to64, Int64.ofInt_neg]
theorem lt32 {a b : Int} (ha : IR a) (hb : IR b) : Int32.ofInt a < Int32.ofInt b ↔ a < b := by rw [Int32.lt_iff_toInt_lt, to_of32 ha, to_of32 hb]
theorem eq32 {a b : Int} (ha : IR a) (hb : IR b) : Int32.ofInt a = Int32.ofInt b ↔ a = b := by rw [← Int32.toInt_inj, to_of32 ha, to_of32 hb]
theorem le32 {a b : Int} (ha : IR a) (hb : IR b) : Int32.ofInt a ≤ Int32.ofInt b ↔ a ≤ b := by rw [Int32.le_iff_toInt_le, to_of32 ha, to_of32 hb]
theorem lt64 {a b : Int} (ha : IRL a) (hb : IRL b) : Int64.ofInt a < Int64.ofInt b ↔ a < b := by rw [Int64.lt_iff_toInt_lt, to_of64 ha, to_of64 hb]
theorem eq64 {a b : Int} (ha : IRL a) (hb : IRL b) : Int64.ofInt a = Int64.ofInt b ↔ a = b := by rw [← Int64.toInt_inj, to_of64 ha, to_of64 hb]
theorem ir_0 : IR 0 := ⟨by decide, by decide⟩
theorem of_0 : Int32.ofInt 0 = 0 := rfl
theorem clamp32 {i : Int} (h : IR i) : (Int32.ofInt i).toNatClampNeg = i.toNat := by show (Int32.ofInt i).toInt.toNat = _; rw [to_of32 h]
theorem in32 {i : Int} {n : Nat} (h : IR i) (h0 : 0 ≤ i) (hn : i < Int.ofNat n) : vp_in (Int32.ofInt i) n := by
  rw [vp_in_iff, to_of32 h]
  exact ⟨h0, hn⟩
theorem o_i2l {a : Int} (h : IR a) : (Int32.ofInt a).toInt64 = Int64.ofInt a := by
  rw [← Int64.toInt_inj, Int32.toInt_toInt64, to_of32 h, to_of64 ⟨by have := h.1; omega, by have := h.2; omega⟩]
theorem lcm_ok {a b : Int} (ha : IRL a) (hb : IRL b) : Int32.ofInt (lcm_ a b) = lg_cmp (Int64.ofInt a) (Int64.ofInt b) := by
  unfold lcm_ lg_cmp
  simp only [gt_iff_lt, lt64 hb ha, eq64 ha hb]
  repeat' split
  all_goals first | rfl | omega
theorem ir_lcm (a b : Int) : IR (lcm_ a b) := by
  unfold lcm_ IR
  split
  · omega
  · split <;> omega
theorem ofNat_ofInt (n : Nat) : Int32.ofNat n = Int32.ofInt (Int.ofNat n) := by first | rfl | exact (Int32.ofInt_eq_ofNat).symm | simp
theorem kLen_ir (c : Nat) : IR (kLen c) := by
  have h : ∀ l ∈ ([[0, 0, 0, 2, 1, 3, 0, 4], [1, 10, 11, 2, 20, 0, 0, 0, 0, 30, 0, 0, 0, 41, 40, 0, 0, 0, 50, 0, 0, 0, 0, 60, 70, 0, 0, 0, 0, 80, 0, 81], []] ++ strL : List (List Int)), l.length < 100 := by decide +kernel
  have hk : (kTab c).length < 100 := by
    unfold kTab
    cases Nat.beq c 1001
    · cases Nat.beq c 1002
      · cases Nat.blt 1199 c
        · simp only [cond_false, List.length_nil]; omega
        · simp only [cond_false, cond_true]
          rw [List.getD_eq_getElem?_getD]
          cases hq : strL[c - 1200]? with
          | none => simp
          | some l => exact h l (List.mem_append_right _ (List.mem_of_getElem? hq))
      · simp only [cond_false, cond_true]; exact ltB rfl
    · simp only [cond_true]; exact ltB rfl
  unfold kLen
  exact ⟨by show (-2147483648 : Int) ≤ ((kTab c).length : Int); omega, by show ((kTab c).length : Int) ≤ 2147483647; omega⟩
