/-! BITS of sets, and how many they are -/
abbrev hasb (s k : Int) : Prop := ian (isr s k) 1 = 1
theorem sh_amt : ∀ k : Fin 32, ((Int32.ofInt ((k.val : Nat) : Int) &&& 31).toBitVec.smod 32) = BitVec.ofNat 32 k.val := by decide
theorem isr_nat {s k : Nat} (hs : s < 2147483648) (hk : k < 32) : isr (s : Int) (k : Int) = ((s >>> k : Nat) : Int) := by
  unfold isr
  show (Int32.ofInt (s : Int) >>> (Int32.ofInt (k : Int) &&& 31)).toBitVec.toInt = _
  rw [Int32.toBitVec_shiftRight, sh_amt ⟨k, hk⟩, BitVec.toInt_sshiftRight', i32_nat (bv_nat hs) hs, BitVec.toNat_ofNat, Nat.mod_eq_of_lt (by omega)]
  rfl
theorem isl_1 : ∀ k : Fin 31, isl 1 ((k.val : Nat) : Int) = ((2 ^ k.val : Nat) : Int) := by decide
theorem isl_nat {k : Nat} (hk : k < 31) : isl 1 (k : Int) = ((2 ^ k : Nat) : Int) := isl_1 ⟨k, hk⟩
theorem isl_m1 : ∀ k : Fin 13, isl (-1) ((k.val : Nat) : Int) = ixr (isb (isl 1 ((k.val : Nat) : Int)) 1) (-1) := by decide
theorem ian_1 (x : Int) : ian x 1 = 0 ∨ ian x 1 = 1 := by
  have h : (Int32.ofInt x &&& Int32.ofInt 1).toBitVec.toNat ≤ 1 := by
    rw [Int32.toBitVec_and, BitVec.toNat_and]
    exact Nat.and_le_right
  have h2 := i32_nat (x := (Int32.ofInt x &&& Int32.ofInt 1).toBitVec) rfl (by omega)
  have h3 : ian x 1 = ((Int32.ofInt x &&& Int32.ofInt 1).toBitVec.toNat : Int) := h2
  omega
theorem hasb_nat {s k : Nat} (hs : s < 2147483648) (hk : k < 32) : hasb (s : Int) (k : Int) ↔ s.testBit k = true := by
  unfold hasb
  rw [isr_nat hs hk]
  have e := ian_nat (a := s >>> k) (b := 1) (Nat.lt_of_le_of_lt (Nat.shiftRight_le s k) hs) (by decide)
  rw [show ((1 : Nat) : Int) = 1 from rfl] at e
  rw [e, Nat.and_one_is_mod, Nat.testBit_eq_decide_div_mod_eq, Nat.shiftRight_eq_div_pow, decide_eq_true_eq]
  omega
theorem hasb_0 {s k : Int} : ian (isr s k) 1 = 0 ↔ ¬ hasb s k := by
  have := ian_1 (isr s k)
  unfold hasb
  omega
/-- how many of the first n bits are set -/
def pcn : Nat → Nat → Nat
  | 0, _ => 0
  | n + 1, s => pcn n s + (bif s.testBit n then 1 else 0)
theorem pcn_le : ∀ n s, pcn n s ≤ n
  | 0, _ => Nat.le_refl 0
  | n + 1, s => by
    have := pcn_le n s
    unfold pcn
    cases s.testBit n
    · show pcn n s + 0 ≤ n + 1; omega
    · show pcn n s + 1 ≤ n + 1; omega
theorem pcn_congr {n s t : Nat} (h : ∀ i, i < n → s.testBit i = t.testBit i) : pcn n s = pcn n t := by
  induction n with
  | zero => rfl
  | succ n ih => unfold pcn; rw [ih (fun i hi => h i (by omega)), h n (by omega)]
theorem pcn_0 (n : Nat) : pcn n 0 = 0 := by
  induction n with
  | zero => rfl
  | succ n ih => unfold pcn; rw [ih, Nat.zero_testBit]; rfl
def bcA (s : Int) : Int := isb s (ian (isu s 1) 1431655765)
def bcB (s : Int) : Int := iad (ian s 858993459) (ian (isu s 2) 858993459)
def bcC (s : Int) : Int := ian (iad s (isu s 4)) 252645135
def bcD (s : Int) : Int := iad s (isu s 8)
def bcF (s : Int) : Int := iad s (isu s 16)
def bcE (s : Int) : Int := ian (bcF (bcD (bcC (bcB (bcA s))))) 63
theorem x295 {d : Nat} {s : Int} {I : ME} {Q : Option MV → ME → Prop} (h : Q (some (nt (bcE s))) I) : EvM d 295 [nt s] I Q := by
  refine EvM.go [] (T := T_295) rfl rfl rfl rfl ?_
  conv => whnf
  exact ⟨trivial, h⟩
set_option maxRecDepth 100000 in
theorem bc_all : (List.range 4096).all (fun s => decide (bcE ((s : Nat) : Int) = ((pcn 12 s : Nat) : Int))) = true := by decide +kernel
theorem bc_nat {s : Nat} (hs : s < 4096) : bcE (s : Int) = ((pcn 12 s : Nat) : Int) :=
  of_decide_eq_true (List.all_eq_true.mp bc_all s (List.mem_range.mpr hs))
set_option maxRecDepth 100000 in
theorem bo_all : (List.range 4096).all (fun s => decide (pcn 12 s = 0 → s = 0) && decide (s ≠ 0 → pcn 12 (s &&& (s - 1)) + 1 = pcn 12 s)) = true := by decide +kernel
theorem bo_nat {s : Nat} (hs : s < 4096) : (pcn 12 s = 0 → s = 0) ∧ (s ≠ 0 → pcn 12 (s &&& (s - 1)) + 1 = pcn 12 s) := by
  have h := List.all_eq_true.mp bo_all s (List.mem_range.mpr hs)
  rw [Bool.and_eq_true, decide_eq_true_eq, decide_eq_true_eq] at h
  exact h
theorem pcn_nz {s : Nat} (hs : s < 4096) (h : s ≠ 0) : 0 < pcn 12 s := by
  have := (bo_nat hs).1
  omega
theorem m189 {d S : Nat} {I : ME} {Q : Option MV → ME → Prop} (hS : S < 4096) (h : Q (some (nt ((pcn 12 S : Nat) : Int))) I) : EvM d 189 [nt (S : Int)] I Q := by
  refine EvM.go [4] (T := T_189) rfl rfl rfl rfl ?_
  conv => whnf
  refine ⟨trivial, ?_⟩
  have key : ∀ m (T c : Nat), T < 4096 → pcn 12 T = m → c + m = pcn 12 S → Ev d 189 4 [some (nt (S : Int)), some (nt (c : Int)), some (nt (T : Int))] [] I Q := by
    intro m
    induction m with
    | zero =>
      intro T c hT hm hc
      have hT0 := (bo_nat hT).1 hm
      refine Ev.go [4] (T := T_189) rfl rfl ?_
      conv => whnf
      refine brI (fun _ => ?_) (fun _ => ?_) <;> conv => whnf
      · refine ⟨trivial, ?_⟩
        have e : c = pcn 12 S := by omega
        rw [e]
        exact h
      · exfalso; omega
    | succ m ih =>
      intro T c hT hm hc
      have hT0 : T ≠ 0 := fun q => by rw [q, pcn_0] at hm; omega
      have h1 := (bo_nat hT).2 hT0
      have hpl := pcn_le 12 S
      refine Ev.go [4] (T := T_189) rfl rfl ?_
      conv => whnf
      refine brI (fun _ => ?_) (fun _ => ?_) <;> conv => whnf
      · exfalso; omega
      · refine ⟨trivial, Ev.to ?_ rfl (ih (T &&& (T - 1)) (c + 1) (Nat.lt_of_le_of_lt Nat.and_le_left hT) (by omega) (by omega))⟩
        have e1 : iad (c : Int) 1 = ((c + 1 : Nat) : Int) := by rw [iad_e (by omega)]; rfl
        have e2 : isb (T : Int) 1 = ((T - 1 : Nat) : Int) := by rw [isb_e (by omega)]; omega
        rw [e1, e2, ian_nat (by omega) (by omega)]
  exact key _ S 0 hS rfl (by omega)
/-- how many are in a set of at most 12 -/
def pI (s : Int) : Int := ((pcn 12 s.toNat : Nat) : Int)
theorem pI_bd (s : Int) : 0 ≤ pI s ∧ pI s ≤ 12 := by
  have := pcn_le 12 s.toNat
  unfold pI
  omega
theorem pI_nat (S : Nat) : pI (S : Int) = ((pcn 12 S : Nat) : Int) := rfl
theorem x295p {d : Nat} {s : Int} {I : ME} {Q : Option MV → ME → Prop} (h1 : 0 ≤ s) (h2 : s < 4096) (h : Q (some (nt (pI s))) I) : EvM d 295 [nt s] I Q := by
  refine x295 ?_
  have e : bcE s = pI s := by
    have h3 := bc_nat (s := s.toNat) (by omega)
    rw [show ((s.toNat : Nat) : Int) = s by omega] at h3
    exact h3
  rw [e]
  exact h
theorem m189p {d : Nat} {s : Int} {I : ME} {Q : Option MV → ME → Prop} (h1 : 0 ≤ s) (h2 : s < 4096) (h : Q (some (nt (pI s))) I) : EvM d 189 [nt s] I Q := by
  have e : s = ((s.toNat : Nat) : Int) := by omega
  rw [e]
  exact m189 (by omega) h
