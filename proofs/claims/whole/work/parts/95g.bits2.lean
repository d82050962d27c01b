/-! SETS as numbers: what is in them -/
theorem hb_iff {s k : Int} (h0 : 0 ≤ s) (h1 : s < 2147483648) (k0 : 0 ≤ k) (k1 : k < 32) : hasb s k ↔ s.toNat.testBit k.toNat = true := by
  have h := hasb_nat (s := s.toNat) (k := k.toNat) (by omega) (by omega)
  rw [show ((s.toNat : Nat) : Int) = s by omega, show ((k.toNat : Nat) : Int) = k by omega] at h
  exact h
theorem hb_nat {S K : Nat} (h1 : S < 4096) (k1 : K < 32) : hasb (S : Int) (K : Int) ↔ S.testBit K = true := hasb_nat (by omega) k1
theorem hb_top {s k : Int} (h0 : 0 ≤ s) (h1 : s < 4096) (k0 : 12 ≤ k) (k1 : k < 32) : ¬ hasb s k := by
  rw [hb_iff h0 (by omega) (by omega) k1, Nat.testBit_lt_two_pow]
  · simp
  · exact Nat.lt_of_lt_of_le (show s.toNat < 2 ^ 12 by omega) (Nat.pow_le_pow_right (by decide) (by omega))
theorem iro_b {s b : Int} (h0 : 0 ≤ s) (h1 : s < 4096) (g0 : 0 ≤ b) (g1 : b < 4096) : (0 ≤ iro s b ∧ iro s b < 4096) ∧ ∀ u, 0 ≤ u → u < 32 → (hasb (iro s b) u ↔ hasb s u ∨ hasb b u) := by
  have e := iro_nat (a := s.toNat) (b := b.toNat) (by omega) (by omega)
  rw [show ((s.toNat : Nat) : Int) = s by omega, show ((b.toNat : Nat) : Int) = b by omega] at e
  have hl : s.toNat ||| b.toNat < 2 ^ 12 := Nat.or_lt_two_pow (by omega) (by omega)
  refine ⟨by rw [e]; omega, fun u u0 u1 => ?_⟩
  rw [e, hb_iff (by omega) (by omega) u0 u1, hb_iff h0 (by omega) u0 u1, hb_iff g0 (by omega) u0 u1, Int.toNat_natCast, Nat.testBit_or, Bool.or_eq_true]
theorem ian_b {s b : Int} (h0 : 0 ≤ s) (h1 : s < 4096) (g0 : 0 ≤ b) (g1 : b < 2147483648) : (0 ≤ ian s b ∧ ian s b ≤ s) ∧ ∀ u, 0 ≤ u → u < 32 → (hasb (ian s b) u ↔ hasb s u ∧ hasb b u) := by
  have e := ian_nat (a := s.toNat) (b := b.toNat) (by omega) (by omega)
  rw [show ((s.toNat : Nat) : Int) = s by omega, show ((b.toNat : Nat) : Int) = b by omega] at e
  have hl : s.toNat &&& b.toNat ≤ s.toNat := Nat.and_le_left
  refine ⟨by rw [e]; omega, fun u u0 u1 => ?_⟩
  rw [e, hb_iff (by omega) (by omega) u0 u1, hb_iff h0 (by omega) u0 u1, hb_iff g0 (by omega) u0 u1, Int.toNat_natCast, Nat.testBit_and, Bool.and_eq_true]
/-- s without b -/
def sdf (s b : Int) : Int := ian s (ixr b (-1))
theorem sdf_b {s b : Int} (h0 : 0 ≤ s) (h1 : s < 4096) (g0 : 0 ≤ b) (g1 : b < 2147483648) : (0 ≤ sdf s b ∧ sdf s b ≤ s) ∧ ∀ u, 0 ≤ u → u < 32 → (hasb (sdf s b) u ↔ hasb s u ∧ ¬ hasb b u) := by
  have e := ian_not (a := s.toNat) (s := b.toNat) (by omega) (by omega)
  rw [show ((s.toNat : Nat) : Int) = s by omega, show ((b.toNat : Nat) : Int) = b by omega] at e
  have hl := ndf_le s.toNat b.toNat
  have e : sdf s b = ((ndf s.toNat b.toNat : Nat) : Int) := e
  refine ⟨by rw [e]; omega, fun u u0 u1 => ?_⟩
  rw [e, hb_iff (by omega) (by omega) u0 u1, hb_iff h0 (by omega) u0 u1, hb_iff g0 (by omega) u0 u1, Int.toNat_natCast, ndf_bit]
  simp
theorem isl_b {t : Int} (h0 : 0 ≤ t) (h1 : t < 12) : (1 ≤ isl 1 t ∧ isl 1 t < 4096) ∧ ∀ u, 0 ≤ u → u < 32 → (hasb (isl 1 t) u ↔ u = t) := by
  have e := isl_nat (k := t.toNat) (by omega)
  rw [show ((t.toNat : Nat) : Int) = t by omega] at e
  have hl : 2 ^ t.toNat < 2 ^ 12 := Nat.pow_lt_pow_right (by decide) (by omega)
  have hp := Nat.two_pow_pos t.toNat
  refine ⟨by rw [e]; omega, fun u u0 u1 => ?_⟩
  rw [e, hb_iff (by omega) (by omega) u0 u1, Int.toNat_natCast, Nat.testBit_two_pow, decide_eq_true_eq]
  omega
theorem hb_0 {u : Int} (u0 : 0 ≤ u) (u1 : u < 32) : ¬ hasb 0 u := by
  rw [hb_iff (by omega) (by omega) u0 u1, Int.toNat_zero, Nat.zero_testBit]
  simp
theorem set_ext {s t : Int} (h0 : 0 ≤ s) (h1 : s < 4096) (g0 : 0 ≤ t) (g1 : t < 4096) (h : ∀ u, 0 ≤ u → u < 12 → (hasb s u ↔ hasb t u)) : s = t := by
  have : s.toNat = t.toNat := by
    refine Nat.eq_of_testBit_eq fun i => ?_
    by_cases hi : i < 12
    · have := h (i : Int) (by omega) (by omega)
      rw [hb_iff h0 (by omega) (by omega) (by omega), hb_iff g0 (by omega) (by omega) (by omega), Int.toNat_natCast] at this
      exact Bool.eq_iff_iff.mpr this
    · rw [Nat.testBit_lt_two_pow, Nat.testBit_lt_two_pow]
      · exact Nat.lt_of_lt_of_le (show t.toNat < 2 ^ 12 by omega) (Nat.pow_le_pow_right (by decide) (by omega))
      · exact Nat.lt_of_lt_of_le (show s.toNat < 2 ^ 12 by omega) (Nat.pow_le_pow_right (by decide) (by omega))
  omega
theorem set_lt {s n : Int} (h0 : 0 ≤ s) (h1 : s < 4096) (n0 : 0 ≤ n) (n1 : n ≤ 12) (h : ∀ u, n ≤ u → u < 12 → ¬ hasb s u) : s < 2 ^ n.toNat := by
  have : s.toNat < 2 ^ n.toNat := by
    refine Nat.lt_pow_two_of_testBit _ fun i hi => ?_
    by_cases h12 : i < 12
    · have := h (i : Int) (by omega) (by omega)
      rw [hb_iff h0 (by omega) (by omega) (by omega), Int.toNat_natCast] at this
      simpa using this
    · exact Nat.testBit_lt_two_pow (Nat.lt_of_lt_of_le (show s.toNat < 2 ^ 12 by omega) (Nat.pow_le_pow_right (by decide) (by omega)))
  have e : ((2 ^ n.toNat : Nat) : Int) = 2 ^ n.toNat := by rw [Int.natCast_pow]; rfl
  omega
theorem pcn_step {n S S' t : Nat} (ht : t < n) (h : ∀ i, i < n → i ≠ t → S'.testBit i = S.testBit i) (h0 : S.testBit t = false) (h1 : S'.testBit t = true) : pcn n S' = pcn n S + 1 := by
  induction n with
  | zero => omega
  | succ n ih =>
    unfold pcn
    by_cases hq : t = n
    · subst hq
      rw [h0, h1, pcn_congr (n := t) (s := S') (t := S) (fun i hi => h i (by omega) (by omega))]
      rfl
    · rw [ih (by omega) (fun i hi hne => h i (by omega) hne), h n (by omega) (by omega)]
      omega
theorem pcn_mono {n S S' : Nat} (h : ∀ i, i < n → S.testBit i = true → S'.testBit i = true) : pcn n S ≤ pcn n S' := by
  induction n with
  | zero => exact Nat.le_refl 0
  | succ n ih =>
    have h1 := ih (fun i hi => h i (by omega))
    have h2 := h n (by omega)
    unfold pcn
    cases hq : S.testBit n with
    | false => show pcn n S + 0 ≤ _; omega
    | true => rw [h2 hq]; show pcn n S + 1 ≤ pcn n S' + 1; omega
theorem pcn_top {n m S : Nat} (hm : m ≤ n) (h : ∀ i, m ≤ i → i < n → S.testBit i = false) : pcn n S = pcn m S := by
  induction n with
  | zero => have : m = 0 := by omega
            subst this; rfl
  | succ n ih =>
    by_cases hq : m = n + 1
    · subst hq; rfl
    · show pcn n S + (bif S.testBit n then 1 else 0) = pcn m S
      rw [h n (by omega) (by omega), ih (by omega) (fun i h0 h1 => h i h0 (by omega))]
      rfl
theorem pI_step {s s' t : Int} (h0 : 0 ≤ s) (h1 : s < 4096) (g0 : 0 ≤ s') (g1 : s' < 4096) (t0 : 0 ≤ t) (t1 : t < 12) (h : ∀ u, 0 ≤ u → u < 12 → u ≠ t → (hasb s' u ↔ hasb s u)) (hn : ¬ hasb s t) (hy : hasb s' t) : pI s' = pI s + 1 := by
  unfold pI
  rw [hb_iff (by omega) (by omega) (by omega) (by omega)] at hn hy
  rw [pcn_step (n := 12) (S := s.toNat) (S' := s'.toNat) (t := t.toNat) (by omega) (fun i hi hne => ?_) (by simpa using hn) hy]
  · rfl
  · have := h (i : Int) (by omega) (by omega) (by omega)
    rw [hb_iff (by omega) (by omega) (by omega) (by omega), hb_iff (by omega) (by omega) (by omega) (by omega), Int.toNat_natCast] at this
    exact Bool.eq_iff_iff.mpr this
theorem pI_mono {s s' : Int} (h0 : 0 ≤ s) (h1 : s < 4096) (g0 : 0 ≤ s') (g1 : s' < 4096) (h : ∀ u, 0 ≤ u → u < 12 → hasb s u → hasb s' u) : pI s ≤ pI s' := by
  unfold pI
  have := pcn_mono (n := 12) (S := s.toNat) (S' := s'.toNat) (fun i hi hb => by
    have := h (i : Int) (by omega) (by omega)
    rw [hb_iff (by omega) (by omega) (by omega) (by omega), hb_iff (by omega) (by omega) (by omega) (by omega), Int.toNat_natCast] at this
    exact this hb)
  omega
theorem pI_top {s n : Int} (h0 : 0 ≤ s) (h1 : s < 4096) (n0 : 0 ≤ n) (n1 : n ≤ 12) (h : ∀ u, n ≤ u → u < 12 → ¬ hasb s u) : pI s ≤ n := by
  unfold pI
  rw [pcn_top (n := 12) (m := n.toNat) (by omega) (fun i hi hb => ?_)]
  · have := pcn_le n.toNat s.toNat
    omega
  · have := h (i : Int) (by omega) (by omega)
    rw [hb_iff (by omega) (by omega) (by omega) (by omega), Int.toNat_natCast] at this
    simpa using this
theorem pI_0 : pI 0 = 0 := by decide
