/-! SUMS over all sets: ticket by ticket -/
abbrev mPd (L : LT) (k : Int) (B : gF) (i : Nat) (j s : Int) (D : Nat) : Prop := ian (D : Int) (ixr (tIn L) (-1)) = 0 ∧ pI (D : Int) = j ∧ sgF L k B (D : Int) i = s
abbrev mPp (L : LT) (k : Int) (B : gF) (i : Nat) (j s0 t : Int) (D : Nat) : Prop := ian (D : Int) (ixr (tIn L) (-1)) = 0 ∧ pI (D : Int) = j ∧ sgF L k B (D : Int) i < s0 ∧ iro (sgF L k B (D : Int) i) (bitL L k B (i : Int)) = t
def gU (L : LT) (k : Int) (B : gF) (f : Nat → Int) (i : Nat) (j s : Int) : Int := smF (fun D => if mPd L k B i j s D then f D else 0) (2 ^ i)
def gP (L : LT) (k : Int) (B : gF) (f : Nat → Int) (i : Nat) (j s0 t : Int) : Int := smF (fun D => if mPp L k B i j s0 t D then f D else 0) (2 ^ i)
theorem gP_s {L : LT} {k : Int} {B : gF} {f : Nat → Int} {i : Nat} {j s0 t : Int} : gP L k B f i j (s0 + 1) t = gP L k B f i j s0 t + (if iro s0 (bitL L k B (i : Int)) = t then gU L k B f i j s0 else 0) := by
  unfold gP gU
  by_cases h : iro s0 (bitL L k B (i : Int)) = t
  · rw [if_pos h, ← smF_add]
    refine smF_cg (fun D hD => ?_)
    by_cases h1 : ian (D : Int) (ixr (tIn L) (-1)) = 0 ∧ pI (D : Int) = j
    · by_cases h2 : sgF L k B (D : Int) i = s0
      · rw [if_pos ⟨h1.1, h1.2, by omega, by rw [h2]; exact h⟩, if_neg (fun z => by have := z.2.2.1; omega), if_pos ⟨h1.1, h1.2, h2⟩]; omega
      · rw [if_neg (show ¬ mPd L k B i j s0 D from fun z => h2 z.2.2), Int.add_zero]
        by_cases h3 : mPp L k B i j s0 t D
        · rw [if_pos h3, if_pos ⟨h3.1, h3.2.1, by have := h3.2.2.1; omega, h3.2.2.2⟩]
        · rw [if_neg h3, if_neg (fun z => h3 ⟨z.1, z.2.1, by have := z.2.2.1; omega, z.2.2.2⟩)]
    · rw [if_neg (fun z => h1 ⟨z.1, z.2.1⟩), if_neg (fun z => h1 ⟨z.1, z.2.1⟩), if_neg (fun z => h1 ⟨z.1, z.2.1⟩)]; rfl
  · rw [if_neg h, Int.add_zero]
    refine smF_cg (fun D hD => ?_)
    by_cases h3 : mPp L k B i j s0 t D
    · rw [if_pos h3, if_pos ⟨h3.1, h3.2.1, by have := h3.2.2.1; omega, h3.2.2.2⟩]
    · rw [if_neg h3, if_neg (fun z => h3 ⟨z.1, z.2.1, by
        have := z.2.2.1
        by_cases q : sgF L k B (D : Int) i = s0
        · have w := z.2.2.2; rw [q] at w; exact absurd w h
        · omega, z.2.2.2⟩)]
/-- a set of tickets ahead of the i-th that are in -/
theorem sg_in {ln : lz_L} {L : LT} {k h : Int} {B e : gF} {q : Int} (hL : LTok L) (hk : pP k) (hB : BOK L k B e q) {i D : Nat} (hi : i ≤ (tSz L).toNat) (hD : D < 2 ^ i) (hin : ian (D : Int) (ixr (tIn L) (-1)) = 0) : sgI L k B e q (sgF L k B (D : Int) i) (faS ln L h k (D : Int) i).1 := by
  have g := hL.f
  have := p12 (i := i) (by omega)
  rw [areIn_iff (by omega) (by omega) g.2.1.1 g.2.1.2] at hin
  exact sgI_all hL hk hB i hi (fun t ht z => hin (t : Int) (by omega) (by omega) z)
theorem sg_st {ln : lz_L} {L : LT} {k : Int} {B e : gF} {q : Int} {σ mk : Int} (hB : BOK L k B e q) (h : sgI L k B e q σ mk) : 0 ≤ σ ∧ σ < 2 ^ q.toNat := by
  have hq := hB.1
  exact ⟨h.2.2.1.1.1, set_lt h.2.2.1.1.1 (by have := h.2.2.1.1.2; omega) hq.1 (by omega) (fun u u0 u1 => h.2.2.1.2 u u0 (by omega))⟩
theorem gP_0 {L : LT} {k : Int} {B e : gF} {q : Int} (hL : LTok L) (hk : pP k) (hB : BOK L k B e q) {f : Nat → Int} {i : Nat} (hi : i ≤ (tSz L).toNat) {j t : Int} : gP L k B f i j 0 t = 0 := by
  unfold gP
  refine smF_z (fun D hD => ?_)
  rw [if_neg]
  rintro ⟨a, -, b, -⟩
  have := (sg_st (ln := []) hB (sg_in (ln := []) (h := 0) hL hk hB hi hD a)).1
  omega
theorem gU_top {L : LT} {k : Int} {B e : gF} {q : Int} (hL : LTok L) (hk : pP k) (hB : BOK L k B e q) {f : Nat → Int} {i : Nat} (hi : i < (tSz L).toNat) {j t : Int} :
    gU L k B f (i + 1) j t = gU L k B f i j t + (if hasb (tIn L) (i : Int) then gP L k B (fun D => f (2 ^ i + D)) i (j - 1) (2 ^ q.toNat) t else 0) := by
  have g := hL.f
  have hi12 : i < 12 := by omega
  have lo : ∀ D : Nat, D < 2 ^ i → sgF L k B (D : Int) (i + 1) = sgF L k B (D : Int) i := fun D hD => by
    conv => lhs; unfold sgF
    rw [if_neg (tp_no (by omega) hD (Int.le_refl _) (by omega))]
  have hi_ : ∀ D : Nat, D < 2 ^ i → sgF L k B ((2 ^ i + D : Nat) : Int) (i + 1) = iro (sgF L k B (D : Int) i) (bitL L k B (i : Int)) := fun D hD => by
    conv => lhs; unfold sgF
    rw [if_pos ((tp_hb hi12 hD (by omega) (by omega)).mpr (Or.inl rfl)), sgF_cg (S' := (D : Int)) (fun t ht => by rw [tp_hb hi12 hD (by omega) (by omega)]; exact ⟨fun z => z.resolve_left (by omega), Or.inr⟩)]
  unfold gU
  rw [smF_2]
  have e1 : smF (fun D => if mPd L k B (i + 1) j t D then f D else 0) (2 ^ i) = smF (fun D => if mPd L k B i j t D then f D else 0) (2 ^ i) := smF_cg (fun D hD => by
    show (if ian (D : Int) (ixr (tIn L) (-1)) = 0 ∧ pI (D : Int) = j ∧ sgF L k B (D : Int) (i + 1) = t then f D else 0) = _
    rw [lo D hD])
  rw [e1]
  congr 1
  by_cases hin : hasb (tIn L) (i : Int)
  · rw [if_pos hin]
    unfold gP
    refine smF_cg (fun D hD => ?_)
    show (if ian ((2 ^ i + D : Nat) : Int) (ixr (tIn L) (-1)) = 0 ∧ pI ((2 ^ i + D : Nat) : Int) = j ∧ sgF L k B ((2 ^ i + D : Nat) : Int) (i + 1) = t then f (2 ^ i + D) else 0) = _
    rw [hi_ D hD, tp_pI hi12 hD]
    by_cases h1 : ian (D : Int) (ixr (tIn L) (-1)) = 0
    · have hs := (sg_st (ln := []) hB (sg_in (ln := []) (h := 0) hL hk hB (by omega) hD h1)).2
      by_cases h2 : pI (D : Int) + 1 = j ∧ iro (sgF L k B (D : Int) i) (bitL L k B (i : Int)) = t
      · rw [if_pos ⟨(tp_in hi12 hD g.2.1.1 g.2.1.2).mpr ⟨hin, h1⟩, h2.1, h2.2⟩, if_pos ⟨h1, by omega, hs, h2.2⟩]
      · rw [if_neg (fun z => h2 ⟨z.2.1, z.2.2⟩), if_neg (fun z => h2 ⟨by have := z.2.1; omega, z.2.2.2⟩)]
    · rw [if_neg (fun z => h1 ((tp_in hi12 hD g.2.1.1 g.2.1.2).mp z.1).2), if_neg (fun z => h1 z.1)]
  · rw [if_neg hin]
    refine smF_z (fun D hD => ?_)
    rw [if_neg (fun z => hin ((tp_in hi12 hD g.2.1.1 g.2.1.2).mp z.1).1)]
/-- losses of a set, by all tickets -/
noncomputable def lsN (ln : lz_L) (L : LT) (k : Int) (D : Nat) : Int := lsS ln L k (D : Int)
def byS (ln : lz_L) (L : LT) (h k : Int) (B : gF) (i : Nat) (σ j : Int) : Int := if iro σ (bitL L k B (i : Int)) ≠ σ then lz_loss ln (tLv L) k (tTh L (i : Int)) h (pI (tLo L k) + pI σ) (tDr L + j) else 0
theorem faS_lo {ln : lz_L} {L : LT} {h k : Int} {i D : Nat} (hD : D < 2 ^ i) : ∀ m : Nat, i + m ≤ 12 → faS ln L h k (D : Int) (i + m) = faS ln L h k (D : Int) i
  | 0, _ => rfl
  | m + 1, hm => by
    show faS ln L h k (D : Int) (i + m + 1) = _
    rw [← faS_lo (ln := ln) (L := L) (h := h) (k := k) hD m (by omega)]
    conv => lhs; unfold faS
    rw [if_neg (tp_no (by omega) hD (by omega) (by omega))]
theorem lsN_lo {ln : lz_L} {L : LT} {k : Int} {i D : Nat} (hL : LTok L) (hi : i ≤ (tSz L).toNat) (hD : D < 2 ^ i) : lsN ln L k D = (faS ln L (hlL L k) k (D : Int) i).2 := by
  have g := hL.f
  have := faS_lo (ln := ln) (L := L) (h := hlL L k) (k := k) hD ((tSz L).toNat - i) (by omega)
  rw [show i + ((tSz L).toNat - i) = (tSz L).toNat by omega] at this
  unfold lsN lsS
  rw [this]
theorem lsN_top {ln : lz_L} {L : LT} {k : Int} {B e : gF} {q : Int} (hL : LTok L) (hk : pP k) (hB : BOK L k B e q) {i D : Nat} (hi : i < (tSz L).toNat) (hD : D < 2 ^ i) (h1 : ian (D : Int) (ixr (tIn L) (-1)) = 0) (hin : hasb (tIn L) (i : Int)) :
    lsN ln L k (2 ^ i + D) = lsN ln L k D + byS ln L (hlL L k) k B i (sgF L k B (D : Int) i) (pI (D : Int)) := by
  have g := hL.f
  have hi12 : i < 12 := by omega
  have h2 : 2 ^ (i + 1) = 2 ^ i + 2 ^ i := by rw [Nat.pow_succ, Nat.mul_two]
  rw [lsN_lo hL (i := i + 1) (by omega) (by omega), lsN_lo hL (i := i) (by omega) hD]
  have e0 : ∀ t : Nat, t < i → (hasb ((2 ^ i + D : Nat) : Int) (t : Int) ↔ hasb (D : Int) (t : Int)) := fun t ht => by
    rw [tp_hb hi12 hD (by omega) (by omega)]; exact ⟨fun z => z.resolve_left (by omega), Or.inr⟩
  have e1 : ctP (fun t => hasb ((2 ^ i + D : Nat) : Int) t) i = ctP (fun t => hasb (D : Int) t) i := ctP_cg e0
  conv => lhs; unfold faS
  rw [if_pos ((tp_hb hi12 hD (by omega) (by omega)).mpr (Or.inl rfl)), faS_cg (S' := (D : Int)) e0, e1, ct_pI (by omega) hD]
  rw [(sgI_step (h := hlL L k) (d := tDr L + pI (D : Int)) hL hk hB (by omega) (by omega) hin (sg_in (ln := ln) (h := hlL L k) hL hk hB (by omega) hD h1)).2]
  rfl
theorem gU_by {ln : lz_L} {L : LT} {k : Int} {B e : gF} {q : Int} (hL : LTok L) (hk : pP k) (hB : BOK L k B e q) {i : Nat} (hi : i < (tSz L).toNat) (hin : hasb (tIn L) (i : Int)) {j s : Int} :
    gU L k B (fun D => lsN ln L k (2 ^ i + D)) i j s = gU L k B (lsN ln L k) i j s + byS ln L (hlL L k) k B i s j * gU L k B (fun _ => 1) i j s := by
  unfold gU
  rw [← smF_mul, ← smF_add]
  refine smF_cg (fun D hD => ?_)
  by_cases h : mPd L k B i j s D
  · rw [if_pos h, if_pos h, if_pos h]
    show lsN ln L k (2 ^ i + D) = lsN ln L k D + byS ln L (hlL L k) k B i s j * 1
    rw [lsN_top hL hk hB hi hD h.1 hin, h.2.1, h.2.2]; omega
  · rw [if_neg h, if_neg h, if_neg h]; omega
theorem gU_z {L : LT} {k : Int} {B : gF} {i : Nat} {j s : Int} (h : gU L k B (fun _ => 1) i j s = 0) (f : Nat → Int) : gU L k B f i j s = 0 := by
  have key : ∀ n : Nat, 0 ≤ smF (fun D => if mPd L k B i j s D then (1 : Int) else 0) n ∧ (smF (fun D => if mPd L k B i j s D then (1 : Int) else 0) n = 0 → ∀ D, D < n → ¬ mPd L k B i j s D) := by
    intro n
    induction n with
    | zero => exact ⟨Int.le_refl 0, fun _ D hD => absurd hD (Nat.not_lt_zero _)⟩
    | succ n ih =>
      unfold smF
      by_cases w : mPd L k B i j s n
      · rw [if_pos w]; exact ⟨by omega, fun z => by omega⟩
      · rw [if_neg w, Int.add_zero]
        refine ⟨ih.1, fun z D hD => ?_⟩
        by_cases e : D = n
        · rw [e]; exact w
        · exact ih.2 z D (by omega)
  unfold gU at h ⊢
  refine smF_z (fun D hD => ?_)
  rw [if_neg ((key _).2 h D hD)]
theorem gU_ex {L : LT} {k : Int} {B : gF} {i : Nat} {j s : Int} (h : gU L k B (fun _ => 1) i j s ≠ 0) : ∃ D, D < 2 ^ i ∧ mPd L k B i j s D := by
  refine Classical.byContradiction (fun hn => h ?_)
  unfold gU
  refine smF_z (fun D hD => ?_)
  rw [if_neg (fun z => hn ⟨D, hD, z⟩)]
theorem smF_bd2 {f : Nat → Int} {b : Int} {i : Nat} (hi : i ≤ 12) (hb : 0 ≤ b) (h : ∀ D, D < 2 ^ i → -b ≤ f D ∧ f D ≤ b) : -(b * 4096) ≤ smF f (2 ^ i) ∧ smF f (2 ^ i) ≤ b * 4096 := by
  have h1 := smF_bd h
  have h2 : b * ((2 ^ i : Nat) : Int) ≤ b * 4096 := Int.mul_le_mul_of_nonneg_left (by have := p12 hi; omega) hb
  omega
theorem gU_bd {L : LT} {k : Int} {B : gF} {f : Nat → Int} {b : Int} {i : Nat} (hi : i ≤ 12) (hb : 0 ≤ b) (h : ∀ D, D < 4096 → -b ≤ f D ∧ f D ≤ b) (j s : Int) : -(b * 4096) ≤ gU L k B f i j s ∧ gU L k B f i j s ≤ b * 4096 := by
  unfold gU
  refine smF_bd2 hi hb (fun D hD => ?_)
  have := h D (Nat.lt_of_lt_of_le hD (p12 hi))
  split <;> omega
theorem gP_bd {L : LT} {k : Int} {B : gF} {f : Nat → Int} {b : Int} {i : Nat} (hi : i ≤ 12) (hb : 0 ≤ b) (h : ∀ D, D < 2 ^ i → -b ≤ f D ∧ f D ≤ b) (j s t : Int) : -(b * 4096) ≤ gP L k B f i j s t ∧ gP L k B f i j s t ≤ b * 4096 := by
  unfold gP
  refine smF_bd2 hi hb (fun D hD => ?_)
  have := h D hD
  split <;> omega
theorem lsN_bd {ln : lz_L} {L : LT} {k : Int} (hL : LTok L) (hk : pP k) (D : Nat) : -1188 ≤ lsN ln L k D ∧ lsN ln L k D ≤ 1188 := lsS_bd hL hk
/-- rows beyond those seen are empty -/
theorem gU_far {L : LT} {k : Int} {B : gF} {f : Nat → Int} {i : Nat} (hL : LTok L) (hi : i ≤ 12) {j s : Int} (h : (ctP (fun t => hasb (tIn L) t) i : Int) < j) : gU L k B f i j s = 0 := by
  have g := hL.f
  have hp := p12 hi
  unfold gU
  refine smF_z (fun D hD => ?_)
  rw [if_neg]
  rintro ⟨a, b, -⟩
  rw [areIn_iff (by omega) (by omega) g.2.1.1 g.2.1.2] at a
  rw [← ct_pI hi hD] at b
  have : ctP (fun t => hasb (D : Int) t) i ≤ ctP (fun t => hasb (tIn L) t) i := by
    rw [ct_pcn (by omega) (by omega) i hi, ct_pcn g.2.1.1 g.2.1.2 i hi]
    refine pcn_mono (fun u hu hb => ?_)
    have a := a (u : Int) (by omega) (by omega)
    rw [hb_iff (by omega) (by omega) (by omega) (by omega), hb_iff g.2.1.1 (by omega) (by omega) (by omega), Int.toNat_natCast] at a
    exact a hb
  omega
theorem gP_far {L : LT} {k : Int} {B : gF} {f : Nat → Int} {i : Nat} (hL : LTok L) (hi : i ≤ 12) {j s0 t : Int} (h : (ctP (fun t => hasb (tIn L) t) i : Int) < j ∨ j < 0) : gP L k B f i j s0 t = 0 := by
  have g := hL.f
  have hp := p12 hi
  unfold gP
  refine smF_z (fun D hD => ?_)
  rw [if_neg]
  rintro ⟨a, b, -, -⟩
  rw [areIn_iff (by omega) (by omega) g.2.1.1 g.2.1.2] at a
  rw [← ct_pI hi hD] at b
  have : ctP (fun t => hasb (D : Int) t) i ≤ ctP (fun t => hasb (tIn L) t) i := by
    rw [ct_pcn (by omega) (by omega) i hi, ct_pcn g.2.1.1 g.2.1.2 i hi]
    refine pcn_mono (fun u hu hb => ?_)
    have a := a (u : Int) (by omega) (by omega)
    rw [hb_iff (by omega) (by omega) (by omega) (by omega), hb_iff g.2.1.1 (by omega) (by omega) (by omega), Int.toNat_natCast] at a
    exact a hb
  omega
/-- all sets of m, whatever their bits -/
noncomputable def smA (ln : lz_L) (L : LT) (k m : Int) : Int := smF (fun D => if dwP L m (D : Int) then lsN ln L k D else 0) (twN L)
def smU (L : LT) (k : Int) (B : gF) (f : Nat → Int) (m s0 : Int) : Int := smF (fun D => if ian (D : Int) (ixr (tIn L) (-1)) = 0 ∧ pI (D : Int) = m ∧ sgF L k B (D : Int) (tSz L).toNat < s0 then f D else 0) (2 ^ (tSz L).toNat)
theorem smU_s {L : LT} {k : Int} {B : gF} {f : Nat → Int} {m s0 : Int} : smU L k B f m (s0 + 1) = smU L k B f m s0 + gU L k B f (tSz L).toNat m s0 := by
  unfold smU gU
  rw [← smF_add]
  refine smF_cg (fun D hD => ?_)
  by_cases h1 : ian (D : Int) (ixr (tIn L) (-1)) = 0 ∧ pI (D : Int) = m
  · by_cases h2 : sgF L k B (D : Int) (tSz L).toNat = s0
    · rw [if_pos ⟨h1.1, h1.2, by omega⟩, if_neg (fun z => by have := z.2.2; omega), if_pos ⟨h1.1, h1.2, h2⟩]; omega
    · rw [if_neg (show ¬ mPd L k B (tSz L).toNat m s0 D from fun z => h2 z.2.2), Int.add_zero]
      by_cases h3 : sgF L k B (D : Int) (tSz L).toNat < s0
      · rw [if_pos ⟨h1.1, h1.2, by omega⟩, if_pos ⟨h1.1, h1.2, h3⟩]
      · rw [if_neg (fun z => by have := z.2.2; omega), if_neg (fun z => h3 z.2.2)]
  · rw [if_neg (fun z => h1 ⟨z.1, z.2.1⟩), if_neg (fun z => h1 ⟨z.1, z.2.1⟩), if_neg (fun z => h1 ⟨z.1, z.2.1⟩)]; rfl
theorem smU_0 {L : LT} {k : Int} {B e : gF} {q : Int} (hL : LTok L) (hk : pP k) (hB : BOK L k B e q) {f : Nat → Int} {m : Int} : smU L k B f m 0 = 0 := by
  unfold smU
  refine smF_z (fun D hD => ?_)
  rw [if_neg]
  rintro ⟨a, -, b⟩
  have := (sg_st (ln := []) hB (sg_in (ln := []) (h := 0) hL hk hB (Nat.le_refl _) hD a)).1
  omega
theorem smU_e {ln : lz_L} {L : LT} {k : Int} {B e : gF} {q : Int} (hL : LTok L) (hk : pP k) (hB : BOK L k B e q) {m : Int} : smU L k B (lsN ln L k) m (2 ^ q.toNat) = smA ln L k m := by
  unfold smU smA twN
  refine smF_cg (fun D hD => ?_)
  by_cases h : dwP L m (D : Int)
  · rw [if_pos h, if_pos ⟨h.1, h.2, (sg_st (ln := []) hB (sg_in (ln := []) (h := 0) hL hk hB (Nat.le_refl _) hD h.1)).2⟩]
  · rw [if_neg h, if_neg (fun z => h ⟨z.1, z.2.1⟩)]
