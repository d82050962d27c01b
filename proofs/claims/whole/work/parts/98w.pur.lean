/-! LOTS as numbers: the pure course of a thought -/
abbrev LT : Type := Int × Int × Int × gF × gF × gF × gF × gF
def tSz (L : LT) : Int := L.1
def tIn (L : LT) : Int := L.2.1
def tDr (L : LT) : Int := L.2.2.1
def tLv (L : LT) : gF := L.2.2.2.1
def tTh (L : LT) : gF := L.2.2.2.2.1
def tHo (L : LT) : gF := L.2.2.2.2.2.1
def tBl (L : LT) : gF := L.2.2.2.2.2.2.1
def tLo (L : LT) : gF := L.2.2.2.2.2.2.2
def ltC (I : ME) : LT := (I 1 5, I 1 6, I 1 7, I 2, I 3, I 4, I 5, I 6)
def LTok (L : LT) : Prop := cA (tSz L) (tIn L) (tDr L) (tLv L) (tTh L) (tHo L) (tBl L) (tLo L)
/-- the class's side of a thought -/
def CX (ln : lz_L) (L : LT) (I : ME) : Prop := ltC I = L ∧ LTok L ∧ cL ln (I 7 4) (I 7 5) (I 8) (I 9) (I 10) ∧ (0 ≤ I 7 9 ∧ 0 ≤ I 1 8 ∧ I 7 9 + I 1 8 ≤ 600) ∧ cK ln (I 2) (I 7 9 + I 1 8) (I 13)
/-- the model's -/
def MX (ln : lz_L) (L : LT) (I : ME) : Prop := LTok L ∧ mA (tSz L) (tIn L) (tDr L) (tLv L) (tTh L) (tHo L) (tBl L) (tLo L) (I 53 6) (I 53 7) (I 53 8) (I 54) (I 58) ∧ mL ln (I 53 13) (I 60)
theorem CX.f {ln : lz_L} {L : LT} {I : ME} (h : CX ln L I) : I 1 5 = tSz L ∧ I 1 6 = tIn L ∧ I 1 7 = tDr L ∧ I 2 = tLv L ∧ I 3 = tTh L ∧ I 4 = tHo L ∧ I 5 = tBl L ∧ I 6 = tLo L := by
  obtain ⟨rfl, -⟩ := h
  exact ⟨rfl, rfl, rfl, rfl, rfl, rfl, rfl, rfl⟩
theorem LTok.f {L : LT} (h : LTok L) : (0 ≤ tSz L ∧ tSz L ≤ 12) ∧ (0 ≤ tIn L ∧ tIn L < 4096) ∧ (0 ≤ tDr L ∧ tDr L + pI (tIn L) ≤ tSz L) := ⟨h.1, ⟨h.2.1.1, h.2.1.2.1⟩, h.2.2.1⟩
theorem LTok.t {L : LT} (h : LTok L) {t : Int} (t0 : 0 ≤ t) (t1 : t < 12) : pT (tTh L t) ∧ pH (tHo L t) ∧ (tBl L t = 0 ∨ tBl L t = 1) := h.2.2.2.2.1 t t0 t1
theorem LTok.lo {L : LT} (h : LTok L) {p : Int} (hp : pP p) : 0 ≤ tLo L p ∧ tLo L p < 256 := h.2.2.2.2.2 p hp
theorem LTok.top {L : LT} (h : LTok L) {t : Int} (t0 : tSz L ≤ t) (t1 : t < 12) : ¬ hasb (tIn L) t := h.2.1.2.2 t t0 t1
/-- cells of a thought, of means, of plans: they tie nothing -/
theorem CX.keep {ln : lz_L} {L : LT} {I J : ME} (h : CX ln L I) (hF : ∀ c, 1 ≤ c → c ≤ 10 → J c = I c) (hK : cK ln (I 2) (I 7 9 + I 1 8) (J 13)) : CX ln L J := by
  obtain ⟨a, b, c, d, e⟩ := h
  unfold CX ltC
  rw [hF 1 (by omega) (by omega), hF 2 (by omega) (by omega), hF 3 (by omega) (by omega), hF 4 (by omega) (by omega), hF 5 (by omega) (by omega), hF 6 (by omega) (by omega), hF 7 (by omega) (by omega), hF 8 (by omega) (by omega), hF 9 (by omega) (by omega), hF 10 (by omega) (by omega)]
  exact ⟨a, b, c, d, hK⟩
theorem CX.fr {ln : lz_L} {L : LT} {I J : ME} (h : CX ln L I) (hF : ∀ c, (1 ≤ c ∧ c ≤ 10) ∨ c = 13 → J c = I c) : CX ln L J := h.keep (fun c h1 h2 => hF c (Or.inl ⟨h1, h2⟩)) (by rw [hF 13 (Or.inr rfl)]; exact h.2.2.2.2)
theorem iro_8 {s t : Int} (h : 0 ≤ s ∧ s < 256) (ht : pT t) : (0 ≤ iro s (isl 1 t) ∧ iro s (isl 1 t) < 256) ∧ ∀ u, 0 ≤ u → u < 32 → (hasb (iro s (isl 1 t)) u ↔ hasb s u ∨ u = t) := by
  have e2 := isl_nat (k := t.toNat) (by omega)
  rw [show ((t.toNat : Nat) : Int) = t by omega] at e2
  have hl : 2 ^ t.toNat < 2 ^ 8 := Nat.pow_lt_pow_right (by decide) (by omega)
  have e := iro_nat (a := s.toNat) (b := 2 ^ t.toNat) (by omega) (by omega)
  rw [show ((s.toNat : Nat) : Int) = s by omega, ← e2] at e
  have ho : s.toNat ||| 2 ^ t.toNat < 2 ^ 8 := Nat.or_lt_two_pow (by omega) hl
  refine ⟨by rw [e]; omega, fun u u0 u1 => ?_⟩
  have i1 := isl_b (t := t) (by omega) (by omega)
  rw [(iro_b (s := s) (b := isl 1 t) (by omega) (by omega) (by omega) (by omega)).2 u u0 u1, i1.2 u u0 u1]
theorem hb_256 {s u : Int} (h : 0 ≤ s ∧ s < 256) (u0 : 8 ≤ u) (u1 : u < 32) : ¬ hasb s u := by
  rw [hb_iff (by omega) (by omega) (by omega) u1, Nat.testBit_lt_two_pow]
  · simp
  · exact Nat.lt_of_lt_of_le (show s.toNat < 2 ^ 8 by omega) (Nat.pow_le_pow_right (by decide) (by omega))
theorem pI_8 {s : Int} (h : 0 ≤ s ∧ s < 256) : 0 ≤ pI s ∧ pI s ≤ 8 := ⟨(pI_bd s).1, pI_top (by omega) (by omega) (by omega) (by omega) (fun u h1 h2 => hb_256 h h1 (by omega))⟩
/-- what the ticket t, drawn as the d-th, does to person k: things lost, loss -/
def fa1 (ln : lz_L) (L : LT) (h k t d : Int) (s : Int × Int) : Int × Int :=
  if tHo L t = k ∧ tBl L t = 0 ∧ ¬ hasb s.1 (tTh L t) then (iro s.1 (isl 1 (tTh L t)), s.2 + lz_loss ln (tLv L) k (tTh L t) h (pI s.1) d) else s
theorem fa1_bd {ln : lz_L} {L : LT} {h k t d : Int} {s : Int × Int} (hL : LTok L) (t0 : 0 ≤ t) (t1 : t < 12) (hs : 0 ≤ s.1 ∧ s.1 < 256) :
    (0 ≤ (fa1 ln L h k t d s).1 ∧ (fa1 ln L h k t d s).1 < 256) ∧ s.2 - 99 ≤ (fa1 ln L h k t d s).2 ∧ (fa1 ln L h k t d s).2 ≤ s.2 + 99 := by
  unfold fa1
  split
  · have hT := (hL.t t0 t1).1
    have := lz_cl_bd (lz_val (lz_nms (tLv L (8 * k + tTh L t)) h (pI s.1) (tTh L t) k d) ln)
    have e : lz_loss ln (tLv L) k (tTh L t) h (pI s.1) d = lz_cl (lz_val (lz_nms (tLv L (8 * k + tTh L t)) h (pI s.1) (tTh L t) k d) ln) := rfl
    refine ⟨(iro_8 hs hT).1, ?_⟩
    show s.2 - 99 ≤ s.2 + _ ∧ s.2 + _ ≤ s.2 + 99
    rw [e]
    omega
  · exact ⟨hs, by omega⟩
/-- a set drawn at once, ticket by ticket -/
noncomputable def faS (ln : lz_L) (L : LT) (h k S : Int) : Nat → Int × Int
  | 0 => (tLo L k, 0)
  | i + 1 => if hasb S (i : Int) then fa1 ln L h k (i : Int) (tDr L + (ctP (fun t => hasb S t) i : Int)) (faS ln L h k S i) else faS ln L h k S i
theorem faS_bd {ln : lz_L} {L : LT} {h k S : Int} (hL : LTok L) (hk : pP k) : ∀ i : Nat, i ≤ 12 → (0 ≤ (faS ln L h k S i).1 ∧ (faS ln L h k S i).1 < 256) ∧ -99 * (i : Int) ≤ (faS ln L h k S i).2 ∧ (faS ln L h k S i).2 ≤ 99 * (i : Int)
  | 0, _ => ⟨hL.lo hk, by show -99 * ((0 : Nat) : Int) ≤ 0 ∧ 0 ≤ 99 * ((0 : Nat) : Int); omega⟩
  | i + 1, hi => by
    have ih := faS_bd (ln := ln) (h := h) (S := S) hL hk i (by omega)
    unfold faS
    split
    · have := fa1_bd (ln := ln) (h := h) (k := k) (t := (i : Int)) (d := tDr L + (ctP (fun t => hasb S t) i : Int)) hL (by omega) (by omega) ih.1
      exact ⟨this.1, by omega⟩
    · exact ⟨ih.1, by omega⟩
/-- how many of those in one holds -/
noncomputable def hlL (L : LT) (k : Int) : Int := (ctP (fun t => hasb (tIn L) t ∧ tHo L t = k) (tSz L).toNat : Nat)
theorem hlL_bd {L : LT} (hL : LTok L) (k : Int) : 0 ≤ hlL L k ∧ hlL L k ≤ 12 := by
  have := ctP_le (fun t => hasb (tIn L) t ∧ tHo L t = k) (tSz L).toNat
  have := hL.f
  unfold hlL
  omega
/-- what one loses if a set is drawn at once -/
noncomputable def lsS (ln : lz_L) (L : LT) (k S : Int) : Int := (faS ln L (hlL L k) k S (tSz L).toNat).2
theorem lsS_bd {ln : lz_L} {L : LT} {k S : Int} (hL : LTok L) (hk : pP k) : -1188 ≤ lsS ln L k S ∧ lsS ln L k S ≤ 1188 := by
  have := hL.f
  have := (faS_bd (ln := ln) (h := hlL L k) (S := S) hL hk (tSz L).toNat (by omega)).2
  unfold lsS
  omega
