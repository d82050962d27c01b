/-! SUMS over all sets: pure -/
def smF (f : Nat → Int) : Nat → Int
  | 0 => 0
  | n + 1 => smF f n + f n
theorem smF_cg {f g : Nat → Int} : ∀ {n : Nat}, (∀ i, i < n → f i = g i) → smF f n = smF g n
  | 0, _ => rfl
  | n + 1, h => by unfold smF; rw [smF_cg (fun i hi => h i (by omega)), h n (by omega)]
theorem smF_add {f g : Nat → Int} : ∀ n : Nat, smF (fun i => f i + g i) n = smF f n + smF g n
  | 0 => rfl
  | n + 1 => by unfold smF; rw [smF_add n]; omega
theorem smF_0 : ∀ n : Nat, smF (fun _ => 0) n = 0
  | 0 => rfl
  | n + 1 => by unfold smF; rw [smF_0 n]; rfl
theorem smF_z {f : Nat → Int} {n : Nat} (h : ∀ i, i < n → f i = 0) : smF f n = 0 := (smF_cg h).trans (smF_0 n)
theorem smF_mul {f : Nat → Int} (c : Int) : ∀ n : Nat, smF (fun i => c * f i) n = c * smF f n
  | 0 => by unfold smF; rw [Int.mul_zero]
  | n + 1 => by unfold smF; rw [smF_mul c n, Int.mul_add]
theorem smF_bd {f : Nat → Int} {b : Int} : ∀ {n : Nat}, (∀ i, i < n → -b ≤ f i ∧ f i ≤ b) → -(b * n) ≤ smF f n ∧ smF f n ≤ b * n
  | 0, _ => by show -(b * ((0 : Nat) : Int)) ≤ 0 ∧ 0 ≤ b * ((0 : Nat) : Int); rw [show ((0 : Nat) : Int) = 0 from rfl, Int.mul_zero]; omega
  | n + 1, h => by
    have ih := smF_bd (f := f) (b := b) (n := n) (fun i hi => h i (by omega))
    have := h n (by omega)
    unfold smF
    rw [show ((n + 1 : Nat) : Int) = (n : Int) + 1 from rfl, Int.mul_add, Int.mul_one]
    omega
theorem smF_ap {f : Nat → Int} (m : Nat) : ∀ n : Nat, smF f (m + n) = smF f m + smF (fun i => f (m + i)) n
  | 0 => by show smF f m = smF f m + 0; omega
  | n + 1 => by show smF f (m + n) + f (m + n) = smF f m + (smF (fun i => f (m + i)) n + f (m + n)); rw [smF_ap m n]; omega
theorem smF_2 {f : Nat → Int} (i : Nat) : smF f (2 ^ (i + 1)) = smF f (2 ^ i) + smF (fun D => f (2 ^ i + D)) (2 ^ i) := by
  rw [← smF_ap, Nat.pow_succ, Nat.mul_two]
/-- one ticket more -/
theorem tp_bit {i D u : Nat} (hD : D < 2 ^ i) : (2 ^ i + D).testBit u = (decide (u = i) || D.testBit u) := by
  by_cases h : u = i
  · subst h
    rw [Nat.testBit_two_pow_add_eq, Nat.testBit_lt_two_pow hD]
    simp
  · have e := Nat.two_pow_add_eq_or_of_lt hD 1
    rw [Nat.mul_one] at e
    rw [e, Nat.testBit_or, Nat.testBit_two_pow]
    simp [h, Ne.symm h]
theorem p12 {i : Nat} (hi : i ≤ 12) : 2 ^ i ≤ 4096 := Nat.pow_le_pow_right (n := 2) (by decide) hi
theorem tp_hb {i D : Nat} (hi : i < 12) (hD : D < 2 ^ i) {u : Int} (u0 : 0 ≤ u) (u1 : u < 32) : hasb ((2 ^ i + D : Nat) : Int) u ↔ u = (i : Int) ∨ hasb (D : Int) u := by
  have := p12 (i := i + 1) (by omega)
  have h2 : 2 ^ (i + 1) = 2 ^ i + 2 ^ i := by rw [Nat.pow_succ, Nat.mul_two]
  rw [hb_iff (by omega) (by omega) u0 u1, hb_iff (by omega) (by omega) u0 u1, Int.toNat_natCast, Int.toNat_natCast, tp_bit hD, Bool.or_eq_true, decide_eq_true_eq, show (u.toNat = i) = (u = (i : Int)) from propext (by omega)]
theorem tp_no {i D : Nat} (hi : i ≤ 12) (hD : D < 2 ^ i) {u : Int} (u0 : (i : Int) ≤ u) (u1 : u < 32) : ¬ hasb (D : Int) u := by
  have := p12 hi
  rw [hb_iff (by omega) (by omega) (by omega) u1, Int.toNat_natCast, Nat.testBit_lt_two_pow (Nat.lt_of_lt_of_le hD (Nat.pow_le_pow_right (by decide) (by omega)))]
  simp
theorem tp_in {i D : Nat} {s : Int} (hi : i < 12) (hD : D < 2 ^ i) (s0 : 0 ≤ s) (s1 : s < 4096) : ian ((2 ^ i + D : Nat) : Int) (ixr s (-1)) = 0 ↔ hasb s (i : Int) ∧ ian (D : Int) (ixr s (-1)) = 0 := by
  have := p12 (i := i + 1) (by omega)
  have h2 : 2 ^ (i + 1) = 2 ^ i + 2 ^ i := by rw [Nat.pow_succ, Nat.mul_two]
  rw [areIn_iff (by omega) (by omega) s0 s1, areIn_iff (by omega) (by omega) s0 s1]
  constructor
  · intro h
    exact ⟨h _ (by omega) (by omega) ((tp_hb hi hD (by omega) (by omega)).mpr (Or.inl rfl)), fun u u0 u1 q => h u u0 u1 ((tp_hb hi hD u0 (by omega)).mpr (Or.inr q))⟩
  · rintro ⟨a, b⟩ u u0 u1 q
    rcases (tp_hb hi hD u0 (by omega)).mp q with q | q
    · rw [q]; exact a
    · exact b u u0 u1 q
theorem tp_pI {i D : Nat} (hi : i < 12) (hD : D < 2 ^ i) : pI ((2 ^ i + D : Nat) : Int) = pI (D : Int) + 1 := by
  have := p12 (i := i + 1) (by omega)
  have h2 : 2 ^ (i + 1) = 2 ^ i + 2 ^ i := by rw [Nat.pow_succ, Nat.mul_two]
  refine pI_step (t := (i : Int)) (by omega) (by omega) (by omega) (by omega) (by omega) (by omega) (fun u u0 u1 hu => ?_) (tp_no (by omega) hD (Int.le_refl _) (by omega)) ((tp_hb hi hD (by omega) (by omega)).mpr (Or.inl rfl))
  rw [tp_hb hi hD u0 (by omega)]
  constructor
  · intro q; exact q.resolve_left hu
  · exact Or.inr
theorem ct_pcn {S : Int} (h0 : 0 ≤ S) (h1 : S < 4096) : ∀ i : Nat, i ≤ 12 → ctP (fun t => hasb S t) i = pcn i S.toNat
  | 0, _ => rfl
  | i + 1, hi => by
    have ih := ct_pcn h0 h1 i (by omega)
    have hb := hb_iff h0 (by omega) (k := (i : Int)) (by omega) (by omega)
    rw [Int.toNat_natCast] at hb
    unfold pcn
    by_cases q : hasb S (i : Int)
    · rw [ctP_t (p := fun t => hasb S t) q, ih, hb.mp q]; rfl
    · rw [ctP_f (p := fun t => hasb S t) q, ih, show S.toNat.testBit i = false by simpa using fun z => q (hb.mpr z)]; rfl
theorem ct_pI {i D : Nat} (hi : i ≤ 12) (hD : D < 2 ^ i) : (ctP (fun t => hasb (D : Int) t) i : Int) = pI (D : Int) := by
  have := p12 hi
  rw [ct_pcn (by omega) (by omega) i hi]
  unfold pI
  rw [pcn_top (n := 12) (m := i) hi (fun u h1 h2 => Nat.testBit_lt_two_pow (Nat.lt_of_lt_of_le (show (D : Int).toNat < 2 ^ i by omega) (Nat.pow_le_pow_right (by decide) h1)))]
theorem faS_cg {ln : lz_L} {L : LT} {h k S S' : Int} : ∀ {i : Nat}, (∀ t : Nat, t < i → (hasb S (t : Int) ↔ hasb S' (t : Int))) → faS ln L h k S i = faS ln L h k S' i
  | 0, _ => rfl
  | i + 1, hq => by
    have ih := faS_cg (ln := ln) (L := L) (h := h) (k := k) (i := i) (fun t ht => hq t (by omega))
    have e : ctP (fun t => hasb S t) i = ctP (fun t => hasb S' t) i := ctP_cg (fun t ht => hq t (by omega))
    unfold faS
    rw [ih, e]
    by_cases z : hasb S (i : Int)
    · rw [if_pos z, if_pos ((hq i (by omega)).mp z)]
    · rw [if_neg z, if_neg (fun w => z ((hq i (by omega)).mpr w))]
/-- a ticket that is in threatens one -/
abbrev thr (L : LT) (k t : Int) : Prop := tHo L t = k ∧ tBl L t = 0 ∧ ¬ hasb (tLo L k) (tTh L t)
def bitL (L : LT) (k : Int) (B : gF) (t : Int) : Int := if thr L k t then B (tTh L t) else 0
/-- which bits the things lost make -/
def sgF (L : LT) (k : Int) (B : gF) (D : Int) : Nat → Int
  | 0 => 0
  | i + 1 => if hasb D (i : Int) then iro (sgF L k B D i) (bitL L k B (i : Int)) else sgF L k B D i
theorem sgF_cg {L : LT} {k : Int} {B : gF} {S S' : Int} : ∀ {i : Nat}, (∀ t : Nat, t < i → (hasb S (t : Int) ↔ hasb S' (t : Int))) → sgF L k B S i = sgF L k B S' i
  | 0, _ => rfl
  | i + 1, hq => by
    have ih := sgF_cg (L := L) (k := k) (B := B) (i := i) (fun t ht => hq t (by omega))
    unfold sgF
    rw [ih]
    by_cases z : hasb S (i : Int)
    · rw [if_pos z, if_pos ((hq i (by omega)).mp z)]
    · rw [if_neg z, if_neg (fun w => z ((hq i (by omega)).mpr w))]
def BOK (L : LT) (k : Int) (B e : gF) (q : Int) : Prop := (0 ≤ q ∧ q ≤ 8) ∧ (∀ th, pT th → B th ≠ 0 → B th = isl 1 (e th) ∧ 0 ≤ e th ∧ e th < q ∧ ¬ hasb (tLo L k) th) ∧
  (∀ th th', pT th → pT th' → B th ≠ 0 → B th' ≠ 0 → e th = e th' → th = th') ∧ ∀ t, 0 ≤ t → t < tSz L → hasb (tIn L) t → thr L k t → B (tTh L t) ≠ 0
def sgI (L : LT) (k : Int) (B e : gF) (q σ mk : Int) : Prop := (∀ th, pT th → B th ≠ 0 → (hasb σ (e th) ↔ hasb mk th)) ∧ pI mk = pI (tLo L k) + pI σ ∧ ((0 ≤ σ ∧ σ < 256) ∧ ∀ u, q ≤ u → u < 32 → ¬ hasb σ u) ∧ (∀ th, pT th → hasb (tLo L k) th → hasb mk th) ∧ (0 ≤ mk ∧ mk < 256)
theorem iro_z {s : Int} (h0 : 0 ≤ s) (h1 : s < 4096) : iro s 0 = s := by
  have := iro_b h0 h1 (b := 0) (by omega) (by omega)
  refine set_ext this.1.1 this.1.2 h0 h1 (fun u u0 u1 => ?_)
  rw [this.2 u u0 (by omega)]
  exact ⟨fun q => q.resolve_right (hb_0 u0 (by omega)), Or.inl⟩
theorem iro_same {s e : Int} (h : 0 ≤ s ∧ s < 256) (he : pT e) : iro s (isl 1 e) = s ↔ hasb s e := by
  have := iro_8 h he
  constructor
  · intro q
    have := (this.2 e he.1 (by have := he.2; omega)).mpr (Or.inr rfl)
    rw [q] at this
    exact this
  · intro q
    refine set_ext this.1.1 (by omega) h.1 (by omega) (fun u u0 u1 => ?_)
    rw [this.2 u u0 (by omega)]
    exact ⟨fun z => z.elim id (fun z => by rw [z]; exact q), Or.inl⟩
/-- one ticket more: what is lost and the bits go together -/
theorem sgI_step {ln : lz_L} {L : LT} {k h t d : Int} {B e : gF} {q σ : Int} {s : Int × Int} (hL : LTok L) (hk : pP k) (hB : BOK L k B e q) (t0 : 0 ≤ t) (t1 : t < tSz L) (hin : hasb (tIn L) t) (hI : sgI L k B e q σ s.1) :
    sgI L k B e q (iro σ (bitL L k B t)) (fa1 ln L h k t d s).1 ∧ (fa1 ln L h k t d s).2 = s.2 + (if iro σ (bitL L k B t) ≠ σ then lz_loss ln (tLv L) k (tTh L t) h (pI (tLo L k) + pI σ) d else 0) := by
  obtain ⟨a, b, c, dd, m⟩ := hI
  have g := hL.f
  have hT := (hL.t t0 (by omega)).1
  unfold bitL fa1
  by_cases hth : thr L k t
  · have hnz := hB.2.2.2 t t0 t1 hin hth
    obtain ⟨b1, b2, b3, b4⟩ := hB.2.1 _ hT hnz
    have he : pT (e (tTh L t)) := ⟨b2, by have := hB.1; omega⟩
    have hs := iro_same (s := σ) c.1 he
    rw [if_pos hth, b1]
    have ha := a _ hT hnz
    have h8 := iro_8 c.1 he
    have m8 := iro_8 m hT
    by_cases hm : hasb s.1 (tTh L t)
    · rw [if_neg (fun z => z.2.2 hm), hs.mpr (ha.mpr hm), if_neg (fun z => z rfl)]
      exact ⟨⟨a, b, c, dd, m⟩, by omega⟩
    · have hne : ¬ iro σ (isl 1 (e (tTh L t))) = σ := fun z => hm (ha.mp (hs.mp z))
      rw [if_pos ⟨hth.1, hth.2.1, hm⟩, if_pos hne, b]
      refine ⟨⟨fun th hp hb => ?_, ?_, ⟨h8.1, fun u u0 u1 => ?_⟩, fun th hp hl => ?_, m8.1⟩, rfl⟩
      · have hb3 := hB.2.1 th hp hb
        rw [h8.2 _ hb3.2.1 (by have := hB.1; omega), m8.2 th hp.1 (by have := hp.2; omega), a th hp hb]
        constructor
        · rintro (z | z)
          · exact Or.inl z
          · exact Or.inr (hB.2.2.1 _ _ hp hT hb hnz z)
        · rintro (z | z)
          · exact Or.inl z
          · exact Or.inr (by rw [z])
      · have e1 : pI (iro s.1 (isl 1 (tTh L t))) = pI s.1 + 1 := pI_step (t := tTh L t) (by omega) (by omega) (by omega) (by omega) hT.1 (by have := hT.2; omega) (fun u u0 u1 hu => by rw [m8.2 u u0 (by omega)]; exact ⟨fun z => z.resolve_right hu, Or.inl⟩) hm ((m8.2 _ hT.1 (by have := hT.2; omega)).mpr (Or.inr rfl))
        have e2 : pI (iro σ (isl 1 (e (tTh L t)))) = pI σ + 1 := pI_step (t := e (tTh L t)) (by omega) (by omega) (by omega) (by omega) he.1 (by have := he.2; omega) (fun u u0 u1 hu => by rw [h8.2 u u0 (by omega)]; exact ⟨fun z => z.resolve_right hu, Or.inl⟩) (fun z => hm (ha.mp z)) ((h8.2 _ he.1 (by have := he.2; omega)).mpr (Or.inr rfl))
        rw [e1, e2, b]; omega
      · have hq := hB.1
        rw [h8.2 u (by omega) u1]
        rintro (z | z)
        · exact c.2 u u0 u1 z
        · omega
      · exact (m8.2 th hp.1 (by have := hp.2; omega)).mpr (Or.inl (dd th hp hl))
  · have : ¬ (tHo L t = k ∧ tBl L t = 0 ∧ ¬ hasb s.1 (tTh L t)) := fun z => hth ⟨z.1, z.2.1, fun w => z.2.2 (dd _ hT w)⟩
    rw [if_neg hth, iro_z c.1.1 (by omega), if_neg this, if_neg (fun z => z rfl)]
    exact ⟨⟨a, b, c, dd, m⟩, by omega⟩
theorem sgI_all {ln : lz_L} {L : LT} {k h D : Int} {B e : gF} {q : Int} (hL : LTok L) (hk : pP k) (hB : BOK L k B e q) : ∀ i : Nat, i ≤ (tSz L).toNat → (∀ t : Nat, t < i → hasb D (t : Int) → hasb (tIn L) (t : Int)) → sgI L k B e q (sgF L k B D i) (faS ln L h k D i).1
  | 0, _, _ => by
    refine ⟨fun th hp hb => ⟨fun z => absurd z (hb_0 (hB.2.1 th hp hb).2.1 (by have := (hB.2.1 th hp hb).2.2.1; have := hB.1; omega)), fun z => absurd z (hB.2.1 th hp hb).2.2.2⟩, ?_, ⟨⟨Int.le_refl 0, by show (0 : Int) < 256; omega⟩, fun u u0 u1 => hb_0 (by have := hB.1; omega) u1⟩, fun th hp z => z, hL.lo hk⟩
    show pI (tLo L k) = pI (tLo L k) + pI 0
    rw [pI_0]; omega
  | i + 1, hi, hD => by
    have ih := sgI_all (ln := ln) (h := h) (D := D) hL hk hB i (by omega) (fun t ht => hD t (by omega))
    have g := hL.f
    unfold sgF faS
    by_cases z : hasb D (i : Int)
    · rw [if_pos z, if_pos z]
      exact (sgI_step hL hk hB (by omega) (by omega) (hD i (by omega) z) ih).1
    · rw [if_neg z, if_neg z]; exact ih
