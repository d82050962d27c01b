/-! RINGS of wishes: pure; the class -/
def lvT (L : LT) (k t : Int) : Int := tLv L (8 * k + tTh L t)
/-- of one's own the one with the thing loved most -/
def wiF (L : LT) (k : Int) : Nat → Int
  | 0 => -1
  | t + 1 => if (hasb (tIn L) (t : Int) ∧ tHo L (t : Int) = k) ∧ (wiF L k t = -1 ∨ lvT L k (wiF L k t) < lvT L k (t : Int)) then (t : Int) else wiF L k t
theorem wiF_p {L : LT} {k : Int} : ∀ t : Nat, (wiF L k t = -1 ∧ ctP (fun t => hasb (tIn L) t ∧ tHo L t = k) t = 0) ∨ ((0 ≤ wiF L k t ∧ wiF L k t < t) ∧ (hasb (tIn L) (wiF L k t) ∧ tHo L (wiF L k t) = k) ∧ 0 < ctP (fun t => hasb (tIn L) t ∧ tHo L t = k) t)
  | 0 => Or.inl ⟨rfl, rfl⟩
  | t + 1 => by
    have ih := wiF_p (L := L) (k := k) t
    unfold wiF
    by_cases h : (hasb (tIn L) (t : Int) ∧ tHo L (t : Int) = k) ∧ (wiF L k t = -1 ∨ lvT L k (wiF L k t) < lvT L k (t : Int))
    · rw [if_pos h, ctP_t (p := fun t => hasb (tIn L) t ∧ tHo L t = k) h.1]
      exact Or.inr ⟨by omega, h.1, by omega⟩
    · rw [if_neg h]
      by_cases h2 : hasb (tIn L) (t : Int) ∧ tHo L (t : Int) = k
      · rw [ctP_t (p := fun t => hasb (tIn L) t ∧ tHo L t = k) h2]
        rcases ih with ih | ih
        · exact absurd ⟨h2, Or.inl ih.1⟩ h
        · exact Or.inr ⟨by omega, ih.2.1, by omega⟩
      · rw [ctP_f (p := fun t => hasb (tIn L) t ∧ tHo L t = k) h2]
        rcases ih with ih | ih
        · exact Or.inl ih
        · exact Or.inr ⟨by omega, ih.2.1, ih.2.2⟩
abbrev ofP (L : LT) (t : Int) : Prop := hasb (tIn L) t ∧ (0 ≤ tHo L t ∧ tHo L t < 6) ∧ wiF L (tHo L t) (tSz L).toNat = t
def waF (L : LT) (k : Int) : Nat → Int
  | 0 => -1
  | t + 1 => if ofP L (t : Int) ∧ (waF L k t = -1 ∨ lvT L k (t : Int) < lvT L k (waF L k t)) then (t : Int) else waF L k t
theorem waF_p {L : LT} {k : Int} : ∀ t : Nat, (waF L k t = -1 ∧ ∀ u : Nat, u < t → ¬ ofP L (u : Int)) ∨ ((0 ≤ waF L k t ∧ waF L k t < t) ∧ ofP L (waF L k t))
  | 0 => Or.inl ⟨rfl, fun u hu => absurd hu (Nat.not_lt_zero _)⟩
  | t + 1 => by
    have ih := waF_p (L := L) (k := k) t
    unfold waF
    by_cases h : ofP L (t : Int) ∧ (waF L k t = -1 ∨ lvT L k (t : Int) < lvT L k (waF L k t))
    · rw [if_pos h]
      exact Or.inr ⟨by omega, h.1⟩
    · rw [if_neg h]
      rcases ih with ih | ih
      · refine Or.inl ⟨ih.1, fun u hu q => ?_⟩
        by_cases e : u = t
        · subst e; exact h ⟨q, Or.inl ih.1⟩
        · exact ih.2 u (by omega) q
      · exact Or.inr ⟨by omega, ih.2⟩
/-- whose ticket one would take; -1: none -/
def rnT (L : LT) (k : Int) : Int := if wiF L k (tSz L).toNat = -1 then -1 else tHo L (waF L k (tSz L).toNat)
theorem waF_in {L : LT} (hL : LTok L) {k k' : Int} (hk : pP k) (h : wiF L k (tSz L).toNat ≠ -1) : (0 ≤ waF L k' (tSz L).toNat ∧ waF L k' (tSz L).toNat < tSz L) ∧ ofP L (waF L k' (tSz L).toNat) := by
  have g := hL.f
  rcases waF_p (L := L) (k := k') (tSz L).toNat with q | q
  · rcases wiF_p (L := L) (k := k) (tSz L).toNat with w | w
    · exact absurd w.1 h
    · exfalso
      refine q.2 (wiF L k (tSz L).toNat).toNat (by omega) ?_
      rw [show (((wiF L k (tSz L).toNat).toNat : Nat) : Int) = wiF L k (tSz L).toNat by omega]
      exact ⟨w.2.1.1, by rw [w.2.1.2]; exact hk, by rw [w.2.1.2]⟩
  · exact ⟨by omega, q.2⟩
theorem rnT_p {L : LT} (hL : LTok L) {k : Int} (hk : pP k) : rnT L k = -1 ∨ pP (rnT L k) := by
  unfold rnT
  by_cases h : wiF L k (tSz L).toNat = -1
  · rw [if_pos h]; exact Or.inl rfl
  · rw [if_neg h]; exact Or.inr (waF_in hL hk h).2.2.1
/-- going round -/
def itF (L : LT) (one : Int) : Nat → Int
  | 0 => rnT L one
  | i + 1 => if itF L one i = -1 then -1 else rnT L (itF L one i)
theorem itF_p {L : LT} (hL : LTok L) {one : Int} (h1 : pP one) : ∀ i : Nat, itF L one i = -1 ∨ pP (itF L one i)
  | 0 => rnT_p hL h1
  | i + 1 => by
    have ih := itF_p hL h1 i
    unfold itF
    by_cases h : itF L one i = -1
    · rw [if_pos h]; exact Or.inl rfl
    · rw [if_neg h]; exact rnT_p hL (ih.resolve_left h)
theorem itF_sh {L : LT} {one : Int} {i j : Nat} (h : itF L one i = itF L one j) : ∀ d : Nat, itF L one (i + d) = itF L one (j + d)
  | 0 => h
  | d + 1 => by
    show (if itF L one (i + d) = -1 then -1 else rnT L (itF L one (i + d))) = (if itF L one (j + d) = -1 then -1 else rnT L (itF L one (j + d)))
    rw [itF_sh h d]
theorem itF_m1 {L : LT} {one : Int} {i : Nat} (h : itF L one i = -1) : ∀ d : Nat, itF L one (i + d) = -1
  | 0 => h
  | d + 1 => by
    show (if itF L one (i + d) = -1 then -1 else rnT L (itF L one (i + d))) = -1
    rw [if_pos (itF_m1 h d)]
theorem pig : ∀ (n : Nat) (g : Nat → Nat), (∀ i, i ≤ n → g i < n) → ∃ i j, i < j ∧ j ≤ n ∧ g i = g j
  | 0, g, h => absurd (h 0 (Nat.le_refl 0)) (Nat.not_lt_zero _)
  | n + 1, g, h => by
    by_cases q : ∃ i, i ≤ n ∧ g i = g (n + 1)
    · obtain ⟨i, h1, h2⟩ := q
      exact ⟨i, n + 1, by omega, Nat.le_refl _, h2⟩
    · have hne : ∀ i, i ≤ n → g i ≠ g (n + 1) := fun i hi z => q ⟨i, hi, z⟩
      have hlt := h (n + 1) (Nat.le_refl _)
      obtain ⟨i, j, h1, h2, h3⟩ := pig n (fun i => if g (n + 1) < g i then g i - 1 else g i) (fun i hi => by
        have a := h i (by omega)
        have b := hne i hi
        show (if g (n + 1) < g i then g i - 1 else g i) < n
        split <;> omega)
      have b1 := hne i (by omega)
      have b2 := hne j (by omega)
      refine ⟨i, j, h1, by omega, ?_⟩
      have h3 : (if g (n + 1) < g i then g i - 1 else g i) = (if g (n + 1) < g j then g j - 1 else g j) := h3
      split at h3 <;> split at h3 <;> omega
theorem rn_6 {L : LT} (hL : LTok L) {one : Int} (h1 : pP one) (h : ∀ i : Nat, i < 6 → itF L one i ≠ one) : itF L one 6 ≠ one := by
  intro h6
  have hp : ∀ i : Nat, i ≤ 6 → pP (itF L one i) := fun i hi => by
    refine (itF_p hL h1 i).resolve_left (fun z => ?_)
    have := itF_m1 z (6 - i)
    rw [show i + (6 - i) = 6 by omega, h6] at this
    have := h1.1
    omega
  obtain ⟨i, j, q1, q2, q3⟩ := pig 6 (fun i => (itF L one i).toNat) (fun i hi => by
    have := hp i hi
    show (itF L one i).toNat < 6
    omega)
  have q3 : (itF L one i).toNat = (itF L one j).toNat := q3
  have a := hp i (by omega)
  have b := hp j q2
  have e : itF L one i = itF L one j := by omega
  have s := itF_sh e (6 - j)
  rw [show j + (6 - j) = 6 by omega, h6] at s
  exact h (i + (6 - j)) (by omega) s
/-- how many go round, if one is met at the i-th to the last -/
def rgF (L : LT) (one : Int) : Nat → Nat → Int
  | 0, _ => 0
  | m + 1, i => if itF L one i = one then ((i + 1 : Nat) : Int) else rgF L one m (i + 1)
def cvT (x : Int) : Int := if x = -1 then -2 else x
theorem x88 {d : Nat} {ln : lz_L} {L : LT} {k a b : Int} {I : ME} {Q : Option MV → ME → Prop} (hd : 2 ≤ d) (hC : CX ln L I) (hk : pP k) (ha : 0 ≤ a ∧ a < tSz L) (hb : 0 ≤ b ∧ b < tSz L) (h1 : lvT L k b < lvT L k a → Q (some (nt 1)) I) (h0 : ¬ lvT L k b < lvT L k a → Q (some (nt 0)) I) : EvM d 88 [rf 24, nt k, nt a, nt b] I Q := by
  have f := hC.f
  have hO := hC.2.1
  have g := hO.f
  have hA := (hO.t ha.1 (by omega)).1
  have hB := (hO.t hb.1 (by omega)).1
  refine EvM.go [] (T := T_88) rfl rfl rfl rfl ?_
  conv => whnf
  refine ⟨by omega, x42L (by omega) hC ha ?_⟩
  conv => whnf
  refine ⟨by omega, x56 (by omega) (fun _ => ?_) (fun z => absurd ⟨hk, hA⟩ z)⟩
  rw [f.2.2.2.1]
  conv => whnf
  refine ⟨by omega, x42L (by omega) hC hb ?_⟩
  conv => whnf
  refine ⟨by omega, x56 (by omega) (fun _ => ?_) (fun z => absurd ⟨hk, hB⟩ z)⟩
  rw [f.2.2.2.1]
  conv => whnf
  refine brI (fun z => ?_) (fun z => ?_) <;> conv => whnf
  · exact ⟨trivial, h1 z⟩
  · exact ⟨trivial, h0 z⟩
theorem x86 {d : Nat} {ln : lz_L} {L : LT} {k : Int} {I : ME} {Q : Option MV → ME → Prop} (hd : 3 ≤ d) (hC : CX ln L I) (hk : pP k) (h : Q (some (nt (cvT (wiF L k (tSz L).toNat)))) I) : EvM d 86 [rf 24, nt k] I Q := by
  have f := hC.f
  have hO := hC.2.1
  have g := hO.f
  have loop : ∀ (r i : Nat), i + r = (tSz L).toNat → Ev d 86 5 [some (rf 24), some (nt k), some (nt (cvT (wiF L k i))), some (nt (i : Int))] [] I Q := by
    intro r
    induction r with
    | zero =>
      intro i hi
      refine Ev.go [] (T := T_86) rfl rfl ?_
      conv => whnf
      refine ⟨by omega, x35 ?_⟩
      rw [f.1]
      conv => whnf
      refine brI (fun z => ?_) (fun z => ?_)
      all_goals first | (exfalso; omega) | skip
      conv => whnf
      have e : i = (tSz L).toNat := by omega
      subst e
      exact ⟨trivial, h⟩
    | succ r ih =>
      intro i hi
      have ei : iad (i : Int) 1 = ((i + 1 : Nat) : Int) := by rw [iad_e (by omega)]; rfl
      have hp := wiF_p (L := L) (k := k) i
      have same : (¬ ((hasb (tIn L) (i : Int) ∧ tHo L (i : Int) = k) ∧ (wiF L k i = -1 ∨ lvT L k (wiF L k i) < lvT L k (i : Int)))) → Ev d 86 5 [some (rf 24), some (nt k), some (nt (cvT (wiF L k i))), some (nt (iad (i : Int) 1))] [] I Q := fun hn => by
        have e : wiF L k (i + 1) = wiF L k i := if_neg hn
        rw [ei, ← e]
        exact ih (i + 1) (by omega)
      have new : ((hasb (tIn L) (i : Int) ∧ tHo L (i : Int) = k) ∧ (wiF L k i = -1 ∨ lvT L k (wiF L k i) < lvT L k (i : Int))) → Ev d 86 5 [some (rf 24), some (nt k), some (nt (i : Int)), some (nt (iad (i : Int) 1))] [] I Q := fun hn => by
        have e : wiF L k (i + 1) = (i : Int) := if_pos hn
        have e2 : cvT (wiF L k (i + 1)) = (i : Int) := by rw [e]; unfold cvT; rw [if_neg (by omega)]
        have := ih (i + 1) (by omega)
        rw [e2] at this
        rw [ei]
        exact this
      refine Ev.go [5] (T := T_86) rfl rfl ?_
      conv => whnf
      refine ⟨by omega, x35 ?_⟩
      rw [f.1]
      conv => whnf
      refine brI (fun z => ?_) (fun z => ?_)
      all_goals first | (exfalso; omega) | skip
      conv => whnf
      refine ⟨by omega, x46 (by omega) (by omega) (fun z1 => ?_) (fun z1 => ?_)⟩ <;> conv => whnf
      all_goals unfold heC tkC at z1
      all_goals rw [f.1, f.2.1, f.2.2.2.2.2.1] at z1
      · refine brI (fun z2 => ?_) (fun z2 => ?_) <;> conv => whnf
        · have e0 : wiF L k i = -1 := by unfold cvT at z2; split at z2 <;> omega
          exact ⟨trivial, new ⟨z1.2, Or.inl e0⟩⟩
        · have e0 : wiF L k i ≠ -1 := fun w => z2 (by unfold cvT; rw [if_pos w])
          have e1 : cvT (wiF L k i) = wiF L k i := by unfold cvT; rw [if_neg e0]
          have hr := hp.resolve_left (fun w => e0 w.1)
          rw [e1]
          refine ⟨by omega, x88 (by omega) hC hk (by omega) (by omega) (fun z3 => ?_) (fun z3 => ?_)⟩ <;> conv => whnf
          · exact ⟨trivial, new ⟨z1.2, Or.inr z3⟩⟩
          · have := same (fun w => w.2.elim e0 z3)
            rw [e1] at this
            exact ⟨trivial, this⟩
      · exact ⟨trivial, same (fun w => z1 ⟨by omega, w.1⟩)⟩
  refine EvM.go [5] (T := T_86) rfl rfl rfl rfl ?_
  conv => whnf
  exact ⟨trivial, loop _ 0 (Nat.zero_add _)⟩
theorem x87 {d : Nat} {ln : lz_L} {L : LT} {k o : Int} {I : ME} {Q : Option MV → ME → Prop} (hd : 3 ≤ d) (hC : CX ln L I) (hk : pP k) (ho : ∀ t, 0 ≤ t → t < tSz L → (hasb o t ↔ ofP L t)) (h : Q (some (nt (cvT (waF L k (tSz L).toNat)))) I) : EvM d 87 [rf 24, nt k, nt o] I Q := by
  have f := hC.f
  have hO := hC.2.1
  have g := hO.f
  have loop : ∀ (r i : Nat), i + r = (tSz L).toNat → Ev d 87 6 [some (rf 24), some (nt k), some (nt o), some (nt (cvT (waF L k i))), some (nt (i : Int))] [] I Q := by
    intro r
    induction r with
    | zero =>
      intro i hi
      refine Ev.go [] (T := T_87) rfl rfl ?_
      conv => whnf
      refine ⟨by omega, x35 ?_⟩
      rw [f.1]
      conv => whnf
      refine brI (fun z => ?_) (fun z => ?_)
      all_goals first | (exfalso; omega) | skip
      conv => whnf
      have e : i = (tSz L).toNat := by omega
      subst e
      exact ⟨trivial, h⟩
    | succ r ih =>
      intro i hi
      have ei : iad (i : Int) 1 = ((i + 1 : Nat) : Int) := by rw [iad_e (by omega)]; rfl
      have hp := waF_p (L := L) (k := k) i
      have hoi := ho (i : Int) (by omega) (by omega)
      have same : (¬ (ofP L (i : Int) ∧ (waF L k i = -1 ∨ lvT L k (i : Int) < lvT L k (waF L k i)))) → Ev d 87 6 [some (rf 24), some (nt k), some (nt o), some (nt (cvT (waF L k i))), some (nt (iad (i : Int) 1))] [] I Q := fun hn => by
        have e : waF L k (i + 1) = waF L k i := if_neg hn
        rw [ei, ← e]
        exact ih (i + 1) (by omega)
      have new : (ofP L (i : Int) ∧ (waF L k i = -1 ∨ lvT L k (i : Int) < lvT L k (waF L k i))) → Ev d 87 6 [some (rf 24), some (nt k), some (nt o), some (nt (i : Int)), some (nt (iad (i : Int) 1))] [] I Q := fun hn => by
        have e : waF L k (i + 1) = (i : Int) := if_pos hn
        have e2 : cvT (waF L k (i + 1)) = (i : Int) := by rw [e]; unfold cvT; rw [if_neg (by omega)]
        have := ih (i + 1) (by omega)
        rw [e2] at this
        rw [ei]
        exact this
      refine Ev.go [6] (T := T_87) rfl rfl ?_
      conv => whnf
      refine ⟨by omega, x35 ?_⟩
      rw [f.1]
      conv => whnf
      refine brI (fun z => ?_) (fun z => ?_)
      all_goals first | (exfalso; omega) | skip
      conv => whnf
      refine brI (fun z1 => ?_) (fun z1 => ?_) <;> conv => whnf
      · have hof := hoi.mp z1
        refine brI (fun z2 => ?_) (fun z2 => ?_) <;> conv => whnf
        · have e0 : waF L k i = -1 := by unfold cvT at z2; split at z2 <;> omega
          exact ⟨trivial, new ⟨hof, Or.inl e0⟩⟩
        · have e0 : waF L k i ≠ -1 := fun w => z2 (by unfold cvT; rw [if_pos w])
          have e1 : cvT (waF L k i) = waF L k i := by unfold cvT; rw [if_neg e0]
          have hr := hp.resolve_left (fun w => e0 w.1)
          rw [e1]
          refine ⟨by omega, x88 (by omega) hC hk (by omega) (by omega) (fun z3 => ?_) (fun z3 => ?_)⟩ <;> conv => whnf
          · exact ⟨trivial, new ⟨hof, Or.inr z3⟩⟩
          · have := same (fun w => w.2.elim e0 z3)
            rw [e1] at this
            exact ⟨trivial, this⟩
      · exact ⟨trivial, same (fun w => z1 (hoi.mpr w.1))⟩
  refine EvM.go [6] (T := T_87) rfl rfl rfl rfl ?_
  conv => whnf
  exact ⟨trivial, loop _ 0 (Nat.zero_add _)⟩
