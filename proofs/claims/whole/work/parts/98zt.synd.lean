/-! SYNDICATES: the worst of each set of people; the class -/
noncomputable def tgF (ln : lz_L) (L : LT) (S set : Int) : Nat → Int
  | 0 => 0
  | p + 1 => tgF ln L S set p + (if hasb set (p : Int) then lsS ln L (p : Int) S else 0)
theorem tgF_bd {ln : lz_L} {L : LT} {S set : Int} (hL : LTok L) : ∀ p : Nat, p ≤ 6 → -(1188 * (p : Int)) ≤ tgF ln L S set p ∧ tgF ln L S set p ≤ 1188 * (p : Int)
  | 0, _ => by show -(1188 * ((0 : Nat) : Int)) ≤ 0 ∧ 0 ≤ 1188 * ((0 : Nat) : Int); omega
  | p + 1, hp => by
    have ih := tgF_bd (ln := ln) (S := S) (set := set) hL p (by omega)
    have := lsS_bd (ln := ln) (S := S) hL (k := (p : Int)) (by omega)
    unfold tgF
    split <;> omega
theorem tgF_1 {ln : lz_L} {L : LT} {S k : Int} (hk : pP k) : ∀ p : Nat, p ≤ 6 → tgF ln L S (isl 1 k) p = if k < (p : Int) then lsS ln L k S else 0
  | 0, _ => by rw [if_neg (by have := hk.1; omega)]; rfl
  | p + 1, hp => by
    have ih := tgF_1 (ln := ln) (L := L) (S := S) hk p (by omega)
    have i1 := (isl_b (t := k) hk.1 (by have := hk.2; omega)).2 (p : Int) (by omega) (by omega)
    unfold tgF
    rw [ih]
    by_cases w : (p : Int) = k
    · rw [if_pos (i1.mpr w), if_neg (by omega), if_pos (by omega), w]; omega
    · rw [if_neg (fun z => w (i1.mp z))]
      by_cases w2 : k < (p : Int)
      · rw [if_pos w2, if_pos (by omega)]; omega
      · rw [if_neg w2, if_neg (by omega)]; rfl
theorem tgF_cg {ln : lz_L} {L : LT} {S s s' : Int} : ∀ {p : Nat}, (∀ u : Nat, u < p → (hasb s (u : Int) ↔ hasb s' (u : Int))) → tgF ln L S s p = tgF ln L S s' p
  | 0, _ => rfl
  | p + 1, h => by
    have ih := tgF_cg (ln := ln) (L := L) (S := S) (p := p) (fun u hu => h u (by omega))
    have hp := h p (by omega)
    unfold tgF
    rw [ih]
    by_cases w : hasb s (p : Int)
    · rw [if_pos w, if_pos (hp.mp w)]
    · rw [if_neg w, if_neg (fun z => w (hp.mpr z))]
noncomputable def mwF (ln : lz_L) (L : LT) (m set : Int) : Nat → Int
  | 0 => -2000000000
  | i + 1 => if dwP L m (i : Int) then (if mwF ln L m set i < tgF ln L (i : Int) set 6 then tgF ln L (i : Int) set 6 else mwF ln L m set i) else mwF ln L m set i
theorem mwF_bd {ln : lz_L} {L : LT} {m set : Int} (hL : LTok L) : ∀ i : Nat, (mwF ln L m set i = -2000000000 ∧ ∀ j : Nat, j < i → ¬ dwP L m (j : Int)) ∨ (-7128 ≤ mwF ln L m set i ∧ mwF ln L m set i ≤ 7128)
  | 0 => Or.inl ⟨rfl, fun j hj => absurd hj (Nat.not_lt_zero _)⟩
  | i + 1 => by
    have ih := mwF_bd (ln := ln) (m := m) (set := set) hL i
    have hb := tgF_bd (ln := ln) (S := (i : Int)) (set := set) hL 6 (Nat.le_refl _)
    unfold mwF
    by_cases h : dwP L m (i : Int)
    · rw [if_pos h]
      right
      rcases ih with ih | ih
      · rw [if_pos (by omega)]; omega
      · split <;> omega
    · rw [if_neg h]
      rcases ih with ih | ih
      · refine Or.inl ⟨ih.1, fun j hj => ?_⟩
        by_cases e : j = i
        · rw [e]; exact h
        · exact ih.2 j (by omega)
      · exact Or.inr ih
theorem mwF_n {ln : lz_L} {L : LT} {m set : Int} : ∀ i : Nat, (∀ j : Nat, j < i → ¬ dwP L m (j : Int)) → mwF ln L m set i = -2000000000
  | 0, _ => rfl
  | i + 1, h => by
    unfold mwF
    rw [if_neg (h i (by omega))]
    exact mwF_n i (fun j hj => h j (by omega))
noncomputable def wsW (ln : lz_L) (L : LT) (m set : Int) : Int := mwF ln L m set (twN L)
theorem wsW_bd {ln : lz_L} {L : LT} {m set : Int} (hL : LTok L) (hm : cdW L m) : -7128 ≤ wsW ln L m set ∧ wsW ln L m set ≤ 7128 := by
  rcases mwF_bd (ln := ln) (m := m) (set := set) hL (twN L) with q | q
  · obtain ⟨S, h1, h2⟩ := dw_ex hL hm
    exact absurd h2 (q.2 S h1)
  · exact q
/-- the worst of one alone is what `worst` finds -/
theorem ut_mw {ln : lz_L} {L : LT} {m k : Int} (hL : LTok L) (hk : pP k) : ∀ i : Nat, (utF ln L k m 1 i < 0 → mwF ln L m (isl 1 k) i = -2000000000) ∧ (0 ≤ utF ln L k m 1 i → lsS ln L k (utF ln L k m 1 i) = mwF ln L m (isl 1 k) i)
  | 0 => ⟨fun _ => rfl, fun h => by have : (0 : Int) ≤ -2 := h; omega⟩
  | i + 1 => by
    have ih := ut_mw (ln := ln) (m := m) hL hk i
    have hb := lsS_bd (ln := ln) (S := (i : Int)) hL hk
    have t1 : tgF ln L (i : Int) (isl 1 k) 6 = lsS ln L k (i : Int) := by rw [tgF_1 hk 6 (Nat.le_refl _), if_pos (by have := hk.2; omega)]
    unfold utF mwF
    rw [t1]
    by_cases h : dwP L m (i : Int)
    · rw [if_pos h]
      by_cases h2 : utF ln L k m 1 i < 0
      · rw [if_pos ⟨h, Or.inl h2⟩, ih.1 h2, if_pos (by omega)]
        exact ⟨fun z => by omega, fun _ => rfl⟩
      · have e := ih.2 (by omega)
        rw [← e]
        by_cases h3 : lsS ln L k (utF ln L k m 1 i) < lsS ln L k (i : Int)
        · rw [if_pos ⟨h, Or.inr (Or.inl ⟨rfl, h3⟩)⟩, if_pos h3]
          exact ⟨fun z => by omega, fun _ => rfl⟩
        · rw [if_neg (fun w => by rcases w.2 with w | w | w; exact h2 w; exact h3 w.2; exact w.1 rfl), if_neg h3]
          exact ⟨fun z => absurd z h2, fun _ => rfl⟩
    · rw [if_neg h, if_neg (fun w => h w.1)]
      exact ih
theorem ut_ws {ln : lz_L} {L : LT} {m k : Int} (hL : LTok L) (hk : pP k) (hm : cdW L m) : lsS ln L k (utF ln L k m 1 (twN L)) = wsW ln L m (isl 1 k) := (ut_mw hL hk (twN L)).2 (utF_in hL hm).1
def syK (ln : lz_L) (L : LT) (m set : Int) : Prop := ∀ k : Int, 0 ≤ k → k < 6 → hasb set k → wsW ln L m set ≤ pI set * wsW ln L m (isl 1 k)
noncomputable def syF (ln : lz_L) (L : LT) (m : Int) : Nat → Int
  | 0 => 0
  | s + 1 => @ite _ (1 < pI (s : Int) ∧ pI (syF ln L m s) < pI (s : Int) ∧ syK ln L m (s : Int)) (Classical.propDecidable _) (s : Int) (syF ln L m s)
theorem syF_t {ln : lz_L} {L : LT} {m : Int} {s : Nat} (h : 1 < pI (s : Int) ∧ pI (syF ln L m s) < pI (s : Int) ∧ syK ln L m (s : Int)) : syF ln L m (s + 1) = (s : Int) := @if_pos _ (Classical.propDecidable _) h _ _ _
theorem syF_f {ln : lz_L} {L : LT} {m : Int} {s : Nat} (h : ¬ (1 < pI (s : Int) ∧ pI (syF ln L m s) < pI (s : Int) ∧ syK ln L m (s : Int))) : syF ln L m (s + 1) = syF ln L m s := @if_neg _ (Classical.propDecidable _) h _ _ _
theorem syF_p {ln : lz_L} {L : LT} {m : Int} : ∀ s : Nat, syF ln L m s = 0 ∨ (0 < syF ln L m s ∧ syF ln L m s < s ∧ 1 < pI (syF ln L m s))
  | 0 => Or.inl rfl
  | s + 1 => by
    have ih := syF_p (ln := ln) (L := L) (m := m) s
    by_cases h : 1 < pI (s : Int) ∧ pI (syF ln L m s) < pI (s : Int) ∧ syK ln L m (s : Int)
    · rw [syF_t h]
      refine Or.inr ⟨?_, by omega, h.1⟩
      refine Int.not_le.mp (fun w => ?_)
      have e : (s : Int) = 0 := by omega
      have := h.1
      rw [e, pI_0] at this
      omega
    · rw [syF_f h]
      rcases ih with ih | ih
      · exact Or.inl ih
      · exact Or.inr ⟨ih.1, by omega, ih.2.2⟩
theorem p6 {i : Nat} (hi : i ≤ 6) : 2 ^ i ≤ 64 := Nat.pow_le_pow_right (n := 2) (by decide) hi
theorem iro_tp {k D : Nat} (hk : k < 6) (hD : D < 2 ^ k) : iro (isl 1 (k : Int)) (D : Int) = ((2 ^ k + D : Nat) : Int) := by
  have h6 := p6 (i := k) (by omega)
  rw [isl_nat (by omega), iro_nat (by omega) (by omega)]
  have e := Nat.two_pow_add_eq_or_of_lt hD 1
  rw [Nat.mul_one] at e
  rw [e]
theorem x82 {d : Nat} {ln : lz_L} {L : LT} {S : Int} {I : ME} {Q : Option MV → ME → Prop} (hd : 2 ≤ d) (hL : LTok L) (h0 : I 27 0 = 0) (h19 : ∀ p, pP p → I 19 p = lsS ln L p S)
    (h : ∀ J, Fr [27] I J → J 27 0 = 0 → (∀ s : Int, 0 ≤ s → s < 64 → J 27 s = tgF ln L S s 6) → Q none J) : EvM d 82 [rf 24] I Q := by
  have inner : ∀ (r o k : Nat) (J : ME) (Q' : Option MV → ME → Prop), k < 6 → o + r = 2 ^ k → Fr [27] I J → (∀ s : Nat, s < 2 ^ k + o → J 27 (s : Int) = tgF ln L S (s : Int) 6) →
      (∀ (x : Int) (J : ME), Fr [27] I J → (∀ s : Nat, s < 2 ^ (k + 1) → J 27 (s : Int) = tgF ln L S (s : Int) 6) → Ev d 82 48 [some (rf 24), some (nt (k : Int)), some (nt x)] [] J Q') →
      Ev d 82 10 [some (rf 24), some (nt (k : Int)), some (nt (o : Int))] [] J Q' := by
    intro r
    induction r with
    | zero =>
      intro o k J Q' hk hr hF hs hn
      have e1 := isl_nat (k := k) (by omega)
      refine Ev.go [48] (T := T_82) rfl rfl ?_
      conv => whnf
      rw [e1]
      refine brI (fun z => ?_) (fun z => ?_)
      all_goals first | (exfalso; omega) | skip
      conv => whnf
      refine ⟨trivial, hn _ J hF (fun s hs2 => hs s ?_)⟩
      rw [Nat.pow_succ, Nat.mul_two] at hs2
      omega
    | succ r ih =>
      intro o k J Q' hk hr hF hs hn
      have e1 := isl_nat (k := k) (by omega)
      have h6 := p6 (i := k + 1) (by omega)
      have h2 : 2 ^ (k + 1) = 2 ^ k + 2 ^ k := by rw [Nat.pow_succ, Nat.mul_two]
      have hoD : o < 2 ^ k := by omega
      have ei : iad (o : Int) 1 = ((o + 1 : Nat) : Int) := by rw [iad_e (by omega)]; rfl
      refine Ev.go [10] (T := T_82) rfl rfl ?_
      conv => whnf
      rw [e1]
      refine brI (fun z => ?_) (fun z => ?_)
      all_goals first | (exfalso; omega) | skip
      conv => whnf
      rw [iro_tp hk hoD]
      refine anI (by omega) ?_
      conv => whnf
      refine ⟨by omega, x118 (by omega) ?_ (by omega)⟩
      conv => whnf
      refine anI (by omega) ?_
      conv => whnf
      have hb1 := tgF_bd (ln := ln) (S := S) (set := (o : Int)) hL 6 (Nat.le_refl _)
      have hb2 := lsS_bd (ln := ln) (S := S) hL (k := (k : Int)) (by omega)
      rw [hs o (by omega), hF 19 (by decide), h19 (k : Int) (by omega), ei, iad_e (by omega)]
      refine ⟨trivial, ih (o + 1) k _ Q' hk (by omega) (fr_up hF (by decide)) (fun s hs2 => ?_) hn⟩
      rw [up_any]
      by_cases w : s = 2 ^ k + o
      · rw [if_pos (by omega), w]
        -- the new one
        have hb : ∀ u : Nat, u < 6 → (hasb ((2 ^ k + o : Nat) : Int) (u : Int) ↔ u = k ∨ hasb (o : Int) (u : Int)) := fun u hu => by
          rw [tp_hb (by omega) hoD (by omega) (by omega)]
          constructor
          · rintro (q | q)
            · exact Or.inl (by omega)
            · exact Or.inr q
          · rintro (q | q)
            · exact Or.inl (by omega)
            · exact Or.inr q
        have hno : ∀ u : Nat, k ≤ u → u < 32 → ¬ hasb (o : Int) (u : Int) := fun u a b => tp_no (by omega) hoD (by omega) (by omega)
        have key : ∀ p : Nat, p ≤ 6 → tgF ln L S ((2 ^ k + o : Nat) : Int) p = tgF ln L S (o : Int) p + (if k < p then lsS ln L (k : Int) S else 0) := by
          intro p
          induction p with
          | zero => intro _; rw [if_neg (by omega)]; rfl
          | succ p ihp =>
            intro hp
            have ihp := ihp (by omega)
            unfold tgF
            rw [ihp]
            by_cases e : p = k
            · subst e
              rw [if_pos ((hb p (by omega)).mpr (Or.inl rfl)), if_neg (hno p (Nat.le_refl _) (by omega)), if_neg (by omega), if_pos (by omega)]
            · by_cases w1 : hasb (o : Int) (p : Int)
              · rw [if_pos ((hb p (by omega)).mpr (Or.inr w1)), if_pos w1]
                have : p < k := Nat.not_le.mp (fun w2 => hno p w2 (by omega) w1)
                rw [if_neg (by omega), if_neg (by omega)]; omega
              · rw [if_neg (fun w2 => ((hb p (by omega)).mp w2).elim e w1), if_neg w1]
                by_cases w2 : k < p
                · rw [if_pos w2, if_pos (by omega)]; omega
                · rw [if_neg w2, if_neg (by omega)]
        rw [key 6 (Nat.le_refl _), if_pos hk]
      · rw [if_neg (by omega)]; exact hs s (by omega)
  have outer : ∀ (r k : Nat) (x : Option MV) (J : ME), k + r = 6 → Fr [27] I J → (∀ s : Nat, s < 2 ^ k → J 27 (s : Int) = tgF ln L S (s : Int) 6) → Ev d 82 2 [some (rf 24), some (nt (k : Int)), x] [] J Q := by
    intro r
    induction r with
    | zero =>
      intro k x J hr hF hs
      refine Ev.go [] (T := T_82) rfl rfl ?_
      conv => whnf
      refine brI (fun z => ?_) (fun z => ?_)
      all_goals first | (exfalso; omega) | skip
      conv => whnf
      have e : k = 6 := by omega
      subst e
      have hz : ∀ s : Int, 0 ≤ s → s < 64 → J 27 s = tgF ln L S s 6 := fun s s0 s1 => by
        have := hs s.toNat (by show s.toNat < 64; omega)
        rw [show ((s.toNat : Nat) : Int) = s by omega] at this
        exact this
      refine ⟨trivial, h J hF ?_ hz⟩
      rw [hz 0 (by omega) (by omega)]
      have : ∀ p : Nat, p ≤ 6 → tgF ln L S 0 p = 0 := by
        intro p
        induction p with
        | zero => intro _; rfl
        | succ p ihp =>
          intro hp
          unfold tgF
          rw [ihp (by omega), if_neg (hb_0 (by omega) (by omega))]; rfl
      exact this 6 (Nat.le_refl _)
    | succ r ih =>
      intro k x J hr hF hs
      have ei : iad (k : Int) 1 = ((k + 1 : Nat) : Int) := by rw [iad_e (by omega)]; rfl
      refine Ev.go [10] (T := T_82) rfl rfl ?_
      conv => whnf
      refine brI (fun z => ?_) (fun z => ?_)
      all_goals first | (exfalso; omega) | skip
      conv => whnf
      refine ⟨trivial, inner (2 ^ k) 0 k J Q (by omega) (Nat.zero_add _) hF (fun s hs2 => hs s (by omega)) (fun x J2 hF2 hs2 => ?_)⟩
      refine Ev.go [2] (T := T_82) rfl rfl ?_
      conv => whnf
      rw [ei]
      exact ⟨trivial, ih (k + 1) _ J2 (by omega) hF2 hs2⟩
  refine EvM.go [2] (T := T_82) rfl rfl rfl rfl ?_
  conv => whnf
  refine ⟨trivial, outer 6 0 none I rfl Fr.rfl' (fun s hs => ?_)⟩
  have e : s = 0 := by have : s < 1 := hs; omega
  subst e
  have : ∀ p : Nat, p ≤ 6 → tgF ln L S 0 p = 0 := by
    intro p
    induction p with
    | zero => intro _; rfl
    | succ p ihp =>
      intro hp
      unfold tgF
      rw [ihp (by omega), if_neg (hb_0 (by omega) (by omega))]; rfl
  exact h0.trans (this 6 (Nat.le_refl _)).symm
