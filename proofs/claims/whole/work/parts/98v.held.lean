/-! DRAWS IN THOUGHT: the model counts what is held -/
def hlP (I : ME) (p : Int) : Int → Prop := fun t => hasb (I 53 20) t ∧ I 54 (48 + 3 * t + 1) = p
theorem m223 {d n : Nat} {I : ME} {Q : Option MV → ME → Prop} (hd : 2 ≤ d) (hn : I 53 6 = (n : Int)) (hn12 : n ≤ 12) (hh : ∀ t : Int, 0 ≤ t → t < 12 → -1 ≤ I 54 (48 + 3 * t + 1) ∧ I 54 (48 + 3 * t + 1) < 6) (h : ∀ J, Fr [64] I J → (∀ p, pP p → J 64 p = (ctP (hlP I p) n : Int)) → Q none J) : EvM d 223 [rf 53] I Q := by
  have loop2 : ∀ (m i : Nat) (J : ME), i + m = n → Fr [64] I J → (∀ p, pP p → J 64 p = (ctP (hlP I p) i : Int)) → Ev d 223 23 [some (rf 53), some (nt (i : Int))] [] J Q := by
    intro m
    induction m with
    | zero =>
      intro i J hi hF hp
      have e6 : J 53 6 = (n : Int) := by rw [hF 53 (by decide)]; exact hn
      refine Ev.go [] (T := T_223) rfl rfl ?_
      conv => whnf
      refine brI (fun z => ?_) (fun z => ?_)
      all_goals first | (exfalso; omega) | skip
      conv => whnf
      have e : i = n := by omega
      subst e
      exact ⟨trivial, h J hF hp⟩
    | succ m ih =>
      intro i J hi hF hp
      have e53 : J 53 = I 53 := hF 53 (by decide)
      have e54 : J 54 = I 54 := hF 54 (by decide)
      have e6 : J 53 6 = (n : Int) := by rw [e53]; exact hn
      have ei : iad (i : Int) 1 = ((i + 1 : Nat) : Int) := by rw [iad_e (by omega)]; rfl
      have hb := hh (i : Int) (by omega) (by omega)
      have skip : (∀ p, pP p → ¬ hlP I p (i : Int)) → Ev d 223 23 [some (rf 53), some (nt (iad (i : Int) 1))] [] J Q := fun hs => by
        rw [ei]
        exact ih (i + 1) J (by omega) hF (fun p q => by rw [ctP_f (hs p q)]; exact hp p q)
      refine Ev.go [23] (T := T_223) rfl rfl ?_
      conv => whnf
      refine brI (fun z => ?_) (fun z => ?_)
      all_goals first | (exfalso; omega) | skip
      conv => whnf
      refine ⟨by omega, m188 (fun q => ?_) (fun q => ?_)⟩ <;> conv => whnf
      · rw [e53] at q
        refine ⟨by omega, m198 (by omega) (by omega) ?_⟩
        rw [e54]
        conv => whnf
        refine brI (fun z => ?_) (fun z => ?_) <;> conv => whnf
        all_goals first
          | exact ⟨trivial, skip (fun p q w => by have := w.2; have := q.1; omega)⟩
          | skip
        refine ⟨by omega, m198 (by omega) (by omega) ?_⟩
        rw [e54]
        conv => whnf
        iterate 2
          refine anI (by omega) ?_
          conv => whnf
        have hk : pP (I 54 (48 + 3 * (i : Int) + 1)) := ⟨by omega, hb.2⟩
        have hc := ctP_le (hlP I (I 54 (48 + 3 * (i : Int) + 1))) i
        have ek := hp _ hk
        rw [ei]
        refine ⟨trivial, ih (i + 1) _ (by omega) (fr_up hF (by decide)) (fun p hq => ?_)⟩
        rw [up_any]
        by_cases w : p = I 54 (48 + 3 * (i : Int) + 1)
        · rw [if_pos w, ctP_t ⟨q, w.symm⟩, ek, w, iad_e (by omega)]; rfl
        · rw [if_neg w, ctP_f (fun z => w z.2.symm)]; exact hp p hq
      · rw [e53] at q
        exact ⟨trivial, skip (fun p _ w => q w.1)⟩
  have loop1 : ∀ (m i : Nat) (J : ME), i + m = 6 → Fr [64] I J → (∀ p : Int, 0 ≤ p → p < i → J 64 p = 0) → Ev d 223 2 [some (rf 53), some (nt (i : Int))] [] J Q := by
    intro m
    induction m with
    | zero =>
      intro i J hi hF hp
      refine Ev.go [23] (T := T_223) rfl rfl ?_
      conv => whnf
      refine brI (fun z => ?_) (fun z => ?_)
      all_goals first | (exfalso; omega) | skip
      conv => whnf
      exact ⟨trivial, loop2 n 0 J (by omega) hF (fun p q => hp p q.1 (by have := q.2; omega))⟩
    | succ m ih =>
      intro i J hi hF hp
      refine Ev.go [2] (T := T_223) rfl rfl ?_
      conv => whnf
      refine brI (fun z => ?_) (fun z => ?_)
      all_goals first | (exfalso; omega) | skip
      conv => whnf
      refine anI (by omega) ?_
      conv => whnf
      refine ⟨trivial, Ev.to ?_ rfl (ih (i + 1) (upd_ J 64 (i : Int) 0) (by omega) (fr_up hF (by decide)) (fun p h0 h1 => ?_))⟩
      · rw [iad_e (by omega)]; rfl
      · rw [up_any]
        by_cases w : p = (i : Int)
        · rw [if_pos w]
        · rw [if_neg w]; exact hp p h0 (by omega)
  refine EvM.go [2] (T := T_223) rfl rfl rfl rfl ?_
  conv => whnf
  exact ⟨trivial, loop1 6 0 I rfl Fr.rfl' (fun p h0 h1 => by exfalso; omega)⟩
