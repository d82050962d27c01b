/-! DRAWS IN THOUGHT: the model begins -/
def thM (I J : ME) : Prop := (∀ j, j ≠ 20 → j ≠ 21 → J 53 j = I 53 j) ∧ Fr [53, 62, 63] I J ∧ J 53 20 = I 53 7 ∧ J 53 21 = I 53 8 ∧ ∀ p, pP p → J 62 p = I 58 p ∧ J 63 p = 0
theorem m222 {d : Nat} {I : ME} {Q : Option MV → ME → Prop} (h : ∀ J, thM I J → Q none J) : EvM d 222 [rf 53] I Q := by
  refine EvM.go [18] (T := T_222) rfl rfl rfl rfl ?_
  conv => whnf
  have loop : ∀ (m i : Nat) (J : ME), i + m = 6 → (∀ j, j ≠ 20 → j ≠ 21 → J 53 j = I 53 j) ∧ Fr [53, 62, 63] I J ∧ J 53 20 = I 53 7 ∧ J 53 21 = I 53 8 → (∀ p : Int, 0 ≤ p → p < i → J 62 p = I 58 p ∧ J 63 p = 0) → Ev d 222 18 [some (rf 53), some (nt (i : Int))] [] J Q := by
    intro m
    induction m with
    | zero =>
      intro i J hi hJ hp
      refine Ev.go [] (T := T_222) rfl rfl ?_
      conv => whnf
      refine brI (fun z => ?_) (fun z => ?_)
      all_goals first | (exfalso; omega) | skip
      conv => whnf
      exact ⟨trivial, h J ⟨hJ.1, hJ.2.1, hJ.2.2.1, hJ.2.2.2, fun p hq => hp p hq.1 (by omega)⟩⟩
    | succ m ih =>
      intro i J hi hJ hp
      have e58 : J 58 = I 58 := hJ.2.1 58 (by decide)
      refine Ev.go [18] (T := T_222) rfl rfl ?_
      conv => whnf
      refine brI (fun z => ?_) (fun z => ?_)
      all_goals first | (exfalso; omega) | skip
      conv => whnf
      iterate 3
        refine anI (by omega) ?_
        conv => whnf
      refine ⟨trivial, Ev.to ?_ rfl (ih (i + 1) (upd_ (upd_ J 62 (i : Int) (J 58 (i : Int))) 63 (i : Int) 0) (by omega) ⟨fun j h1 h2 => ?_, fr_up (fr_up hJ.2.1 (by decide)) (by decide), ?_, ?_⟩ (fun p h0 h1 => ?_))⟩
      · rw [iad_e (by omega)]; rfl
      · rw [up_c (by decide), up_c (by decide)]; exact hJ.1 j h1 h2
      · rw [up_c (by decide), up_c (by decide)]; exact hJ.2.2.1
      · rw [up_c (by decide), up_c (by decide)]; exact hJ.2.2.2
      · rw [show upd_ (upd_ J 62 (i : Int) (J 58 (i : Int))) 63 (i : Int) 0 62 = upd_ J 62 (i : Int) (J 58 (i : Int)) 62 from up_c (by decide), up_any, up_any, show upd_ J 62 (i : Int) (J 58 (i : Int)) 63 = J 63 from up_c (by decide)]
        by_cases q : p = (i : Int)
        · rw [if_pos q, if_pos q, q, e58]; exact ⟨rfl, rfl⟩
        · rw [if_neg q, if_neg q]; exact hp p h0 (by omega)
  refine ⟨trivial, loop 6 0 _ rfl ⟨fun j h1 h2 => ?_, fr_up (fr_up Fr.rfl' (by decide)) (by decide), ?_, ?_⟩ (fun p h0 h1 => by exfalso; omega)⟩
  · rw [up_ne h2, up_ne h1]
  · rw [up_ne (by decide), up_eq]
  · rw [up_eq, up_ne (by decide)]
