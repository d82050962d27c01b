theorem brI {c : Prop} {h : Decidable c} {A B : Prop} (a : c → A) (b : ¬ c → B) : brc c h A B := by
  unfold brc
  split
  · exact a (by assumption)
  · exact b (by assumption)
set_option maxRecDepth 10000 in
theorem tst1 (d : Nat) (I : ME) (n : Int) (Q : Option MV → ME → Prop) (hq : 0 ≤ n → Q (some (.inl 1)) I) : go d 36 (ITf 36) (retM 36) [] Q 400 0 [some (.inr (.inr 1)), some (.inl n)] [] I := by
  conv => whnf
  refine brI (fun h => ?_) (fun h => ?_)
  · conv => whnf
    trace_state
    sorry
  · conv => whnf
    trace_state
    sorry
set_option maxRecDepth 10000 in
theorem tst2 (d : Nat) (I : ME) (n : Int) (Q : Option MV → ME → Prop) (hq : 0 ≤ n → Q (some (.inl 1)) I) : go d 87 (ITf 87) (retM 87) [6] Q 400 0 [some (.inr (.inr 24)), some (.inl n), some (.inl n), none, none, none] [] I := by
  conv => whnf
  trace_state
  sorry
set_option maxRecDepth 10000 in
theorem tst3 (d : Nat) (I : ME) (n m: Int) (Q : Option MV → ME → Prop) (hq : 0 ≤ n → Q (some (.inl 1)) I) : go d 59 (ITf 59) (retM 59) [6] Q 400 0 [some (.inr (.inr 1)), some (.inl n), some (.inl m), none, none, none] [] I := by
  conv => whnf
  refine ⟨sorry, ?_⟩
  trace_state
  sorry
