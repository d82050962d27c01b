/-! THE CLASS'S READING: texts, bytes -/
theorem i2b_c {c : Int} (h0 : 0 ≤ c) (h1 : c ≤ 255) : (c < 128 ∧ i2b_ c = c) ∨ (128 ≤ c ∧ i2b_ c = c - 256) := by
  have key : ∀ x : Fin 256, (decide (x.val < 128) && decide (i2b_ ((x.val : Nat) : Int) = ((x.val : Nat) : Int))) || (decide (128 ≤ x.val) && decide (i2b_ ((x.val : Nat) : Int) = ((x.val : Nat) : Int) - 256)) = true := by decide +kernel
  have := key ⟨c.toNat, by omega⟩
  simp only [Bool.or_eq_true, Bool.and_eq_true, decide_eq_true_eq] at this
  rw [show ((c.toNat : Nat) : Int) = c by omega] at this
  omega
theorem i2c_c {c : Int} (h0 : 0 ≤ c) (h1 : c ≤ 255) : i2c_ c = c := by
  have key : ∀ x : Fin 256, i2c_ ((x.val : Nat) : Int) = ((x.val : Nat) : Int) := by decide +kernel
  have := key ⟨c.toNat, by omega⟩
  rw [show (((⟨c.toNat, by omega⟩ : Fin 256).val : Nat) : Int) = c by show ((c.toNat : Nat) : Int) = c; omega] at this
  exact this
theorem ix_0 {d : Nat} {c : Int} {I : ME} {Q : Option MV → ME → Prop} (hd : 8 ≤ d) (c0 : 0 ≤ c) (c1 : c ≤ 255) (h0 : c = 118 → Q (some (nt 0)) I) (h1 : c = 110 → Q (some (nt 1)) I) (h2 : c = 103 → Q (some (nt 2)) I) (h3 : c = 116 → Q (some (nt 3)) I) (h4 : c = 107 → Q (some (nt 4)) I) (h5 : c = 100 → Q (some (nt 5)) I) (hn : ¬ (c = 118 ∨ c = 110 ∨ c = 103 ∨ c = 116 ∨ c = 107 ∨ c = 100) → Q (some (nt (-1))) I) : EvM d 300 [rf 1100, nt c] I Q := by
  have hb := i2b_c c0 c1
  have k0 : kVal (1100 + 100) (imx 0 0) = 118 := by decide
  have k1 : kVal (1100 + 100) (iad (imx 0 0) 1) = 110 := by decide
  have k2 : kVal (1100 + 100) (iad (iad (imx 0 0) 1) 1) = 103 := by decide
  have k3 : kVal (1100 + 100) (iad (iad (iad (imx 0 0) 1) 1) 1) = 116 := by decide
  have k4 : kVal (1100 + 100) (iad (iad (iad (iad (imx 0 0) 1) 1) 1) 1) = 107 := by decide
  have k5 : kVal (1100 + 100) (iad (iad (iad (iad (iad (imx 0 0) 1) 1) 1) 1) 1) = 100 := by decide
  refine EvM.go [] (T := T_300) rfl rfl rfl rfl ?_
  conv => whnf
  repeat' first
    | (refine brI (fun _ => ?_) (fun _ => ?_) <;> conv => whnf)
    | (refine ⟨by omega, EvM.go [] (T := T_301) rfl rfl rfl rfl ?_⟩ <;> conv => whnf)
    | (refine ⟨by omega, EvM.go [] (T := T_303) rfl rfl rfl rfl ?_⟩ <;> conv => whnf)
    | (refine ⟨by omega, EvM.go [] (T := T_299) rfl rfl rfl rfl ?_⟩ <;> conv => whnf)
    | (refine ⟨by omega, EvM.go [] (T := T_302) rfl rfl rfl rfl ?_⟩ <;> conv => whnf)
    | (refine ⟨by omega, EvM.go [] (T := T_305) rfl rfl rfl rfl ?_⟩ <;> conv => whnf)
    | (refine ⟨by omega, EvM.go [] (T := T_304) rfl rfl rfl rfl ?_⟩ <;> conv => whnf)
    | (refine ⟨by omega, EvM.go [] (T := T_306) rfl rfl rfl rfl ?_⟩ <;> conv => whnf)
    | (refine anI (by decide) ?_; conv => whnf)
    | (refine ltI (by omega) ?_; conv => whnf)
    | (refine And.intro trivial ?_; conv => whnf)
    | fail
  all_goals first
    | exact h0 (by omega)
    | exact h1 (by omega)
    | exact h2 (by omega)
    | exact h3 (by omega)
    | exact h4 (by omega)
    | exact h5 (by omega)
    | exact hn (by omega)
    | (exfalso; omega)
theorem ix_1 {d : Nat} {c : Int} {I : ME} {Q : Option MV → ME → Prop} (hd : 8 ≤ d) (c0 : 0 ≤ c) (c1 : c ≤ 255) (h0 : c = 40 → Q (some (nt 0)) I) (h1 : c = 33 → Q (some (nt 1)) I) (h2 : c = 45 → Q (some (nt 2)) I) (hn : ¬ (c = 40 ∨ c = 33 ∨ c = 45) → Q (some (nt (-1))) I) : EvM d 300 [rf 1101, nt c] I Q := by
  have hb := i2b_c c0 c1
  have k0 : kVal (1101 + 100) (imx 0 0) = 40 := by decide
  have k1 : kVal (1101 + 100) (iad (imx 0 0) 1) = 33 := by decide
  have k2 : kVal (1101 + 100) (iad (iad (imx 0 0) 1) 1) = 45 := by decide
  refine EvM.go [] (T := T_300) rfl rfl rfl rfl ?_
  conv => whnf
  repeat' first
    | (refine brI (fun _ => ?_) (fun _ => ?_) <;> conv => whnf)
    | (refine ⟨by omega, EvM.go [] (T := T_301) rfl rfl rfl rfl ?_⟩ <;> conv => whnf)
    | (refine ⟨by omega, EvM.go [] (T := T_303) rfl rfl rfl rfl ?_⟩ <;> conv => whnf)
    | (refine ⟨by omega, EvM.go [] (T := T_299) rfl rfl rfl rfl ?_⟩ <;> conv => whnf)
    | (refine ⟨by omega, EvM.go [] (T := T_302) rfl rfl rfl rfl ?_⟩ <;> conv => whnf)
    | (refine ⟨by omega, EvM.go [] (T := T_305) rfl rfl rfl rfl ?_⟩ <;> conv => whnf)
    | (refine ⟨by omega, EvM.go [] (T := T_304) rfl rfl rfl rfl ?_⟩ <;> conv => whnf)
    | (refine ⟨by omega, EvM.go [] (T := T_306) rfl rfl rfl rfl ?_⟩ <;> conv => whnf)
    | (refine anI (by decide) ?_; conv => whnf)
    | (refine ltI (by omega) ?_; conv => whnf)
    | (refine And.intro trivial ?_; conv => whnf)
    | fail
  all_goals first
    | exact h0 (by omega)
    | exact h1 (by omega)
    | exact h2 (by omega)
    | exact hn (by omega)
    | (exfalso; omega)
theorem ix_2 {d : Nat} {c : Int} {I : ME} {Q : Option MV → ME → Prop} (hd : 8 ≤ d) (c0 : 0 ≤ c) (c1 : c ≤ 255) (h0 : c = 41 → Q (some (nt 0)) I) (hn : ¬ (c = 41) → Q (some (nt (-1))) I) : EvM d 300 [rf 1102, nt c] I Q := by
  have hb := i2b_c c0 c1
  have k0 : kVal (1102 + 100) (imx 0 0) = 41 := by decide
  refine EvM.go [] (T := T_300) rfl rfl rfl rfl ?_
  conv => whnf
  repeat' first
    | (refine brI (fun _ => ?_) (fun _ => ?_) <;> conv => whnf)
    | (refine ⟨by omega, EvM.go [] (T := T_301) rfl rfl rfl rfl ?_⟩ <;> conv => whnf)
    | (refine ⟨by omega, EvM.go [] (T := T_303) rfl rfl rfl rfl ?_⟩ <;> conv => whnf)
    | (refine ⟨by omega, EvM.go [] (T := T_299) rfl rfl rfl rfl ?_⟩ <;> conv => whnf)
    | (refine ⟨by omega, EvM.go [] (T := T_302) rfl rfl rfl rfl ?_⟩ <;> conv => whnf)
    | (refine ⟨by omega, EvM.go [] (T := T_305) rfl rfl rfl rfl ?_⟩ <;> conv => whnf)
    | (refine ⟨by omega, EvM.go [] (T := T_304) rfl rfl rfl rfl ?_⟩ <;> conv => whnf)
    | (refine ⟨by omega, EvM.go [] (T := T_306) rfl rfl rfl rfl ?_⟩ <;> conv => whnf)
    | (refine anI (by decide) ?_; conv => whnf)
    | (refine ltI (by omega) ?_; conv => whnf)
    | (refine And.intro trivial ?_; conv => whnf)
    | fail
  all_goals first
    | exact h0 (by omega)
    | exact hn (by omega)
    | (exfalso; omega)
theorem ix_3 {d : Nat} {c : Int} {I : ME} {Q : Option MV → ME → Prop} (hd : 8 ≤ d) (c0 : 0 ≤ c) (c1 : c ≤ 255) (h0 : c = 124 → Q (some (nt 0)) I) (hn : ¬ (c = 124) → Q (some (nt (-1))) I) : EvM d 300 [rf 1103, nt c] I Q := by
  have hb := i2b_c c0 c1
  have k0 : kVal (1103 + 100) (imx 0 0) = 124 := by decide
  refine EvM.go [] (T := T_300) rfl rfl rfl rfl ?_
  conv => whnf
  repeat' first
    | (refine brI (fun _ => ?_) (fun _ => ?_) <;> conv => whnf)
    | (refine ⟨by omega, EvM.go [] (T := T_301) rfl rfl rfl rfl ?_⟩ <;> conv => whnf)
    | (refine ⟨by omega, EvM.go [] (T := T_303) rfl rfl rfl rfl ?_⟩ <;> conv => whnf)
    | (refine ⟨by omega, EvM.go [] (T := T_299) rfl rfl rfl rfl ?_⟩ <;> conv => whnf)
    | (refine ⟨by omega, EvM.go [] (T := T_302) rfl rfl rfl rfl ?_⟩ <;> conv => whnf)
    | (refine ⟨by omega, EvM.go [] (T := T_305) rfl rfl rfl rfl ?_⟩ <;> conv => whnf)
    | (refine ⟨by omega, EvM.go [] (T := T_304) rfl rfl rfl rfl ?_⟩ <;> conv => whnf)
    | (refine ⟨by omega, EvM.go [] (T := T_306) rfl rfl rfl rfl ?_⟩ <;> conv => whnf)
    | (refine anI (by decide) ?_; conv => whnf)
    | (refine ltI (by omega) ?_; conv => whnf)
    | (refine And.intro trivial ?_; conv => whnf)
    | fail
  all_goals first
    | exact h0 (by omega)
    | exact hn (by omega)
    | (exfalso; omega)
theorem ix_4 {d : Nat} {c : Int} {I : ME} {Q : Option MV → ME → Prop} (hd : 8 ≤ d) (c0 : 0 ≤ c) (c1 : c ≤ 255) (h0 : c = 38 → Q (some (nt 0)) I) (hn : ¬ (c = 38) → Q (some (nt (-1))) I) : EvM d 300 [rf 1104, nt c] I Q := by
  have hb := i2b_c c0 c1
  have k0 : kVal (1104 + 100) (imx 0 0) = 38 := by decide
  refine EvM.go [] (T := T_300) rfl rfl rfl rfl ?_
  conv => whnf
  repeat' first
    | (refine brI (fun _ => ?_) (fun _ => ?_) <;> conv => whnf)
    | (refine ⟨by omega, EvM.go [] (T := T_301) rfl rfl rfl rfl ?_⟩ <;> conv => whnf)
    | (refine ⟨by omega, EvM.go [] (T := T_303) rfl rfl rfl rfl ?_⟩ <;> conv => whnf)
    | (refine ⟨by omega, EvM.go [] (T := T_299) rfl rfl rfl rfl ?_⟩ <;> conv => whnf)
    | (refine ⟨by omega, EvM.go [] (T := T_302) rfl rfl rfl rfl ?_⟩ <;> conv => whnf)
    | (refine ⟨by omega, EvM.go [] (T := T_305) rfl rfl rfl rfl ?_⟩ <;> conv => whnf)
    | (refine ⟨by omega, EvM.go [] (T := T_304) rfl rfl rfl rfl ?_⟩ <;> conv => whnf)
    | (refine ⟨by omega, EvM.go [] (T := T_306) rfl rfl rfl rfl ?_⟩ <;> conv => whnf)
    | (refine anI (by decide) ?_; conv => whnf)
    | (refine ltI (by omega) ?_; conv => whnf)
    | (refine And.intro trivial ?_; conv => whnf)
    | fail
  all_goals first
    | exact h0 (by omega)
    | exact hn (by omega)
    | (exfalso; omega)
theorem ix_5 {d : Nat} {c : Int} {I : ME} {Q : Option MV → ME → Prop} (hd : 8 ≤ d) (c0 : 0 ≤ c) (c1 : c ≤ 255) (h0 : c = 60 → Q (some (nt 0)) I) (h1 : c = 61 → Q (some (nt 1)) I) (h2 : c = 62 → Q (some (nt 2)) I) (hn : ¬ (c = 60 ∨ c = 61 ∨ c = 62) → Q (some (nt (-1))) I) : EvM d 300 [rf 1105, nt c] I Q := by
  have hb := i2b_c c0 c1
  have k0 : kVal (1105 + 100) (imx 0 0) = 60 := by decide
  have k1 : kVal (1105 + 100) (iad (imx 0 0) 1) = 61 := by decide
  have k2 : kVal (1105 + 100) (iad (iad (imx 0 0) 1) 1) = 62 := by decide
  refine EvM.go [] (T := T_300) rfl rfl rfl rfl ?_
  conv => whnf
  repeat' first
    | (refine brI (fun _ => ?_) (fun _ => ?_) <;> conv => whnf)
    | (refine ⟨by omega, EvM.go [] (T := T_301) rfl rfl rfl rfl ?_⟩ <;> conv => whnf)
    | (refine ⟨by omega, EvM.go [] (T := T_303) rfl rfl rfl rfl ?_⟩ <;> conv => whnf)
    | (refine ⟨by omega, EvM.go [] (T := T_299) rfl rfl rfl rfl ?_⟩ <;> conv => whnf)
    | (refine ⟨by omega, EvM.go [] (T := T_302) rfl rfl rfl rfl ?_⟩ <;> conv => whnf)
    | (refine ⟨by omega, EvM.go [] (T := T_305) rfl rfl rfl rfl ?_⟩ <;> conv => whnf)
    | (refine ⟨by omega, EvM.go [] (T := T_304) rfl rfl rfl rfl ?_⟩ <;> conv => whnf)
    | (refine ⟨by omega, EvM.go [] (T := T_306) rfl rfl rfl rfl ?_⟩ <;> conv => whnf)
    | (refine anI (by decide) ?_; conv => whnf)
    | (refine ltI (by omega) ?_; conv => whnf)
    | (refine And.intro trivial ?_; conv => whnf)
    | fail
  all_goals first
    | exact h0 (by omega)
    | exact h1 (by omega)
    | exact h2 (by omega)
    | exact hn (by omega)
    | (exfalso; omega)
theorem ix_6 {d : Nat} {c : Int} {I : ME} {Q : Option MV → ME → Prop} (hd : 8 ≤ d) (c0 : 0 ≤ c) (c1 : c ≤ 255) (h0 : c = 43 → Q (some (nt 0)) I) (h1 : c = 45 → Q (some (nt 1)) I) (hn : ¬ (c = 43 ∨ c = 45) → Q (some (nt (-1))) I) : EvM d 300 [rf 1106, nt c] I Q := by
  have hb := i2b_c c0 c1
  have k0 : kVal (1106 + 100) (imx 0 0) = 43 := by decide
  have k1 : kVal (1106 + 100) (iad (imx 0 0) 1) = 45 := by decide
  refine EvM.go [] (T := T_300) rfl rfl rfl rfl ?_
  conv => whnf
  repeat' first
    | (refine brI (fun _ => ?_) (fun _ => ?_) <;> conv => whnf)
    | (refine ⟨by omega, EvM.go [] (T := T_301) rfl rfl rfl rfl ?_⟩ <;> conv => whnf)
    | (refine ⟨by omega, EvM.go [] (T := T_303) rfl rfl rfl rfl ?_⟩ <;> conv => whnf)
    | (refine ⟨by omega, EvM.go [] (T := T_299) rfl rfl rfl rfl ?_⟩ <;> conv => whnf)
    | (refine ⟨by omega, EvM.go [] (T := T_302) rfl rfl rfl rfl ?_⟩ <;> conv => whnf)
    | (refine ⟨by omega, EvM.go [] (T := T_305) rfl rfl rfl rfl ?_⟩ <;> conv => whnf)
    | (refine ⟨by omega, EvM.go [] (T := T_304) rfl rfl rfl rfl ?_⟩ <;> conv => whnf)
    | (refine ⟨by omega, EvM.go [] (T := T_306) rfl rfl rfl rfl ?_⟩ <;> conv => whnf)
    | (refine anI (by decide) ?_; conv => whnf)
    | (refine ltI (by omega) ?_; conv => whnf)
    | (refine And.intro trivial ?_; conv => whnf)
    | fail
  all_goals first
    | exact h0 (by omega)
    | exact h1 (by omega)
    | exact hn (by omega)
    | (exfalso; omega)
theorem ix_7 {d : Nat} {c : Int} {I : ME} {Q : Option MV → ME → Prop} (hd : 8 ≤ d) (c0 : 0 ≤ c) (c1 : c ≤ 255) (h0 : c = 42 → Q (some (nt 0)) I) (h1 : c = 47 → Q (some (nt 1)) I) (h2 : c = 37 → Q (some (nt 2)) I) (hn : ¬ (c = 42 ∨ c = 47 ∨ c = 37) → Q (some (nt (-1))) I) : EvM d 300 [rf 1107, nt c] I Q := by
  have hb := i2b_c c0 c1
  have k0 : kVal (1107 + 100) (imx 0 0) = 42 := by decide
  have k1 : kVal (1107 + 100) (iad (imx 0 0) 1) = 47 := by decide
  have k2 : kVal (1107 + 100) (iad (iad (imx 0 0) 1) 1) = 37 := by decide
  refine EvM.go [] (T := T_300) rfl rfl rfl rfl ?_
  conv => whnf
  repeat' first
    | (refine brI (fun _ => ?_) (fun _ => ?_) <;> conv => whnf)
    | (refine ⟨by omega, EvM.go [] (T := T_301) rfl rfl rfl rfl ?_⟩ <;> conv => whnf)
    | (refine ⟨by omega, EvM.go [] (T := T_303) rfl rfl rfl rfl ?_⟩ <;> conv => whnf)
    | (refine ⟨by omega, EvM.go [] (T := T_299) rfl rfl rfl rfl ?_⟩ <;> conv => whnf)
    | (refine ⟨by omega, EvM.go [] (T := T_302) rfl rfl rfl rfl ?_⟩ <;> conv => whnf)
    | (refine ⟨by omega, EvM.go [] (T := T_305) rfl rfl rfl rfl ?_⟩ <;> conv => whnf)
    | (refine ⟨by omega, EvM.go [] (T := T_304) rfl rfl rfl rfl ?_⟩ <;> conv => whnf)
    | (refine ⟨by omega, EvM.go [] (T := T_306) rfl rfl rfl rfl ?_⟩ <;> conv => whnf)
    | (refine anI (by decide) ?_; conv => whnf)
    | (refine ltI (by omega) ?_; conv => whnf)
    | (refine And.intro trivial ?_; conv => whnf)
    | fail
  all_goals first
    | exact h0 (by omega)
    | exact h1 (by omega)
    | exact h2 (by omega)
    | exact hn (by omega)
    | (exfalso; omega)
theorem ix_8 {d : Nat} {c : Int} {I : ME} {Q : Option MV → ME → Prop} (hd : 8 ≤ d) (c0 : 0 ≤ c) (c1 : c ≤ 255) (h0 : c = 63 → Q (some (nt 0)) I) (hn : ¬ (c = 63) → Q (some (nt (-1))) I) : EvM d 300 [rf 1108, nt c] I Q := by
  have hb := i2b_c c0 c1
  have k0 : kVal (1108 + 100) (imx 0 0) = 63 := by decide
  refine EvM.go [] (T := T_300) rfl rfl rfl rfl ?_
  conv => whnf
  repeat' first
    | (refine brI (fun _ => ?_) (fun _ => ?_) <;> conv => whnf)
    | (refine ⟨by omega, EvM.go [] (T := T_301) rfl rfl rfl rfl ?_⟩ <;> conv => whnf)
    | (refine ⟨by omega, EvM.go [] (T := T_303) rfl rfl rfl rfl ?_⟩ <;> conv => whnf)
    | (refine ⟨by omega, EvM.go [] (T := T_299) rfl rfl rfl rfl ?_⟩ <;> conv => whnf)
    | (refine ⟨by omega, EvM.go [] (T := T_302) rfl rfl rfl rfl ?_⟩ <;> conv => whnf)
    | (refine ⟨by omega, EvM.go [] (T := T_305) rfl rfl rfl rfl ?_⟩ <;> conv => whnf)
    | (refine ⟨by omega, EvM.go [] (T := T_304) rfl rfl rfl rfl ?_⟩ <;> conv => whnf)
    | (refine ⟨by omega, EvM.go [] (T := T_306) rfl rfl rfl rfl ?_⟩ <;> conv => whnf)
    | (refine anI (by decide) ?_; conv => whnf)
    | (refine ltI (by omega) ?_; conv => whnf)
    | (refine And.intro trivial ?_; conv => whnf)
    | fail
  all_goals first
    | exact h0 (by omega)
    | exact hn (by omega)
    | (exfalso; omega)
theorem ix_9 {d : Nat} {c : Int} {I : ME} {Q : Option MV → ME → Prop} (hd : 8 ≤ d) (c0 : 0 ≤ c) (c1 : c ≤ 255) (h0 : c = 59 → Q (some (nt 0)) I) (hn : ¬ (c = 59) → Q (some (nt (-1))) I) : EvM d 300 [rf 1109, nt c] I Q := by
  have hb := i2b_c c0 c1
  have k0 : kVal (1109 + 100) (imx 0 0) = 59 := by decide
  refine EvM.go [] (T := T_300) rfl rfl rfl rfl ?_
  conv => whnf
  repeat' first
    | (refine brI (fun _ => ?_) (fun _ => ?_) <;> conv => whnf)
    | (refine ⟨by omega, EvM.go [] (T := T_301) rfl rfl rfl rfl ?_⟩ <;> conv => whnf)
    | (refine ⟨by omega, EvM.go [] (T := T_303) rfl rfl rfl rfl ?_⟩ <;> conv => whnf)
    | (refine ⟨by omega, EvM.go [] (T := T_299) rfl rfl rfl rfl ?_⟩ <;> conv => whnf)
    | (refine ⟨by omega, EvM.go [] (T := T_302) rfl rfl rfl rfl ?_⟩ <;> conv => whnf)
    | (refine ⟨by omega, EvM.go [] (T := T_305) rfl rfl rfl rfl ?_⟩ <;> conv => whnf)
    | (refine ⟨by omega, EvM.go [] (T := T_304) rfl rfl rfl rfl ?_⟩ <;> conv => whnf)
    | (refine ⟨by omega, EvM.go [] (T := T_306) rfl rfl rfl rfl ?_⟩ <;> conv => whnf)
    | (refine anI (by decide) ?_; conv => whnf)
    | (refine ltI (by omega) ?_; conv => whnf)
    | (refine And.intro trivial ?_; conv => whnf)
    | fail
  all_goals first
    | exact h0 (by omega)
    | exact hn (by omega)
    | (exfalso; omega)
