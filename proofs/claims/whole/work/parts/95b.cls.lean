/-! THE CLASS'S SMALL METHODS (printed by wip/whole/gen95.py) -/
/-- person, thing, ticket, in -/
abbrev pP (k : Int) : Prop := 0 ≤ k ∧ k < 6
abbrev pH (k : Int) : Prop := k = -1 ∨ pP k
abbrev pT (t : Int) : Prop := 0 ≤ t ∧ t < 8
abbrev tkC (I : ME) (t : Int) : Prop := 0 ≤ t ∧ t < I 1 5
/-- a ticket that is in -/
abbrev inC (I : ME) (t : Int) : Prop := tkC I t ∧ hasb (I 1 6) t
abbrev heC (I : ME) (t k : Int) : Prop := tkC I t ∧ hasb (I 1 6) t ∧ I 4 t = k
theorem x175 {d : Nat} {k : Int} {I : ME} {Q : Option MV → ME → Prop} (h0 : (pP k) → Q (some (nt 1)) (I)) (h1 : ¬ (pP k) → Q (some (nt 0)) (I)) : EvM d 175 [nt k] I Q := by
  refine EvM.go [] (T := T_175) rfl rfl rfl rfl ?_
  conv => whnf
  repeat' first
    | (refine brI (fun _ => ?_) (fun _ => ?_) <;> conv => whnf)
    | (refine ⟨by first | exact trivial | omega, ?_⟩; conv => whnf)
  all_goals first
    | exact h0 (by omega)
    | exact h1 (by omega)
    | (exfalso; omega)

theorem x176 {d : Nat} {k : Int} {I : ME} {Q : Option MV → ME → Prop} (hd : 1 ≤ d) (h0 : (pH k) → Q (some (nt 1)) (I)) (h1 : ¬ (pH k) → Q (some (nt 0)) (I)) : EvM d 176 [nt k] I Q := by
  refine EvM.go [] (T := T_176) rfl rfl rfl rfl ?_
  conv => whnf
  repeat' first
    | (refine brI (fun _ => ?_) (fun _ => ?_) <;> conv => whnf)
    | (refine ⟨by omega, x175 (fun _ => ?_) (fun _ => ?_)⟩ <;> conv => whnf)
    | (refine ⟨by first | exact trivial | omega, ?_⟩; conv => whnf)
  all_goals first
    | exact h0 (by omega)
    | exact h1 (by omega)
    | (exfalso; omega)

theorem x177 {d : Nat} {k : Int} {I : ME} {Q : Option MV → ME → Prop} (h0 : (pT k) → Q (some (nt 1)) (I)) (h1 : ¬ (pT k) → Q (some (nt 0)) (I)) : EvM d 177 [nt k] I Q := by
  refine EvM.go [] (T := T_177) rfl rfl rfl rfl ?_
  conv => whnf
  repeat' first
    | (refine brI (fun _ => ?_) (fun _ => ?_) <;> conv => whnf)
    | (refine ⟨by first | exact trivial | omega, ?_⟩; conv => whnf)
  all_goals first
    | exact h0 (by omega)
    | exact h1 (by omega)
    | (exfalso; omega)

theorem x179 {d : Nat} {k : Int} {I : ME} {Q : Option MV → ME → Prop} (h0 : (0 ≤ k ∧ k < 6) → Q (some (nt 1)) (I)) (h1 : ¬ (0 ≤ k ∧ k < 6) → Q (some (nt 0)) (I)) : EvM d 179 [nt k] I Q := by
  refine EvM.go [] (T := T_179) rfl rfl rfl rfl ?_
  conv => whnf
  repeat' first
    | (refine brI (fun _ => ?_) (fun _ => ?_) <;> conv => whnf)
    | (refine ⟨by first | exact trivial | omega, ?_⟩; conv => whnf)
  all_goals first
    | exact h0 (by omega)
    | exact h1 (by omega)
    | (exfalso; omega)

theorem x35 {d : Nat} {I : ME} {Q : Option MV → ME → Prop} (h0 : Q (some (nt (I 1 5))) (I)) : EvM d 35 [rf 1] I Q := by
  refine EvM.go [] (T := T_35) rfl rfl rfl rfl ?_
  conv => whnf
  repeat' first
    | (refine brI (fun _ => ?_) (fun _ => ?_) <;> conv => whnf)
    | (refine ⟨by first | exact trivial | omega, ?_⟩; conv => whnf)
  all_goals first
    | exact h0
    | (exfalso; omega)

theorem x36 {d : Nat} {t : Int} {I : ME} {Q : Option MV → ME → Prop} (h0 : (tkC I t) → Q (some (nt 1)) (I)) (h1 : ¬ (tkC I t) → Q (some (nt 0)) (I)) : EvM d 36 [rf 1, nt t] I Q := by
  refine EvM.go [] (T := T_36) rfl rfl rfl rfl ?_
  conv => whnf
  repeat' first
    | (refine brI (fun _ => ?_) (fun _ => ?_) <;> conv => whnf)
    | (refine ⟨by first | exact trivial | omega, ?_⟩; conv => whnf)
  all_goals first
    | exact h0 (by omega)
    | exact h1 (by omega)
    | (exfalso; omega)

theorem x37 {d : Nat} {t : Int} {I : ME} {Q : Option MV → ME → Prop} (hd : 1 ≤ d) (h0 : (inC I t) → Q (some (nt 1)) (I)) (h1 : ¬ (inC I t) → Q (some (nt 0)) (I)) : EvM d 37 [rf 1, nt t] I Q := by
  refine EvM.go [] (T := T_37) rfl rfl rfl rfl ?_
  conv => whnf
  repeat' first
    | (refine brI (fun _ => ?_) (fun _ => ?_) <;> conv => whnf)
    | (refine ⟨by omega, x36 (fun _ => ?_) (fun _ => ?_)⟩ <;> conv => whnf)
    | (refine ⟨by first | exact trivial | omega, ?_⟩; conv => whnf)
  all_goals first
    | exact h0 (by omega)
    | exact h1 (by omega)
    | (exfalso; omega)

theorem x38 {d : Nat} {s : Int} {I : ME} {Q : Option MV → ME → Prop} (h0 : (ian s (ixr (I 1 6) (-1)) = 0) → Q (some (nt 1)) (I)) (h1 : ¬ (ian s (ixr (I 1 6) (-1)) = 0) → Q (some (nt 0)) (I)) : EvM d 38 [rf 1, nt s] I Q := by
  refine EvM.go [] (T := T_38) rfl rfl rfl rfl ?_
  conv => whnf
  repeat' first
    | (refine brI (fun _ => ?_) (fun _ => ?_) <;> conv => whnf)
    | (refine ⟨by first | exact trivial | omega, ?_⟩; conv => whnf)
  all_goals first
    | exact h0 (by omega)
    | exact h1 (by omega)
    | (exfalso; omega)

theorem x40 {d : Nat} {s : Int} {I : ME} {Q : Option MV → ME → Prop} (h0 : Q (none) (upd_ I 1 6 (ian (I 1 6) (ixr s (-1))))) : EvM d 40 [rf 1, nt s] I Q := by
  refine EvM.go [] (T := T_40) rfl rfl rfl rfl ?_
  conv => whnf
  repeat' first
    | (refine brI (fun _ => ?_) (fun _ => ?_) <;> conv => whnf)
    | (refine ⟨by first | exact trivial | omega, ?_⟩; conv => whnf)
  all_goals first
    | exact h0
    | (exfalso; omega)

theorem x41 {d : Nat} {s : Int} {I : ME} {Q : Option MV → ME → Prop} (h0 : Q (none) (upd_ I 1 6 (iro (I 1 6) s))) : EvM d 41 [rf 1, nt s] I Q := by
  refine EvM.go [] (T := T_41) rfl rfl rfl rfl ?_
  conv => whnf
  repeat' first
    | (refine brI (fun _ => ?_) (fun _ => ?_) <;> conv => whnf)
    | (refine ⟨by first | exact trivial | omega, ?_⟩; conv => whnf)
  all_goals first
    | exact h0
    | (exfalso; omega)

theorem x42 {d : Nat} {t : Int} {I : ME} {Q : Option MV → ME → Prop} (hd : 1 ≤ d) (hy0 : I 1 5 ≤ 12) (h0 : (tkC I t) → Q (some (nt (I 3 t))) (I)) (h1 : (¬ tkC I t) → Q (some (nt (0))) (I)) : EvM d 42 [rf 1, nt t] I Q := by
  refine EvM.go [] (T := T_42) rfl rfl rfl rfl ?_
  conv => whnf
  repeat' first
    | (refine brI (fun _ => ?_) (fun _ => ?_) <;> conv => whnf)
    | (refine ⟨by omega, x36 (fun _ => ?_) (fun _ => ?_)⟩ <;> conv => whnf)
    | (refine ⟨by first | exact trivial | omega, ?_⟩; conv => whnf)
  all_goals first
    | exact h0 (by omega)
    | exact h1 (by omega)
    | (exfalso; omega)

theorem x43 {d : Nat} {t : Int} {I : ME} {Q : Option MV → ME → Prop} (hd : 1 ≤ d) (hy0 : I 1 5 ≤ 12) (h0 : (tkC I t ∧ I 5 t ≠ 0) → Q (some (nt 1)) (I)) (h1 : ¬ (tkC I t ∧ I 5 t ≠ 0) → Q (some (nt 0)) (I)) : EvM d 43 [rf 1, nt t] I Q := by
  refine EvM.go [] (T := T_43) rfl rfl rfl rfl ?_
  conv => whnf
  repeat' first
    | (refine brI (fun _ => ?_) (fun _ => ?_) <;> conv => whnf)
    | (refine ⟨by omega, x36 (fun _ => ?_) (fun _ => ?_)⟩ <;> conv => whnf)
    | (refine ⟨by first | exact trivial | omega, ?_⟩; conv => whnf)
  all_goals first
    | exact h0 (by omega)
    | exact h1 (by omega)
    | (exfalso; omega)

theorem x44 {d : Nat} {t : Int} {I : ME} {Q : Option MV → ME → Prop} (hd : 1 ≤ d) (hy0 : I 1 5 ≤ 12) (h0 : (tkC I t) → Q (some (nt (I 4 t))) (I)) (h1 : (¬ tkC I t) → Q (some (nt (-1))) (I)) : EvM d 44 [rf 1, nt t] I Q := by
  refine EvM.go [] (T := T_44) rfl rfl rfl rfl ?_
  conv => whnf
  repeat' first
    | (refine brI (fun _ => ?_) (fun _ => ?_) <;> conv => whnf)
    | (refine ⟨by omega, x36 (fun _ => ?_) (fun _ => ?_)⟩ <;> conv => whnf)
    | (refine ⟨by first | exact trivial | omega, ?_⟩; conv => whnf)
  all_goals first
    | exact h0 (by omega)
    | exact h1 (by omega)
    | (exfalso; omega)

theorem x45 {d : Nat} {t k : Int} {I : ME} {Q : Option MV → ME → Prop} (hd : 1 ≤ d) (hy0 : I 1 5 ≤ 12) (h0 : (tkC I t) → Q (none) (upd_ I 4 t k)) (h1 : (¬ tkC I t) → Q (none) (I)) : EvM d 45 [rf 1, nt t, nt k] I Q := by
  refine EvM.go [] (T := T_45) rfl rfl rfl rfl ?_
  conv => whnf
  repeat' first
    | (refine brI (fun _ => ?_) (fun _ => ?_) <;> conv => whnf)
    | (refine ⟨by omega, x36 (fun _ => ?_) (fun _ => ?_)⟩ <;> conv => whnf)
    | (refine ⟨by first | exact trivial | omega, ?_⟩; conv => whnf)
  all_goals first
    | exact h0 (by omega)
    | exact h1 (by omega)
    | (exfalso; omega)

theorem x46 {d : Nat} {t k : Int} {I : ME} {Q : Option MV → ME → Prop} (hd : 1 ≤ d) (hy0 : I 1 5 ≤ 12) (h0 : (heC I t k) → Q (some (nt 1)) (I)) (h1 : ¬ (heC I t k) → Q (some (nt 0)) (I)) : EvM d 46 [rf 1, nt t, nt k] I Q := by
  refine EvM.go [] (T := T_46) rfl rfl rfl rfl ?_
  conv => whnf
  repeat' first
    | (refine brI (fun _ => ?_) (fun _ => ?_) <;> conv => whnf)
    | (refine ⟨by omega, x36 (fun _ => ?_) (fun _ => ?_)⟩ <;> conv => whnf)
    | (refine ⟨by first | exact trivial | omega, ?_⟩; conv => whnf)
  all_goals first
    | exact h0 (by omega)
    | exact h1 (by omega)
    | (exfalso; omega)

theorem x51 {d : Nat} {k : Int} {I : ME} {Q : Option MV → ME → Prop} (hd : 1 ≤ d) (h0 : (pP k) → Q (some (nt (I 6 k))) (I)) (h1 : (¬ pP k) → Q (some (nt (0))) (I)) : EvM d 51 [rf 1, nt k] I Q := by
  refine EvM.go [] (T := T_51) rfl rfl rfl rfl ?_
  conv => whnf
  repeat' first
    | (refine brI (fun _ => ?_) (fun _ => ?_) <;> conv => whnf)
    | (refine ⟨by omega, x175 (fun _ => ?_) (fun _ => ?_)⟩ <;> conv => whnf)
    | (refine ⟨by first | exact trivial | omega, ?_⟩; conv => whnf)
  all_goals first
    | exact h0 (by omega)
    | exact h1 (by omega)
    | (exfalso; omega)

theorem x52 {d : Nat} {k t : Int} {I : ME} {Q : Option MV → ME → Prop} (hd : 1 ≤ d) (h0 : (pP k ∧ hasb (I 6 k) t) → Q (some (nt 1)) (I)) (h1 : ¬ (pP k ∧ hasb (I 6 k) t) → Q (some (nt 0)) (I)) : EvM d 52 [rf 1, nt k, nt t] I Q := by
  refine EvM.go [] (T := T_52) rfl rfl rfl rfl ?_
  conv => whnf
  repeat' first
    | (refine brI (fun _ => ?_) (fun _ => ?_) <;> conv => whnf)
    | (refine ⟨by omega, x175 (fun _ => ?_) (fun _ => ?_)⟩ <;> conv => whnf)
    | (refine ⟨by first | exact trivial | omega, ?_⟩; conv => whnf)
  all_goals first
    | exact h0 (by omega)
    | exact h1 (by omega)
    | (exfalso; omega)

theorem x53 {d : Nat} {t k : Int} {I : ME} {Q : Option MV → ME → Prop} (hd : 2 ≤ d) (hy0 : I 1 5 ≤ 12) (h0 : (heC I t k ∧ I 5 t = 0 ∧ ¬ (pP k ∧ hasb (I 6 k) (I 3 t))) → Q (some (nt 1)) (I)) (h1 : ¬ (heC I t k ∧ I 5 t = 0 ∧ ¬ (pP k ∧ hasb (I 6 k) (I 3 t))) → Q (some (nt 0)) (I)) : EvM d 53 [rf 1, nt t, nt k] I Q := by
  refine EvM.go [] (T := T_53) rfl rfl rfl rfl ?_
  conv => whnf
  repeat' first
    | (refine brI (fun _ => ?_) (fun _ => ?_) <;> conv => whnf)
    | (refine ⟨by omega, x46 (by omega) (by first | assumption | omega) (fun _ => ?_) (fun _ => ?_)⟩ <;> conv => whnf)
    | (refine ⟨by omega, x52 (by omega) (fun _ => ?_) (fun _ => ?_)⟩ <;> conv => whnf)
    | (refine ⟨by first | exact trivial | omega, ?_⟩; conv => whnf)
  all_goals first
    | exact h0 (by omega)
    | exact h1 (by omega)
    | (exfalso; omega)

theorem x55 {d : Nat} {a b : Int} {I : ME} {Q : Option MV → ME → Prop} (hd : 2 ≤ d) (hy0 : I 1 5 ≤ 12) (h0 : (inC I a ∧ inC I b ∧ a ≠ b ∧ I 3 a = I 3 b ∧ I 4 a = I 4 b ∧ I 4 a ≠ -1) → Q (some (nt 1)) (I)) (h1 : ¬ (inC I a ∧ inC I b ∧ a ≠ b ∧ I 3 a = I 3 b ∧ I 4 a = I 4 b ∧ I 4 a ≠ -1) → Q (some (nt 0)) (I)) : EvM d 55 [rf 1, nt a, nt b] I Q := by
  refine EvM.go [] (T := T_55) rfl rfl rfl rfl ?_
  conv => whnf
  repeat' first
    | (refine brI (fun _ => ?_) (fun _ => ?_) <;> conv => whnf)
    | (refine ⟨by omega, x37 (by omega) (fun _ => ?_) (fun _ => ?_)⟩ <;> conv => whnf)
    | (refine ⟨by first | exact trivial | omega, ?_⟩; conv => whnf)
  all_goals first
    | exact h0 (by omega)
    | exact h1 (by omega)
    | (exfalso; omega)

theorem x56 {d : Nat} {k t : Int} {I : ME} {Q : Option MV → ME → Prop} (hd : 1 ≤ d) (h0 : (pP k ∧ pT t) → Q (some (nt (I 2 (8 * k + t)))) (I)) (h1 : (¬ (pP k ∧ pT t)) → Q (some (nt (0))) (I)) : EvM d 56 [rf 1, nt k, nt t] I Q := by
  refine EvM.go [] (T := T_56) rfl rfl rfl rfl ?_
  conv => whnf
  repeat' first
    | (refine brI (fun _ => ?_) (fun _ => ?_) <;> conv => whnf)
    | (refine ⟨by omega, x175 (fun _ => ?_) (fun _ => ?_)⟩ <;> conv => whnf)
    | (refine ⟨by omega, x177 (fun _ => ?_) (fun _ => ?_)⟩ <;> conv => whnf)
    | (refine ⟨by first | exact trivial | omega | (simp (disch := omega) only [iad_e, isb_e, iml_e, ing_e]; omega), ?_⟩; conv => whnf)
  all_goals first
    | exact h0 (by omega)
    | exact h1 (by omega)
    | (simp (disch := omega) only [iad_e, isb_e, iml_e, ing_e]; exact h0 (by omega))
    | (simp (disch := omega) only [iad_e, isb_e, iml_e, ing_e]; exact h1 (by omega))
    | (exfalso; omega)
    | (rw [show iad (iml k 8) t = 8 * k + t by (rw [iml_e (by omega), iad_e (by omega)]; omega)]; exact h0 (by omega))

