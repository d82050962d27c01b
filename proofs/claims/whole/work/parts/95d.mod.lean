/-! THE MODEL'S SMALL METHODS (printed by wip/whole/gen97.py) -/
abbrev tkM (I : ME) (t : Int) : Prop := 0 ≤ t ∧ t < I 53 6
theorem m187 {d : Nat} {v l m : Int} {I : ME} {Q : Option MV → ME → Prop} (h0 : (l ≤ v ∧ v ≤ m) → Q (some (nt 1)) I) (h1 : ¬ (l ≤ v ∧ v ≤ m) → Q (some (nt 0)) I) : EvM d 187 [lg v, lg l, lg m] I Q := by
  refine EvM.go [] (T := T_187) rfl rfl rfl rfl ?_
  conv => whnf
  refine brI (fun a => ?_) (fun a => ?_) <;> conv => whnf
  · rw [lcm_lt] at a
    exact ⟨trivial, h1 (by omega)⟩
  · rw [lcm_lt] at a
    refine brI (fun b => ?_) (fun b => ?_) <;> conv => whnf
    · rw [lcm_gt] at b
      exact ⟨trivial, h1 (by omega)⟩
    · rw [lcm_gt] at b
      exact ⟨trivial, h0 (by omega)⟩
theorem m188 {d : Nat} {s k : Int} {I : ME} {Q : Option MV → ME → Prop} (h0 : (hasb s k) → Q (some (nt 1)) (I)) (h1 : ¬ (hasb s k) → Q (some (nt 0)) (I)) : EvM d 188 [nt s, nt k] I Q := by
  refine EvM.go [] (T := T_188) rfl rfl rfl rfl ?_
  conv => whnf
  repeat' first
    | (refine brI (fun _ => ?_) (fun _ => ?_) <;> conv => whnf)
    | (refine ⟨by first | exact trivial | omega, ?_⟩; conv => whnf)
  all_goals first
    | exact h0 (by omega)
    | exact h1 (by omega)
    | (exfalso; omega)

theorem m194 {d : Nat} {t : Int} {I : ME} {Q : Option MV → ME → Prop} (hd : 1 ≤ d) (hy0 : -1 ≤ I 53 6) (hy1 : I 53 6 ≤ 12) (h0 : (tkM I t) → Q (some (nt 1)) (I)) (h1 : ¬ (tkM I t) → Q (some (nt 0)) (I)) : EvM d 194 [rf 53, lg t] I Q := by
  refine EvM.go [] (T := T_194) rfl rfl rfl rfl ?_
  conv => whnf
  have e0 : isb (I 53 6) 1 = I 53 6 - 1 := by simp (disch := omega) only [iml_e, iad_e, isb_e]
  repeat' first
    | (refine brI (fun _ => ?_) (fun _ => ?_) <;> conv => whnf)
    | (refine ⟨by omega, m187 (fun _ => ?_) (fun _ => ?_)⟩ <;> conv => whnf)
    | (refine ⟨by first | exact trivial | omega, ?_⟩; conv => whnf)
  all_goals first
    | exact h0 (by omega)
    | exact h1 (by omega)
    | (exfalso; omega)

theorem m195 {d : Nat} {k : Int} {I : ME} {Q : Option MV → ME → Prop} (hd : 1 ≤ d) (h0 : (pP k) → Q (some (nt 1)) (I)) (h1 : ¬ (pP k) → Q (some (nt 0)) (I)) : EvM d 195 [lg k] I Q := by
  refine EvM.go [] (T := T_195) rfl rfl rfl rfl ?_
  conv => whnf
  repeat' first
    | (refine brI (fun _ => ?_) (fun _ => ?_) <;> conv => whnf)
    | (refine ⟨by omega, m187 (fun _ => ?_) (fun _ => ?_)⟩ <;> conv => whnf)
    | (refine ⟨by first | exact trivial | omega, ?_⟩; conv => whnf)
  all_goals first
    | exact h0 (by omega)
    | exact h1 (by omega)
    | (exfalso; omega)

theorem m196 {d : Nat} {k : Int} {I : ME} {Q : Option MV → ME → Prop} (hd : 1 ≤ d) (h0 : (pT k) → Q (some (nt 1)) (I)) (h1 : ¬ (pT k) → Q (some (nt 0)) (I)) : EvM d 196 [lg k] I Q := by
  refine EvM.go [] (T := T_196) rfl rfl rfl rfl ?_
  conv => whnf
  repeat' first
    | (refine brI (fun _ => ?_) (fun _ => ?_) <;> conv => whnf)
    | (refine ⟨by omega, m187 (fun _ => ?_) (fun _ => ?_)⟩ <;> conv => whnf)
    | (refine ⟨by first | exact trivial | omega, ?_⟩; conv => whnf)
  all_goals first
    | exact h0 (by omega)
    | exact h1 (by omega)
    | (exfalso; omega)

theorem m197 {d : Nat} {t : Int} {I : ME} {Q : Option MV → ME → Prop} (hy0 : 0 ≤ t) (hy1 : t < 12) (h0 : Q (some (nt (I 54 (48 + 3 * t)))) (I)) : EvM d 197 [rf 53, nt t] I Q := by
  refine EvM.go [] (T := T_197) rfl rfl rfl rfl ?_
  conv => whnf
  have e0 : iad 48 (iml 3 t) = 48 + 3 * t := by simp (disch := omega) only [iml_e, iad_e, isb_e]
  repeat' first
    | (refine brI (fun _ => ?_) (fun _ => ?_) <;> conv => whnf)
    | (refine ⟨by first | exact trivial | omega | (simp (disch := omega) only [iad_e, isb_e, iml_e, ing_e]; omega), ?_⟩; conv => whnf)
  all_goals first
    | exact h0
    | (simp (disch := omega) only [iad_e, isb_e, iml_e, ing_e]; exact h0)
    | (exfalso; omega)

theorem m198 {d : Nat} {t : Int} {I : ME} {Q : Option MV → ME → Prop} (hy0 : 0 ≤ t) (hy1 : t < 12) (h0 : Q (some (nt (I 54 (48 + 3 * t + 1)))) (I)) : EvM d 198 [rf 53, nt t] I Q := by
  refine EvM.go [] (T := T_198) rfl rfl rfl rfl ?_
  conv => whnf
  repeat' first
    | (refine brI (fun _ => ?_) (fun _ => ?_) <;> conv => whnf)
    | (refine ⟨by first | exact trivial | omega | (simp (disch := omega) only [iad_e, isb_e, iml_e, ing_e]; omega), ?_⟩; conv => whnf)
  all_goals first
    | exact h0
    | (simp (disch := omega) only [iad_e, isb_e, iml_e, ing_e]; exact h0)
    | (exfalso; omega)

theorem m199 {d : Nat} {t : Int} {I : ME} {Q : Option MV → ME → Prop} (hy0 : 0 ≤ t) (hy1 : t < 12) (h0 : (I 54 (48 + 3 * t + 2) = 1) → Q (some (nt 1)) (I)) (h1 : ¬ (I 54 (48 + 3 * t + 2) = 1) → Q (some (nt 0)) (I)) : EvM d 199 [rf 53, nt t] I Q := by
  refine EvM.go [] (T := T_199) rfl rfl rfl rfl ?_
  conv => whnf
  have e0 : iad (iad 48 (iml 3 t)) 2 = 48 + 3 * t + 2 := by simp (disch := omega) only [iml_e, iad_e, isb_e]
  repeat' first
    | (refine brI (fun _ => ?_) (fun _ => ?_) <;> conv => whnf)
    | (refine ⟨by first | exact trivial | omega | (simp (disch := omega) only [iad_e, isb_e, iml_e, ing_e]; omega), ?_⟩; conv => whnf)
  all_goals first
    | exact h0 (by omega)
    | exact h1 (by omega)
    | (simp (disch := omega) only [iad_e, isb_e, iml_e, ing_e]; exact h0 (by omega))
    | (simp (disch := omega) only [iad_e, isb_e, iml_e, ing_e]; exact h1 (by omega))
    | (exfalso; omega)
    | exact h0 (by rw [← e0]; assumption)
    | exact h1 (by rw [← e0]; assumption)

theorem m200 {d : Nat} {k t : Int} {I : ME} {Q : Option MV → ME → Prop} (hy0 : 0 ≤ k) (hy1 : k < 6) (hy2 : 0 ≤ t) (hy3 : t < 8) (h0 : Q (some (nt (I 54 (8 * k + t)))) (I)) : EvM d 200 [rf 53, nt k, nt t] I Q := by
  refine EvM.go [] (T := T_200) rfl rfl rfl rfl ?_
  conv => whnf
  repeat' first
    | (refine brI (fun _ => ?_) (fun _ => ?_) <;> conv => whnf)
    | (refine ⟨by first | exact trivial | omega | (simp (disch := omega) only [iad_e, isb_e, iml_e, ing_e]; omega), ?_⟩; conv => whnf)
  all_goals first
    | exact h0
    | (simp (disch := omega) only [iad_e, isb_e, iml_e, ing_e]; exact h0)
    | (exfalso; omega)

theorem m201 {d : Nat} {t k : Int} {I : ME} {Q : Option MV → ME → Prop} (hd : 2 ≤ d) (h0 : (pT t ∧ pH k) → Q (some (nt 1)) (I)) (h1 : ¬ (pT t ∧ pH k) → Q (some (nt 0)) (I)) : EvM d 201 [lg t, lg k] I Q := by
  refine EvM.go [] (T := T_201) rfl rfl rfl rfl ?_
  conv => whnf
  repeat' first
    | (refine brI (fun _ => ?_) (fun _ => ?_) <;> conv => whnf)
    | (refine ⟨by omega, m196 (by omega) (fun _ => ?_) (fun _ => ?_)⟩ <;> conv => whnf)
    | (refine ⟨by omega, m187 (fun _ => ?_) (fun _ => ?_)⟩ <;> conv => whnf)
    | (refine ⟨by first | exact trivial | omega, ?_⟩; conv => whnf)
  all_goals first
    | exact h0 (by omega)
    | exact h1 (by omega)
    | (exfalso; omega)

theorem m241 {d : Nat} {t : Int} {I : ME} {Q : Option MV → ME → Prop} (hy0 : 0 ≤ t) (hy1 : t < 12) (h0 : Q (some (nt (48 + 3 * t + 1))) (I)) : EvM d 241 [nt t] I Q := by
  refine EvM.go [] (T := T_241) rfl rfl rfl rfl ?_
  conv => whnf
  repeat' first
    | (refine brI (fun _ => ?_) (fun _ => ?_) <;> conv => whnf)
    | (refine ⟨by first | exact trivial | omega | (simp (disch := omega) only [iad_e, isb_e, iml_e, ing_e]; omega), ?_⟩; conv => whnf)
  all_goals first
    | exact h0
    | (simp (disch := omega) only [iad_e, isb_e, iml_e, ing_e]; exact h0)
    | (exfalso; omega)

theorem m227 {d : Nat} {s : Int} {I : ME} {Q : Option MV → ME → Prop} (h0 : (0 ≤ s ∧ ian s (ixr (I 53 7) (-1)) = 0) → Q (some (nt 1)) (I)) (h1 : ¬ (0 ≤ s ∧ ian s (ixr (I 53 7) (-1)) = 0) → Q (some (nt 0)) (I)) : EvM d 227 [rf 53, nt s] I Q := by
  refine EvM.go [] (T := T_227) rfl rfl rfl rfl ?_
  conv => whnf
  repeat' first
    | (refine brI (fun _ => ?_) (fun _ => ?_) <;> conv => whnf)
    | (refine ⟨by first | exact trivial | omega, ?_⟩; conv => whnf)
  all_goals first
    | exact h0 (by omega)
    | exact h1 (by omega)
    | (exfalso; omega)

theorem m236 {d : Nat} {k : Int} {I : ME} {Q : Option MV → ME → Prop} (hd : 1 ≤ d) (h0 : (0 ≤ k ∧ k ≤ 1) → Q (some (nt 1)) (I)) (h1 : ¬ (0 ≤ k ∧ k ≤ 1) → Q (some (nt 0)) (I)) : EvM d 236 [nt k] I Q := by
  refine EvM.go [] (T := T_236) rfl rfl rfl rfl ?_
  conv => whnf
  repeat' first
    | (refine brI (fun _ => ?_) (fun _ => ?_) <;> conv => whnf)
    | (refine ⟨by omega, m187 (fun _ => ?_) (fun _ => ?_)⟩ <;> conv => whnf)
    | (refine ⟨by first | exact trivial | omega, ?_⟩; conv => whnf)
  all_goals first
    | exact h0 (by omega)
    | exact h1 (by omega)
    | (exfalso; omega)

theorem m285 {d : Nat} {k : Int} {I : ME} {Q : Option MV → ME → Prop} (hd : 1 ≤ d) (h0 : (0 ≤ k ∧ k < 6) → Q (some (nt 1)) (I)) (h1 : ¬ (0 ≤ k ∧ k < 6) → Q (some (nt 0)) (I)) : EvM d 285 [nt k] I Q := by
  refine EvM.go [] (T := T_285) rfl rfl rfl rfl ?_
  conv => whnf
  repeat' first
    | (refine brI (fun _ => ?_) (fun _ => ?_) <;> conv => whnf)
    | (refine ⟨by omega, m187 (fun _ => ?_) (fun _ => ?_)⟩ <;> conv => whnf)
    | (refine ⟨by first | exact trivial | omega, ?_⟩; conv => whnf)
  all_goals first
    | exact h0 (by omega)
    | exact h1 (by omega)
    | (exfalso; omega)

theorem m274 {d : Nat} {t : Int} {I : ME} {Q : Option MV → ME → Prop} (hd : 1 ≤ d) (hy0 : -1 ≤ I 53 44) (hy1 : I 53 44 ≤ 50) (h0 : (0 ≤ t ∧ t < I 53 44) → Q (some (nt 1)) (I)) (h1 : ¬ (0 ≤ t ∧ t < I 53 44) → Q (some (nt 0)) (I)) : EvM d 274 [rf 53, nt t] I Q := by
  refine EvM.go [] (T := T_274) rfl rfl rfl rfl ?_
  conv => whnf
  have e0 : isb (I 53 44) 1 = I 53 44 - 1 := by simp (disch := omega) only [iml_e, iad_e, isb_e]
  repeat' first
    | (refine brI (fun _ => ?_) (fun _ => ?_) <;> conv => whnf)
    | (refine ⟨by omega, m187 (fun _ => ?_) (fun _ => ?_)⟩ <;> conv => whnf)
    | (refine ⟨by first | exact trivial | omega, ?_⟩; conv => whnf)
  all_goals first
    | exact h0 (by omega)
    | exact h1 (by omega)
    | (exfalso; omega)

