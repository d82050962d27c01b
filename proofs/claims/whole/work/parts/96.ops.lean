/-! OPERATIONS that touch little (printed by wip/whole/gen98.py) -/
theorem iml_c3 {a : Int} (h : -200000000 ≤ a ∧ a ≤ 200000000) : iml 3 a = 3 * a := iml_e (by omega)
theorem x130 {d : Nat} {t k : Int} {I : ME} {Q : Option MV → ME → Prop} (hd : 2 ≤ d) (hy0 : 0 ≤ I 1 5) (h0 : (¬ (pT t ∧ pH k)) → Q (some (nt (-1))) (I)) (h1 : (pT t ∧ pH k ∧ 12 ≤ I 1 5) → Q (some (nt (-3))) (I)) (h2 : (pT t ∧ pH k ∧ I 1 5 < 12) → Q (some (nt (I 1 5))) (upd_ (upd_ (upd_ (upd_ (upd_ I 3 (I 1 5) t) 4 (I 1 5) k) 5 (I 1 5) 0) 1 6 (iro (I 1 6) (isl 1 (I 1 5)))) 1 5 (iad (I 1 5) 1))) : EvM d 130 [rf 0, nt t, nt k] I Q := by
  refine EvM.go [] (T := T_130) rfl rfl rfl rfl ?_
  conv => whnf
  repeat' first
    | (refine brI (fun _ => ?_) (fun _ => ?_) <;> conv => whnf)
    | (refine ⟨by omega, x177 (fun _ => ?_) (fun _ => ?_)⟩ <;> conv => whnf)
    | (refine ⟨by omega, x176 (by omega) (fun _ => ?_) (fun _ => ?_)⟩ <;> conv => whnf)
    | (refine ⟨by omega, x34 (by first | assumption | omega) (fun _ => ?_) (fun _ => ?_)⟩ <;> conv => whnf)
    | (refine ⟨by first | exact trivial | omega, ?_⟩; conv => whnf)
  all_goals first
    | exact h0 (by omega)
    | exact h1 (by omega)
    | exact h2 (by omega)
    | (exfalso; omega)

theorem m202 {d : Nat} {t k : Int} {I : ME} {Q : Option MV → ME → Prop} (hy0 : 0 ≤ I 53 6) (hy1 : I 53 6 < 12) (h0 : Q (none) (upd_ (upd_ (upd_ (upd_ (upd_ I 54 (48 + 3 * I 53 6) t) 54 (48 + 3 * I 53 6 + 1) k) 54 (48 + 3 * I 53 6 + 2) 0) 53 7 (iro (I 53 7) (isl 1 (I 53 6)))) 53 6 (I 53 6 + 1))) : EvM d 202 [rf 53, nt t, nt k] I Q := by
  refine EvM.go [] (T := T_202) rfl rfl rfl rfl ?_
  conv => whnf
  repeat' first
    | (simp (disch := omega) only [up_c, up_ne, iml_e, iad_e])
    | (refine brI (fun _ => ?_) (fun _ => ?_) <;> conv => whnf)
    | (refine ⟨by first | exact trivial | omega, ?_⟩; conv => whnf)
  all_goals first
    | exact h0
    | (have mzf := h0; simp (disch := omega) only [up_c, up_ne, iml_e, iad_e] at mzf ⊢; exact mzf)
    | (exfalso; omega)

theorem m203 {d : Nat} {t k : Int} {I : ME} {Q : Option MV → ME → Prop} (hd : 3 ≤ d) (hy0 : 0 ≤ I 53 6) (hy1 : I 53 6 ≤ 12) (h0 : (¬ (pT t ∧ pH k)) → Q (some (nt (-1))) (I)) (h1 : (pT t ∧ pH k ∧ I 53 6 = 12) → Q (some (nt (-3))) (I)) (h2 : (pT t ∧ pH k ∧ I 53 6 ≠ 12) → Q (some (nt (I 53 6))) (upd_ (upd_ (upd_ (upd_ (upd_ I 54 (48 + 3 * I 53 6) t) 54 (48 + 3 * I 53 6 + 1) k) 54 (48 + 3 * I 53 6 + 2) 0) 53 7 (iro (I 53 7) (isl 1 (I 53 6)))) 53 6 (I 53 6 + 1))) : EvM d 203 [rf 53, nt t, nt k] I Q := by
  refine EvM.go [] (T := T_203) rfl rfl rfl rfl ?_
  conv => whnf
  repeat' first
    | (simp (disch := omega) only [up_eq, isb_e, Int.add_sub_cancel])
    | (refine brI (fun _ => ?_) (fun _ => ?_) <;> conv => whnf)
    | (refine ⟨by omega, m201 (by omega) (fun _ => ?_) (fun _ => ?_)⟩ <;> conv => whnf)
    | (refine ⟨by omega, m202 (by first | assumption | omega) (by first | assumption | omega) ?_⟩ <;> conv => whnf)
    | (refine ⟨by first | exact trivial | omega, ?_⟩; conv => whnf)
  all_goals first
    | exact h0 (by omega)
    | exact h1 (by omega)
    | exact h2 (by omega)
    | (have mzf := h0 (by omega); simp (disch := omega) only [up_eq, isb_e, Int.add_sub_cancel] at mzf ⊢; exact mzf)
    | (have mzf := h1 (by omega); simp (disch := omega) only [up_eq, isb_e, Int.add_sub_cancel] at mzf ⊢; exact mzf)
    | (have mzf := h2 (by omega); simp (disch := omega) only [up_eq, isb_e, Int.add_sub_cancel] at mzf ⊢; exact mzf)
    | (exfalso; omega)

