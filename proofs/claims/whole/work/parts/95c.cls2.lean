/-! THE CLASS'S SMALL METHODS, more (printed by wip/whole/gen96.py) -/
theorem idv_q {a b : Int} (ha : 0 ≤ a) (ha2 : a ≤ 2147483647) (hb : 0 < b ∧ b ≤ 2147483647) : idv a b = a / b := idv_p ha ha2 ⟨by omega, by omega⟩
theorem irm_q {a b : Int} (ha : 0 ≤ a) (ha2 : a ≤ 2147483647) (hb : 0 < b ∧ b ≤ 2147483647) : irm a b = a % b := irm_p ha ha2 ⟨by omega, by omega⟩
abbrev lvC (n : Int) : Prop := 0 ≤ n ∧ n / 10 < 6 ∧ n % 10 < 8
abbrev tlC (I : ME) (n w : Int) : Prop := (w = 0 ∧ lvC n) ∨ (1 ≤ w ∧ w ≤ 3 ∧ tkC I n)
abbrev alC (w v : Int) : Prop := (w = 0 ∧ 0 ≤ v ∧ v ≤ 99) ∨ (w = 1 ∧ pT v) ∨ (w = 2 ∧ pH v) ∨ (w = 3 ∧ (v = 0 ∨ v = 1))
abbrev rwC (I : ME) (s : Int) : Prop := pP s ∧ I 48 s = 2
/-- a row has these places -/
abbrev plC (I : ME) (s i n : Int) : Prop := 0 ≤ i ∧ 0 ≤ n ∧ ((rwC I s ∧ i + n ≤ I 51 s) ∨ (¬ rwC I s ∧ i + n ≤ 0))
theorem iml_c8 {a : Int} (h : -200000000 ≤ a ∧ a ≤ 200000000) : iml a 8 = 8 * a := by rw [iml_e (by omega)]; omega
theorem l2i_e {a : Int} (h : -2147483648 ≤ a ∧ a ≤ 2147483647) : l2i_ a = a := by
  unfold l2i_
  rw [show (Int64.ofInt a).toInt32 = Int32.ofInt a from Int64.toInt32_ofInt]
  exact to_of32 h
theorem x39 {d : Nat} {I : ME} {Q : Option MV → ME → Prop} (hd : 1 ≤ d) (hy0 : 0 ≤ I 1 6) (hy1 : I 1 6 < 4096) (h0 : Q (some (nt (pI (I 1 6)))) (I)) : EvM d 39 [rf 1] I Q := by
  refine EvM.go [] (T := T_39) rfl rfl rfl rfl ?_
  conv => whnf
  repeat' first
    | (refine brI (fun _ => ?_) (fun _ => ?_) <;> conv => whnf)
    | (refine ⟨by omega, x295p (by first | assumption | omega) (by first | assumption | omega) ?_⟩ <;> conv => whnf)
    | (refine ⟨by first | exact trivial | omega, ?_⟩; conv => whnf)
  all_goals first
    | exact h0
    | (exfalso; omega)

theorem x47 {d : Nat} {m : Int} {I : ME} {Q : Option MV → ME → Prop} (hd : 2 ≤ d) (hy0 : 0 ≤ I 1 6) (hy1 : I 1 6 < 4096) (h0 : (0 ≤ m ∧ m ≤ pI (I 1 6)) → Q (some (nt 1)) (I)) (h1 : ¬ (0 ≤ m ∧ m ≤ pI (I 1 6)) → Q (some (nt 0)) (I)) : EvM d 47 [rf 1, nt m] I Q := by
  refine EvM.go [] (T := T_47) rfl rfl rfl rfl ?_
  conv => whnf
  repeat' first
    | (refine brI (fun _ => ?_) (fun _ => ?_) <;> conv => whnf)
    | (refine ⟨by omega, x39 (by omega) (by first | assumption | omega) (by first | assumption | omega) ?_⟩ <;> conv => whnf)
    | (refine ⟨by first | exact trivial | omega, ?_⟩; conv => whnf)
  all_goals first
    | exact h0 (by omega)
    | exact h1 (by omega)
    | (exfalso; omega)

theorem x178 {d : Nat} {k : Int} {I : ME} {Q : Option MV → ME → Prop} (hd : 1 ≤ d) (hy0 : k ≤ 2147483647) (h0 : (lvC k) → Q (some (nt 1)) (I)) (h1 : ¬ (lvC k) → Q (some (nt 0)) (I)) : EvM d 178 [nt k] I Q := by
  refine EvM.go [] (T := T_178) rfl rfl rfl rfl ?_
  conv => whnf
  repeat' first
    | (simp (disch := omega) only [idv_q, irm_q])
    | (refine brI (fun _ => ?_) (fun _ => ?_) <;> conv => whnf)
    | (refine ⟨by omega, x175 (fun _ => ?_) (fun _ => ?_)⟩ <;> conv => whnf)
    | (refine ⟨by omega, x177 (fun _ => ?_) (fun _ => ?_)⟩ <;> conv => whnf)
    | (refine ⟨by first | exact trivial | omega, ?_⟩; conv => whnf)
  all_goals first
    | exact h0 (by omega)
    | exact h1 (by omega)
    | (have mzf := h0 (by omega); simp (disch := omega) only [idv_q, irm_q] at mzf ⊢; exact mzf)
    | (have mzf := h1 (by omega); simp (disch := omega) only [idv_q, irm_q] at mzf ⊢; exact mzf)
    | (exfalso; omega)

theorem x57 {d : Nat} {n w : Int} {I : ME} {Q : Option MV → ME → Prop} (hd : 2 ≤ d) (hy0 : n ≤ 2147483647) (h0 : (tlC I n w) → Q (some (nt 1)) (I)) (h1 : ¬ (tlC I n w) → Q (some (nt 0)) (I)) : EvM d 57 [rf 1, nt n, nt w] I Q := by
  refine EvM.go [] (T := T_57) rfl rfl rfl rfl ?_
  conv => whnf
  repeat' first
    | (refine brI (fun _ => ?_) (fun _ => ?_) <;> conv => whnf)
    | (refine ⟨by omega, x178 (by omega) (by first | assumption | omega) (fun _ => ?_) (fun _ => ?_)⟩ <;> conv => whnf)
    | (refine ⟨by omega, x36 (fun _ => ?_) (fun _ => ?_)⟩ <;> conv => whnf)
    | (refine ⟨by first | exact trivial | omega, ?_⟩; conv => whnf)
  all_goals first
    | exact h0 (by omega)
    | exact h1 (by omega)
    | (exfalso; omega)

theorem x58 {d : Nat} {w v : Int} {I : ME} {Q : Option MV → ME → Prop} (hd : 2 ≤ d) (h0 : (alC w v) → Q (some (nt 1)) (I)) (h1 : ¬ (alC w v) → Q (some (nt 0)) (I)) : EvM d 58 [nt w, nt v] I Q := by
  refine EvM.go [] (T := T_58) rfl rfl rfl rfl ?_
  conv => whnf
  repeat' first
    | (refine brI (fun _ => ?_) (fun _ => ?_) <;> conv => whnf)
    | (refine ⟨by omega, x177 (fun _ => ?_) (fun _ => ?_)⟩ <;> conv => whnf)
    | (refine ⟨by omega, x176 (by omega) (fun _ => ?_) (fun _ => ?_)⟩ <;> conv => whnf)
    | (refine ⟨by first | exact trivial | omega, ?_⟩; conv => whnf)
  all_goals first
    | exact h0 (by omega)
    | exact h1 (by omega)
    | (exfalso; omega)

theorem x59 {d : Nat} {n w : Int} {I : ME} {Q : Option MV → ME → Prop} (hd : 3 ≤ d) (hy0 : n ≤ 2147483647) (hy1 : I 1 5 ≤ 12) (h0 : (tlC I n w ∧ w = 0) → Q (some (nt (I 2 (8 * (n / 10) + n % 10)))) (I)) (h1 : (tlC I n w ∧ w = 1) → Q (some (nt (I 3 n))) (I)) (h2 : (tlC I n w ∧ w = 2) → Q (some (nt (I 4 n))) (I)) (h3 : (tlC I n w ∧ w = 3) → Q (some (nt (I 5 n))) (I)) (h4 : (¬ tlC I n w) → Q (some (nt (-2000000000))) (I)) : EvM d 59 [rf 1, nt n, nt w] I Q := by
  refine EvM.go [] (T := T_59) rfl rfl rfl rfl ?_
  conv => whnf
  repeat' first
    | (simp (disch := omega) only [idv_q, irm_q])
    | (refine brI (fun _ => ?_) (fun _ => ?_) <;> conv => whnf)
    | (refine ⟨by omega, x57 (by omega) (by first | assumption | omega) (fun _ => ?_) (fun _ => ?_)⟩ <;> conv => whnf)
    | (refine ⟨by omega, x56 (by omega) (fun _ => ?_) (fun _ => ?_)⟩ <;> conv => whnf)
    | (refine ⟨by first | exact trivial | omega, ?_⟩; conv => whnf)
  all_goals first
    | exact h0 (by omega)
    | exact h1 (by omega)
    | exact h2 (by omega)
    | exact h3 (by omega)
    | exact h4 (by omega)
    | (have mzf := h0 (by omega); simp (disch := omega) only [idv_q, irm_q] at mzf ⊢; exact mzf)
    | (have mzf := h1 (by omega); simp (disch := omega) only [idv_q, irm_q] at mzf ⊢; exact mzf)
    | (have mzf := h2 (by omega); simp (disch := omega) only [idv_q, irm_q] at mzf ⊢; exact mzf)
    | (have mzf := h3 (by omega); simp (disch := omega) only [idv_q, irm_q] at mzf ⊢; exact mzf)
    | (have mzf := h4 (by omega); simp (disch := omega) only [idv_q, irm_q] at mzf ⊢; exact mzf)
    | (exfalso; omega)

theorem x60 {d : Nat} {n w v : Int} {I : ME} {Q : Option MV → ME → Prop} (hd : 3 ≤ d) (hy0 : n ≤ 2147483647) (hy1 : I 1 5 ≤ 12) (h0 : (tlC I n w ∧ w = 0) → Q (none) (upd_ (upd_ I 2 (8 * (n / 10) + n % 10) v) 1 8 (iad (I 1 8) 1))) (h1 : (tlC I n w ∧ w = 1) → Q (none) (upd_ I 3 n v)) (h2 : (tlC I n w ∧ w = 2) → Q (none) (upd_ I 4 n v)) (h3 : (tlC I n w ∧ w = 3) → Q (none) (upd_ I 5 n v)) (h4 : (¬ tlC I n w) → Q (none) (I)) : EvM d 60 [rf 1, nt n, nt w, nt v] I Q := by
  refine EvM.go [] (T := T_60) rfl rfl rfl rfl ?_
  conv => whnf
  repeat' first
    | (simp (disch := omega) only [idv_q, irm_q, iml_c8, iad_e, up_c])
    | (refine brI (fun _ => ?_) (fun _ => ?_) <;> conv => whnf)
    | (refine ⟨by omega, x57 (by omega) (by first | assumption | omega) (fun _ => ?_) (fun _ => ?_)⟩ <;> conv => whnf)
    | (refine ⟨by first | exact trivial | omega, ?_⟩; conv => whnf)
  all_goals first
    | exact h0 (by omega)
    | exact h1 (by omega)
    | exact h2 (by omega)
    | exact h3 (by omega)
    | exact h4 (by omega)
    | (have mzf := h0 (by omega); simp (disch := omega) only [idv_q, irm_q, iml_c8, iad_e, up_c] at mzf ⊢; exact mzf)
    | (have mzf := h1 (by omega); simp (disch := omega) only [idv_q, irm_q, iml_c8, iad_e, up_c] at mzf ⊢; exact mzf)
    | (have mzf := h2 (by omega); simp (disch := omega) only [idv_q, irm_q, iml_c8, iad_e, up_c] at mzf ⊢; exact mzf)
    | (have mzf := h3 (by omega); simp (disch := omega) only [idv_q, irm_q, iml_c8, iad_e, up_c] at mzf ⊢; exact mzf)
    | (have mzf := h4 (by omega); simp (disch := omega) only [idv_q, irm_q, iml_c8, iad_e, up_c] at mzf ⊢; exact mzf)
    | (exfalso; omega)

theorem x34 {d : Nat} {t k : Int} {I : ME} {Q : Option MV → ME → Prop} (hy0 : 0 ≤ I 1 5) (h0 : (12 ≤ I 1 5) → Q (some (nt (-3))) (I)) (h1 : (I 1 5 < 12) → Q (some (nt (I 1 5))) (upd_ (upd_ (upd_ (upd_ (upd_ I 3 (I 1 5) t) 4 (I 1 5) k) 5 (I 1 5) 0) 1 6 (iro (I 1 6) (isl 1 (I 1 5)))) 1 5 (iad (I 1 5) 1))) : EvM d 34 [rf 1, nt t, nt k] I Q := by
  refine EvM.go [] (T := T_34) rfl rfl rfl rfl ?_
  conv => whnf
  repeat' first
    | (simp (disch := omega) only [up_c, up_ne])
    | (refine brI (fun _ => ?_) (fun _ => ?_) <;> conv => whnf)
    | (refine ⟨by first | exact trivial | omega, ?_⟩; conv => whnf)
  all_goals first
    | exact h0 (by omega)
    | exact h1 (by omega)
    | (have mzf := h0 (by omega); simp (disch := omega) only [up_c, up_ne] at mzf ⊢; exact mzf)
    | (have mzf := h1 (by omega); simp (disch := omega) only [up_c, up_ne] at mzf ⊢; exact mzf)
    | (exfalso; omega)

theorem x90 {d : Nat} {s : Int} {I : ME} {Q : Option MV → ME → Prop} (hd : 1 ≤ d) (h0 : (¬ pP s ∨ I 48 s = 0) → Q (some (nt 1)) (I)) (h1 : ¬ (¬ pP s ∨ I 48 s = 0) → Q (some (nt 0)) (I)) : EvM d 90 [rf 47, nt s] I Q := by
  refine EvM.go [] (T := T_90) rfl rfl rfl rfl ?_
  conv => whnf
  repeat' first
    | (refine brI (fun _ => ?_) (fun _ => ?_) <;> conv => whnf)
    | (refine ⟨by omega, x179 (fun _ => ?_) (fun _ => ?_)⟩ <;> conv => whnf)
    | (refine ⟨by first | exact trivial | omega, ?_⟩; conv => whnf)
  all_goals first
    | exact h0 (by omega)
    | exact h1 (by omega)
    | (exfalso; omega)

theorem x91 {d : Nat} {s : Int} {I : ME} {Q : Option MV → ME → Prop} (hd : 1 ≤ d) (h0 : (rwC I s) → Q (some (nt 1)) (I)) (h1 : ¬ (rwC I s) → Q (some (nt 0)) (I)) : EvM d 91 [rf 47, nt s] I Q := by
  refine EvM.go [] (T := T_91) rfl rfl rfl rfl ?_
  conv => whnf
  repeat' first
    | (refine brI (fun _ => ?_) (fun _ => ?_) <;> conv => whnf)
    | (refine ⟨by omega, x179 (fun _ => ?_) (fun _ => ?_)⟩ <;> conv => whnf)
    | (refine ⟨by first | exact trivial | omega, ?_⟩; conv => whnf)
  all_goals first
    | exact h0 (by omega)
    | exact h1 (by omega)
    | (exfalso; omega)

theorem x92 {d : Nat} {s : Int} {I : ME} {Q : Option MV → ME → Prop} (hd : 2 ≤ d) (h0 : (rwC I s ∧ I 50 s = 0) → Q (some (nt 1)) (I)) (h1 : ¬ (rwC I s ∧ I 50 s = 0) → Q (some (nt 0)) (I)) : EvM d 92 [rf 47, nt s] I Q := by
  refine EvM.go [] (T := T_92) rfl rfl rfl rfl ?_
  conv => whnf
  repeat' first
    | (refine brI (fun _ => ?_) (fun _ => ?_) <;> conv => whnf)
    | (refine ⟨by omega, x91 (by omega) (fun _ => ?_) (fun _ => ?_)⟩ <;> conv => whnf)
    | (refine ⟨by first | exact trivial | omega, ?_⟩; conv => whnf)
  all_goals first
    | exact h0 (by omega)
    | exact h1 (by omega)
    | (exfalso; omega)

theorem x93 {d : Nat} {s o : Int} {I : ME} {Q : Option MV → ME → Prop} (hd : 2 ≤ d) (h0 : (rwC I s ∧ rwC I o ∧ I 50 s = I 50 o) → Q (some (nt 1)) (I)) (h1 : ¬ (rwC I s ∧ rwC I o ∧ I 50 s = I 50 o) → Q (some (nt 0)) (I)) : EvM d 93 [rf 47, nt s, nt o] I Q := by
  refine EvM.go [] (T := T_93) rfl rfl rfl rfl ?_
  conv => whnf
  repeat' first
    | (refine brI (fun _ => ?_) (fun _ => ?_) <;> conv => whnf)
    | (refine ⟨by omega, x91 (by omega) (fun _ => ?_) (fun _ => ?_)⟩ <;> conv => whnf)
    | (refine ⟨by first | exact trivial | omega, ?_⟩; conv => whnf)
  all_goals first
    | exact h0 (by omega)
    | exact h1 (by omega)
    | (exfalso; omega)

theorem x94 {d : Nat} {s : Int} {I : ME} {Q : Option MV → ME → Prop} (hd : 1 ≤ d) (h0 : (pP s ∧ I 48 s = 1) → Q (some (nt (I 49 s))) (I)) (h1 : (¬ (pP s ∧ I 48 s = 1)) → Q (some (nt (-2))) (I)) : EvM d 94 [rf 47, nt s] I Q := by
  refine EvM.go [] (T := T_94) rfl rfl rfl rfl ?_
  conv => whnf
  repeat' first
    | (refine brI (fun _ => ?_) (fun _ => ?_) <;> conv => whnf)
    | (refine ⟨by omega, x179 (fun _ => ?_) (fun _ => ?_)⟩ <;> conv => whnf)
    | (refine ⟨by first | exact trivial | omega, ?_⟩; conv => whnf)
  all_goals first
    | exact h0 (by omega)
    | exact h1 (by omega)
    | (exfalso; omega)

theorem x95 {d : Nat} {s : Int} {I : ME} {Q : Option MV → ME → Prop} (hd : 2 ≤ d) (h0 : (rwC I s) → Q (some (nt (I 51 s))) (I)) (h1 : (¬ rwC I s) → Q (some (nt (0))) (I)) : EvM d 95 [rf 47, nt s] I Q := by
  refine EvM.go [] (T := T_95) rfl rfl rfl rfl ?_
  conv => whnf
  repeat' first
    | (refine brI (fun _ => ?_) (fun _ => ?_) <;> conv => whnf)
    | (refine ⟨by omega, x91 (by omega) (fun _ => ?_) (fun _ => ?_)⟩ <;> conv => whnf)
    | (refine ⟨by first | exact trivial | omega, ?_⟩; conv => whnf)
  all_goals first
    | exact h0 (by omega)
    | exact h1 (by omega)
    | (exfalso; omega)

theorem x96 {d : Nat} {s i n : Int} {I : ME} {Q : Option MV → ME → Prop} (hd : 3 ≤ d) (hy0 : i ≤ 9000000000) (hy1 : n ≤ 2147483647) (h0 : (plC I s i n) → Q (some (nt 1)) (I)) (h1 : ¬ (plC I s i n) → Q (some (nt 0)) (I)) : EvM d 96 [rf 47, nt s, lg i, nt n] I Q := by
  refine EvM.go [] (T := T_96) rfl rfl rfl rfl ?_
  conv => whnf
  have mze : 0 ≤ i → 0 ≤ n → lad i n = i + n := fun _ _ => lad_e (by omega)
  repeat' first
    | (refine brI (fun mzq => ?_) (fun mzq => ?_) <;> (first | rw [lcm_lt] at mzq | rw [lcm_gt] at mzq | rw [lcm_0] at mzq | skip) <;> conv => whnf)
    | (refine ⟨by omega, x95 (by omega) (fun _ => ?_) (fun _ => ?_)⟩ <;> conv => whnf)
    | (refine ⟨by first | exact trivial | omega, ?_⟩; conv => whnf)
  all_goals first
    | exact h0 (by omega)
    | exact h1 (by omega)
    | (exfalso; omega)

theorem x97 {d : Nat} {s b : Int} {I : ME} {Q : Option MV → ME → Prop} (hd : 1 ≤ d) (h0 : (pP s ∧ b < 0) → Q (none) (upd_ (upd_ I 48 s 0) 49 s b)) (h1 : (pP s ∧ 0 ≤ b) → Q (none) (upd_ (upd_ I 48 s 1) 49 s b)) (h2 : (¬ pP s) → Q (none) (I)) : EvM d 97 [rf 47, nt s, nt b] I Q := by
  refine EvM.go [] (T := T_97) rfl rfl rfl rfl ?_
  conv => whnf
  repeat' first
    | (refine brI (fun _ => ?_) (fun _ => ?_) <;> conv => whnf)
    | (refine ⟨by omega, x179 (fun _ => ?_) (fun _ => ?_)⟩ <;> conv => whnf)
    | (refine ⟨by first | exact trivial | omega, ?_⟩; conv => whnf)
  all_goals first
    | exact h0 (by omega)
    | exact h1 (by omega)
    | exact h2 (by omega)
    | (exfalso; omega)

theorem x99 {d : Nat} {s i : Int} {I : ME} {Q : Option MV → ME → Prop} (hd : 4 ≤ d) (hy0 : i ≤ 9000000000) (hy1 : ∀ s, rwC I s → I 51 s ≤ 60) (h0 : (plC I s i 1) → Q (some (lg (I 52 (s * 60 + i)))) (I)) (h1 : (¬ plC I s i 1) → Q (some (lg (0))) (I)) : EvM d 99 [rf 47, nt s, lg i] I Q := by
  refine EvM.go [] (T := T_99) rfl rfl rfl rfl ?_
  conv => whnf
  have mzl : rwC I s → I 51 s ≤ 60 := hy1 s
  repeat' first
    | (simp (disch := omega) only [l2i_e, iml_e, iad_e])
    | (refine brI (fun _ => ?_) (fun _ => ?_) <;> conv => whnf)
    | (refine ⟨by omega, x96 (by omega) (by first | assumption | omega) (by first | assumption | omega) (fun _ => ?_) (fun _ => ?_)⟩ <;> conv => whnf)
    | (refine ⟨by first | exact trivial | omega, ?_⟩; conv => whnf)
  all_goals first
    | exact h0 (by omega)
    | exact h1 (by omega)
    | (have mzf := h0 (by omega); simp (disch := omega) only [l2i_e, iml_e, iad_e] at mzf ⊢; exact mzf)
    | (have mzf := h1 (by omega); simp (disch := omega) only [l2i_e, iml_e, iad_e] at mzf ⊢; exact mzf)
    | (exfalso; omega)

theorem x101 {d : Nat} {s v : Int} {I : ME} {Q : Option MV → ME → Prop} (h0 : (s = 0) → Q (some (lg (i2b_ (l2i_ v)))) (I)) (h1 : (s = 1) → Q (some (lg (i2s_ (l2i_ v)))) (I)) (h2 : (s = 2) → Q (some (lg (l2i_ v))) (I)) (h3 : (s = 3) → Q (some (lg (v))) (I)) (h4 : (¬ (0 ≤ s ∧ s ≤ 3) ∧ v = 0) → Q (some (lg (0))) (I)) (h5 : (¬ (0 ≤ s ∧ s ≤ 3) ∧ v ≠ 0) → Q (some (lg (1))) (I)) : EvM d 101 [nt s, lg v] I Q := by
  refine EvM.go [] (T := T_101) rfl rfl rfl rfl ?_
  conv => whnf
  repeat' first
    | (refine brI (fun mzq => ?_) (fun mzq => ?_) <;> (first | rw [lcm_lt] at mzq | rw [lcm_gt] at mzq | rw [lcm_0] at mzq | skip) <;> conv => whnf)
    | (refine ⟨by first | exact trivial | omega, ?_⟩; conv => whnf)
  all_goals first
    | exact h0 (by omega)
    | exact h1 (by omega)
    | exact h2 (by omega)
    | exact h3 (by omega)
    | exact h4 (by omega)
    | exact h5 (by omega)
    | (exfalso; omega)

