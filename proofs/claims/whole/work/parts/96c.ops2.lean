/-! OPERATIONS, more (printed by wip/whole/gen99.py) -/
def kpt (s v : Int) : Int := if s = 0 then i2b_ (l2i_ v) else if s = 1 then i2s_ (l2i_ v) else if s = 2 then l2i_ v else if s = 3 then v else if v = 0 then 0 else 1
theorem x101k {d : Nat} {s v : Int} {I : ME} {Q : Option MV → ME → Prop} (h : Q (some (lg (kpt s v))) I) : EvM d 101 [nt s, lg v] I Q := by
  unfold kpt at h
  refine x101 (fun q => ?_) (fun q => ?_) (fun q => ?_) (fun q => ?_) (fun q => ?_) (fun q => ?_)
  · rw [if_pos q] at h; exact h
  · rw [if_neg (by omega), if_pos q] at h; exact h
  · rw [if_neg (by omega), if_neg (by omega), if_pos q] at h; exact h
  · rw [if_neg (by omega), if_neg (by omega), if_neg (by omega), if_pos q] at h; exact h
  · rw [if_neg (by omega), if_neg (by omega), if_neg (by omega), if_neg (by omega), if_pos q.2] at h; exact h
  · rw [if_neg (by omega), if_neg (by omega), if_neg (by omega), if_neg (by omega), if_neg q.2] at h; exact h
theorem isb10 {w : Int} (h : -2147483648 ≤ w) (h2 : w ≤ 2147483647) : (0 ≤ isb w 10 ∧ isb w 10 < 6 ↔ 10 ≤ w ∧ w ≤ 15) ∧ (10 ≤ w → isb w 10 = w - 10) := by
  by_cases hw : -2147483638 ≤ w
  · rw [isb_e (by omega)]; omega
  · have e : isb w 10 = w - 10 + 4294967296 := by
      unfold isb i32
      rw [show Int32.ofInt (w - 10) = Int32.ofInt (w - 10 + 4294967296) from ?_, to_of32 ⟨by omega, by omega⟩]
      rw [Int32.ofInt_add, show Int32.ofInt 4294967296 = 0 from by decide, Int32.add_zero]
    rw [e]; omega
theorem idv_t2 {a b : Int} (ha : IR a) (hb : IR b) (h : b ≠ -1) : idv a b = a.tdiv b := by
  unfold idv
  rw [Int32.toInt_div_of_ne_right _ _ (fun q => h ((eq32 hb (⟨by decide, by decide⟩ : IR (-1))).mp q)), to_of32 ha, to_of32 hb]
theorem neg_dm {a n : Int} (h : -2147483648 ≤ a) (h2 : a < 0) (h3 : 1 < n ∧ n ≤ 2147483647) : idv a n ≤ 0 ∧ irm a n ≤ 0 := by
  have hb : IR n := ⟨by omega, h3.2⟩
  have ha : IR a := ⟨h, by omega⟩
  have e1 := idv_t2 ha hb (by omega)
  have e2 : a.tdiv n = -((-a) / n) := by rw [← Int.tdiv_eq_ediv_of_nonneg (by omega), Int.neg_tdiv, Int.neg_neg]
  have e4 : 0 ≤ (-a) / n := Int.ediv_nonneg (by omega) (by omega)
  have e5 : (-a) / n * n ≤ -a := Int.ediv_mul_le (-a) (by omega)
  have e6 := Int.lt_ediv_add_one_mul_self (-a) (show 0 < n by omega)
  have e3 : irm a n = a.tmod n := by
    unfold irm
    unfold idv at e1
    rw [Int32.toInt_sub, Int32.toInt_mul, e1, to_of32 ha, to_of32 hb, Int.sub_bmod_bmod]
    have e7 := Int.tmod_def a n
    rw [show a - a.tdiv n * n = a.tmod n by rw [e7, Int.mul_comm]]
    have h8 : a.tmod n = -((-a) % n) := by rw [← Int.tmod_eq_emod_of_nonneg (by omega), Int.neg_tmod, Int.neg_neg]
    have h9 := Int.emod_nonneg (-a) (show n ≠ 0 by omega)
    have h10 := Int.emod_lt_of_pos (-a) (show 0 < n by omega)
    exact Int.bmod_eq_of_le (by omega) (by omega)
  refine ⟨by rw [e1, e2]; omega, ?_⟩
  rw [e3, Int.tmod_def, e2, Int.mul_neg, Int.sub_neg, Int.mul_comm]
  omega
theorem x133 {d : Nat} {n w : Int} {I : ME} {Q : Option MV → ME → Prop} (hd : 4 ≤ d) (hy0 : n ≤ 2147483647) (hy1 : I 1 5 ≤ 12) (h0 : (w = 10 ∧ inC I n) → Q (some (nt (1))) (I)) (h1 : (w = 10 ∧ tkC I n ∧ ¬ hasb (I 1 6) n) → Q (some (nt (0))) (I)) (h2 : (w = 11 ∧ pP n) → Q (some (nt (I 6 n))) (I)) (h3 : (tlC I n w ∧ w = 0) → Q (some (nt (I 2 (8 * (n / 10) + n % 10)))) (I)) (h4 : (tlC I n w ∧ w = 1) → Q (some (nt (I 3 n))) (I)) (h5 : (tlC I n w ∧ w = 2) → Q (some (nt (I 4 n))) (I)) (h6 : (tlC I n w ∧ w = 3) → Q (some (nt (I 5 n))) (I)) (h7 : (¬ tlC I n w ∧ ¬ (w = 10 ∧ tkC I n) ∧ ¬ (w = 11 ∧ pP n)) → Q (some (nt (-2000000000))) (I)) : EvM d 133 [rf 0, nt n, nt w] I Q := by
  refine EvM.go [] (T := T_133) rfl rfl rfl rfl ?_
  conv => whnf
  repeat' first
    | (refine brI (fun _ => ?_) (fun _ => ?_) <;> conv => whnf)
    | (refine ⟨by omega, x36 (fun _ => ?_) (fun _ => ?_)⟩ <;> conv => whnf)
    | (refine ⟨by omega, x37 (by omega) (fun _ => ?_) (fun _ => ?_)⟩ <;> conv => whnf)
    | (refine ⟨by omega, x175 (fun _ => ?_) (fun _ => ?_)⟩ <;> conv => whnf)
    | (refine ⟨by omega, x51 (by omega) (fun _ => ?_) (fun _ => ?_)⟩ <;> conv => whnf)
    | (refine ⟨by omega, x59 (by omega) (by first | assumption | omega | (simp (disch := omega) only [up_eq, up_c, up_ne]; omega)) (by first | assumption | omega | (simp (disch := omega) only [up_eq, up_c, up_ne]; omega)) (fun _ => ?_) (fun _ => ?_) (fun _ => ?_) (fun _ => ?_) (fun _ => ?_)⟩ <;> conv => whnf)
    | (refine ⟨by first | exact trivial | omega, ?_⟩; conv => whnf)
  all_goals first
    | exact h0 (by omega)
    | exact h1 (by omega)
    | exact h2 (by omega)
    | exact h3 (by omega)
    | exact h4 (by omega)
    | exact h5 (by omega)
    | exact h6 (by omega)
    | exact h7 (by omega)
    | (exfalso; omega)

theorem x105 {d : Nat} {l : Int} {I : ME} {Q : Option MV → ME → Prop} (hy0 : 0 ≤ I 14 2) (h0 : (120 ≤ I 14 2) → Q (some (nt (-3))) (I)) (h1 : (I 14 2 < 120) → Q (some (nt (iad (I 14 2) 1))) (upd_ (upd_ I 14 2 (iad (I 14 2) 1)) 15 (I 14 2) l)) : EvM d 105 [rf 14, nt l] I Q := by
  refine EvM.go [] (T := T_105) rfl rfl rfl rfl ?_
  conv => whnf
  repeat' first
    | (simp (disch := omega) only [up_eq, up_c])
    | (refine brI (fun _ => ?_) (fun _ => ?_) <;> conv => whnf)
    | (refine ⟨by first | exact trivial | omega, ?_⟩; conv => whnf)
  all_goals first
    | exact h0 (by omega)
    | exact h1 (by omega)
    | (have mzf := h0 (by omega); simp (disch := omega) only [up_eq, up_c] at mzf ⊢; exact mzf)
    | (have mzf := h1 (by omega); simp (disch := omega) only [up_eq, up_c] at mzf ⊢; exact mzf)
    | (exfalso; omega)

theorem x134 {d : Nat} {l : Int} {I : ME} {Q : Option MV → ME → Prop} (hd : 1 ≤ d) (hy0 : 0 ≤ I 14 2) (h0 : (¬ (0 ≤ l ∧ l ≤ 255)) → Q (some (nt (-1))) (I)) (h1 : ((0 ≤ l ∧ l ≤ 255) ∧ 120 ≤ I 14 2) → Q (some (nt (-3))) (I)) (h2 : ((0 ≤ l ∧ l ≤ 255) ∧ I 14 2 < 120) → Q (some (nt (iad (I 14 2) 1))) (upd_ (upd_ I 14 2 (iad (I 14 2) 1)) 15 (I 14 2) l)) : EvM d 134 [rf 0, nt l] I Q := by
  refine EvM.go [] (T := T_134) rfl rfl rfl rfl ?_
  conv => whnf
  repeat' first
    | (refine brI (fun _ => ?_) (fun _ => ?_) <;> conv => whnf)
    | (refine ⟨by omega, x105 (by first | assumption | omega | (simp (disch := omega) only [up_eq, up_c, up_ne]; omega)) (fun _ => ?_) (fun _ => ?_)⟩ <;> conv => whnf)
    | (refine ⟨by first | exact trivial | omega, ?_⟩; conv => whnf)
  all_goals first
    | exact h0 (by omega)
    | exact h1 (by omega)
    | exact h2 (by omega)
    | (exfalso; omega)

theorem x157 {d : Nat} {t k : Int} {I : ME} {Q : Option MV → ME → Prop} (hd : 2 ≤ d) (hy0 : I 1 5 ≤ 12) (h0 : (¬ (tkC I t ∧ pH k)) → Q (some (nt (-2000000000))) (I)) (h1 : (tkC I t ∧ pH k ∧ ¬ hasb (I 1 6) t) → Q (some (nt (-5))) (I)) (h2 : (inC I t ∧ pH k) → Q (some (nt (I 4 t))) (upd_ I 4 t k)) : EvM d 157 [rf 0, nt t, nt k] I Q := by
  refine EvM.go [] (T := T_157) rfl rfl rfl rfl ?_
  conv => whnf
  repeat' first
    | (refine brI (fun _ => ?_) (fun _ => ?_) <;> conv => whnf)
    | (refine ⟨by omega, x36 (fun _ => ?_) (fun _ => ?_)⟩ <;> conv => whnf)
    | (refine ⟨by omega, x176 (by omega) (fun _ => ?_) (fun _ => ?_)⟩ <;> conv => whnf)
    | (refine ⟨by omega, x37 (by omega) (fun _ => ?_) (fun _ => ?_)⟩ <;> conv => whnf)
    | (refine ⟨by omega, x44 (by omega) (by first | assumption | omega | (simp (disch := omega) only [up_eq, up_c, up_ne]; omega)) (fun _ => ?_) (fun _ => ?_)⟩ <;> conv => whnf)
    | (refine ⟨by omega, x45 (by omega) (by first | assumption | omega | (simp (disch := omega) only [up_eq, up_c, up_ne]; omega)) (fun _ => ?_) (fun _ => ?_)⟩ <;> conv => whnf)
    | (refine ⟨by first | exact trivial | omega, ?_⟩; conv => whnf)
  all_goals first
    | exact h0 (by omega)
    | exact h1 (by omega)
    | exact h2 (by omega)
    | (exfalso; omega)

theorem x20 {d : Nat} {a b : Int} {I : ME} {Q : Option MV → ME → Prop} (hd : 1 ≤ d) (h0 : Q (none) (upd_ (upd_ I 1 6 (sdf (I 1 6) (iro (isl 1 a) (isl 1 b)))) 35 1 (iad (I 35 1) 2))) : EvM d 20 [rf 34, nt a, nt b] I Q := by
  refine EvM.go [] (T := T_20) rfl rfl rfl rfl ?_
  conv => whnf
  repeat' first
    | (simp (disch := omega) only [up_c])
    | (refine brI (fun _ => ?_) (fun _ => ?_) <;> conv => whnf)
    | (refine ⟨by omega, x40 ?_⟩ <;> conv => whnf)
    | (refine ⟨by first | exact trivial | omega, ?_⟩; conv => whnf)
  all_goals first
    | exact h0
    | (have mzf := h0; simp (disch := omega) only [up_c] at mzf ⊢; exact mzf)
    | (exfalso; omega)

theorem x158 {d : Nat} {n : Int} {I : ME} {Q : Option MV → ME → Prop} (hd : 3 ≤ d) (hy0 : 0 ≤ I 1 6) (hy1 : I 1 6 < 4096) (hy2 : I 1 5 ≤ 12) (h0 : (¬ ((idv n 20 < irm n 20) ∧ tkC I (idv n 20) ∧ tkC I (irm n 20))) → Q (some (nt (-1))) (I)) (h1 : (((idv n 20 < irm n 20) ∧ tkC I (idv n 20) ∧ tkC I (irm n 20)) ∧ ¬ (inC I (idv n 20) ∧ inC I (irm n 20) ∧ idv n 20 ≠ irm n 20 ∧ I 3 (idv n 20) = I 3 (irm n 20) ∧ I 4 (idv n 20) = I 4 (irm n 20) ∧ I 4 (idv n 20) ≠ -1)) → Q (some (nt (-5))) (I)) (h2 : (((idv n 20 < irm n 20) ∧ tkC I (idv n 20) ∧ tkC I (irm n 20)) ∧ (inC I (idv n 20) ∧ inC I (irm n 20) ∧ idv n 20 ≠ irm n 20 ∧ I 3 (idv n 20) = I 3 (irm n 20) ∧ I 4 (idv n 20) = I 4 (irm n 20) ∧ I 4 (idv n 20) ≠ -1)) → Q (some (nt (pI (sdf (I 1 6) (iro (isl 1 (idv n 20)) (isl 1 (irm n 20))))))) (upd_ (upd_ I 1 6 (sdf (I 1 6) (iro (isl 1 (idv n 20)) (isl 1 (irm n 20))))) 35 1 (iad (I 35 1) 2))) : EvM d 158 [rf 0, nt n] I Q := by
  refine EvM.go [] (T := T_158) rfl rfl rfl rfl ?_
  conv => whnf
  have mzs : 0 ≤ idv n 20 → idv n 20 < 12 → 0 ≤ irm n 20 → irm n 20 < 12 → 0 ≤ sdf (I 1 6) (iro (isl 1 (idv n 20)) (isl 1 (irm n 20))) ∧ sdf (I 1 6) (iro (isl 1 (idv n 20)) (isl 1 (irm n 20))) < 4096 := fun a b c e => by
    have i1 := (isl_b a b).1
    have i2 := (isl_b c e).1
    have i3 := (iro_b (s := isl 1 (idv n 20)) (b := isl 1 (irm n 20)) (by omega) i1.2 (by omega) i2.2).1
    have i4 := (sdf_b hy0 hy1 i3.1 (by omega)).1
    omega
  repeat' first
    | (simp (disch := omega) only [up_eq, up_c, up_ne])
    | (refine brI (fun _ => ?_) (fun _ => ?_) <;> conv => whnf)
    | (refine ⟨by omega, x36 (fun _ => ?_) (fun _ => ?_)⟩ <;> conv => whnf)
    | (refine ⟨by omega, x55 (by omega) (by first | assumption | omega | (simp (disch := omega) only [up_eq, up_c, up_ne]; omega)) (fun _ => ?_) (fun _ => ?_)⟩ <;> conv => whnf)
    | (refine ⟨by omega, x20 (by omega) ?_⟩ <;> conv => whnf)
    | (refine ⟨by omega, x39 (by omega) (by first | assumption | omega | (simp (disch := omega) only [up_eq, up_c, up_ne]; omega)) (by first | assumption | omega | (simp (disch := omega) only [up_eq, up_c, up_ne]; omega)) ?_⟩ <;> conv => whnf)
    | (refine ⟨by first | exact trivial | omega, ?_⟩; conv => whnf)
  all_goals first
    | exact h0 (by omega)
    | exact h1 (by omega)
    | exact h2 (by omega)
    | (have mzf := h0 (by omega); simp (disch := omega) only [up_eq, up_c, up_ne] at mzf ⊢; exact mzf)
    | (have mzf := h1 (by omega); simp (disch := omega) only [up_eq, up_c, up_ne] at mzf ⊢; exact mzf)
    | (have mzf := h2 (by omega); simp (disch := omega) only [up_eq, up_c, up_ne] at mzf ⊢; exact mzf)
    | (exfalso; omega)

theorem x22 {d : Nat} {w : Int} {I : ME} {Q : Option MV → ME → Prop} (hd : 1 ≤ d) (hy0 : -2147483648 ≤ w) (hy1 : w ≤ 2147483647) (h0 : (0 ≤ w ∧ w ≤ 2) → Q (some (nt (I 35 w))) (I)) (h1 : (10 ≤ w ∧ w ≤ 15) → Q (some (nt (I 35 (3 + (w - 10))))) (I)) (h2 : (¬ (0 ≤ w ∧ w ≤ 2) ∧ ¬ (10 ≤ w ∧ w ≤ 15)) → Q (some (nt (-2000000000))) (I)) : EvM d 22 [rf 34, nt w] I Q := by
  refine EvM.go [] (T := T_22) rfl rfl rfl rfl ?_
  conv => whnf
  have mzp := isb10 hy0 hy1
  repeat' first
    | (simp (disch := omega) only [iad_e, isb_e])
    | (refine brI (fun _ => ?_) (fun _ => ?_) <;> conv => whnf)
    | (refine ⟨by omega, x175 (fun _ => ?_) (fun _ => ?_)⟩ <;> conv => whnf)
    | (refine ⟨by first | exact trivial | omega, ?_⟩; conv => whnf)
  all_goals first
    | exact h0 (by omega)
    | exact h1 (by omega)
    | exact h2 (by omega)
    | (have mzf := h0 (by omega); simp (disch := omega) only [iad_e, isb_e] at mzf ⊢; exact mzf)
    | (have mzf := h1 (by omega); simp (disch := omega) only [iad_e, isb_e] at mzf ⊢; exact mzf)
    | (have mzf := h2 (by omega); simp (disch := omega) only [iad_e, isb_e] at mzf ⊢; exact mzf)
    | (exfalso; omega)
    | (rw [show (3 : Int) + (w - 10) = 3 + w - 10 by omega] at h1; exact h1 (by omega))

theorem x160 {d : Nat} {w : Int} {I : ME} {Q : Option MV → ME → Prop} (hd : 2 ≤ d) (hy0 : -2147483648 ≤ w) (hy1 : w ≤ 2147483647) (h0 : (0 ≤ w ∧ w ≤ 2) → Q (some (nt (I 35 w))) (I)) (h1 : (10 ≤ w ∧ w ≤ 15) → Q (some (nt (I 35 (3 + (w - 10))))) (I)) (h2 : (¬ (0 ≤ w ∧ w ≤ 2) ∧ ¬ (10 ≤ w ∧ w ≤ 15)) → Q (some (nt (-2000000000))) (I)) : EvM d 160 [rf 0, nt w] I Q := by
  refine EvM.go [] (T := T_160) rfl rfl rfl rfl ?_
  conv => whnf
  repeat' first
    | (refine brI (fun _ => ?_) (fun _ => ?_) <;> conv => whnf)
    | (refine ⟨by omega, x22 (by omega) (by first | assumption | omega | (simp (disch := omega) only [up_eq, up_c, up_ne]; omega)) (by first | assumption | omega | (simp (disch := omega) only [up_eq, up_c, up_ne]; omega)) (fun _ => ?_) (fun _ => ?_) (fun _ => ?_)⟩ <;> conv => whnf)
    | (refine ⟨by first | exact trivial | omega, ?_⟩; conv => whnf)
  all_goals first
    | exact h0 (by omega)
    | exact h1 (by omega)
    | exact h2 (by omega)
    | (exfalso; omega)

theorem x1 {d : Nat} {k : Int} {I : ME} {Q : Option MV → ME → Prop} (h0 : (0 ≤ k ∧ k < 8) → Q (some (nt 1)) (I)) (h1 : ¬ (0 ≤ k ∧ k < 8) → Q (some (nt 0)) (I)) : EvM d 1 [nt k] I Q := by
  refine EvM.go [] (T := T_1) rfl rfl rfl rfl ?_
  conv => whnf
  repeat' first
    | (refine brI (fun _ => ?_) (fun _ => ?_) <;> conv => whnf)
    | (refine ⟨by first | exact trivial | omega, ?_⟩; conv => whnf)
  all_goals first
    | exact h0 (by omega)
    | exact h1 (by omega)
    | (exfalso; omega)

theorem x3 {d : Nat} {k : Int} {I : ME} {Q : Option MV → ME → Prop} (hy0 : 0 ≤ I 44 2) (hy1 : I 44 2 ≤ 50) (h0 : (50 ≤ I 44 2) → Q (some (nt (-3))) (I)) (h1 : (I 44 2 < 50) → Q (some (nt (I 44 2))) (upd_ (upd_ I 45 (I 44 2) k) 44 2 (iad (I 44 2) 1))) : EvM d 3 [rf 44, nt k] I Q := by
  refine EvM.go [] (T := T_3) rfl rfl rfl rfl ?_
  conv => whnf
  repeat' first
    | (simp (disch := omega) only [up_c])
    | (refine brI (fun _ => ?_) (fun _ => ?_) <;> conv => whnf)
    | (refine ⟨by first | exact trivial | omega, ?_⟩; conv => whnf)
  all_goals first
    | exact h0 (by omega)
    | exact h1 (by omega)
    | (have mzf := h0 (by omega); simp (disch := omega) only [up_c] at mzf ⊢; exact mzf)
    | (have mzf := h1 (by omega); simp (disch := omega) only [up_c] at mzf ⊢; exact mzf)
    | (exfalso; omega)

theorem x165 {d : Nat} {k : Int} {I : ME} {Q : Option MV → ME → Prop} (hd : 1 ≤ d) (hy0 : 0 ≤ I 44 2) (hy1 : I 44 2 ≤ 50) (h0 : (¬ (0 ≤ k ∧ k < 8)) → Q (some (nt (-1))) (I)) (h1 : ((0 ≤ k ∧ k < 8) ∧ 50 ≤ I 44 2) → Q (some (nt (-3))) (I)) (h2 : ((0 ≤ k ∧ k < 8) ∧ I 44 2 < 50) → Q (some (nt (I 44 2))) (upd_ (upd_ I 45 (I 44 2) k) 44 2 (iad (I 44 2) 1))) : EvM d 165 [rf 0, nt k] I Q := by
  refine EvM.go [] (T := T_165) rfl rfl rfl rfl ?_
  conv => whnf
  repeat' first
    | (refine brI (fun _ => ?_) (fun _ => ?_) <;> conv => whnf)
    | (refine ⟨by omega, x1 (fun _ => ?_) (fun _ => ?_)⟩ <;> conv => whnf)
    | (refine ⟨by omega, x3 (by first | assumption | omega | (simp (disch := omega) only [up_eq, up_c, up_ne]; omega)) (by first | assumption | omega | (simp (disch := omega) only [up_eq, up_c, up_ne]; omega)) (fun _ => ?_) (fun _ => ?_)⟩ <;> conv => whnf)
    | (refine ⟨by first | exact trivial | omega, ?_⟩; conv => whnf)
  all_goals first
    | exact h0 (by omega)
    | exact h1 (by omega)
    | exact h2 (by omega)
    | (exfalso; omega)

theorem x8 {d : Nat} {i : Int} {I : ME} {Q : Option MV → ME → Prop} (h0 : (0 ≤ i ∧ i < I 44 3 ∧ i < 24) → Q (some (nt (I 46 i))) (I)) (h1 : (¬ (0 ≤ i ∧ i < I 44 3 ∧ i < 24)) → Q (some (nt (-1))) (I)) : EvM d 8 [rf 44, nt i] I Q := by
  refine EvM.go [] (T := T_8) rfl rfl rfl rfl ?_
  conv => whnf
  repeat' first
    | (refine brI (fun _ => ?_) (fun _ => ?_) <;> conv => whnf)
    | (refine ⟨by first | exact trivial | omega, ?_⟩; conv => whnf)
  all_goals first
    | exact h0 (by omega)
    | exact h1 (by omega)
    | (exfalso; omega)

theorem x167 {d : Nat} {i : Int} {I : ME} {Q : Option MV → ME → Prop} (hd : 1 ≤ d) (h0 : (0 ≤ i ∧ i < I 44 3 ∧ i < 24) → Q (some (nt (I 46 i))) (I)) (h1 : (¬ (0 ≤ i ∧ i < I 44 3 ∧ i < 24)) → Q (some (nt (-1))) (I)) : EvM d 167 [rf 0, nt i] I Q := by
  refine EvM.go [] (T := T_167) rfl rfl rfl rfl ?_
  conv => whnf
  repeat' first
    | (refine brI (fun _ => ?_) (fun _ => ?_) <;> conv => whnf)
    | (refine ⟨by omega, x8 (fun _ => ?_) (fun _ => ?_)⟩ <;> conv => whnf)
    | (refine ⟨by first | exact trivial | omega, ?_⟩; conv => whnf)
  all_goals first
    | exact h0 (by omega)
    | exact h1 (by omega)
    | (exfalso; omega)

theorem x4 {d : Nat} {b : Int} {I : ME} {Q : Option MV → ME → Prop} (h0 : (0 ≤ b ∧ b < I 44 2) → Q (some (nt 1)) (I)) (h1 : ¬ (0 ≤ b ∧ b < I 44 2) → Q (some (nt 0)) (I)) : EvM d 4 [rf 44, nt b] I Q := by
  refine EvM.go [] (T := T_4) rfl rfl rfl rfl ?_
  conv => whnf
  repeat' first
    | (refine brI (fun _ => ?_) (fun _ => ?_) <;> conv => whnf)
    | (refine ⟨by first | exact trivial | omega, ?_⟩; conv => whnf)
  all_goals first
    | exact h0 (by omega)
    | exact h1 (by omega)
    | (exfalso; omega)

theorem x5 {d : Nat} {b : Int} {I : ME} {Q : Option MV → ME → Prop} (hd : 1 ≤ d) (hy0 : I 44 2 ≤ 50) (h0 : (0 ≤ b ∧ b < I 44 2) → Q (some (nt (I 45 b))) (I)) (h1 : (¬ (0 ≤ b ∧ b < I 44 2)) → Q (some (nt (-2))) (I)) : EvM d 5 [rf 44, nt b] I Q := by
  refine EvM.go [] (T := T_5) rfl rfl rfl rfl ?_
  conv => whnf
  repeat' first
    | (refine brI (fun _ => ?_) (fun _ => ?_) <;> conv => whnf)
    | (refine ⟨by omega, x4 (fun _ => ?_) (fun _ => ?_)⟩ <;> conv => whnf)
    | (refine ⟨by first | exact trivial | omega, ?_⟩; conv => whnf)
  all_goals first
    | exact h0 (by omega)
    | exact h1 (by omega)
    | (exfalso; omega)

theorem x168 {d : Nat} {s b : Int} {I : ME} {Q : Option MV → ME → Prop} (hd : 2 ≤ d) (h0 : (¬ (pP s ∧ (b = -1 ∨ (0 ≤ b ∧ b < I 44 2)))) → Q (some (nt (-1))) (I)) (h1 : (pP s ∧ b = -1) → Q (some (nt (1))) (upd_ (upd_ I 48 s 0) 49 s b)) (h2 : (pP s ∧ 0 ≤ b ∧ b < I 44 2) → Q (some (nt (1))) (upd_ (upd_ I 48 s 1) 49 s b)) : EvM d 168 [rf 0, nt s, nt b] I Q := by
  refine EvM.go [] (T := T_168) rfl rfl rfl rfl ?_
  conv => whnf
  repeat' first
    | (refine brI (fun _ => ?_) (fun _ => ?_) <;> conv => whnf)
    | (refine ⟨by omega, x179 (fun _ => ?_) (fun _ => ?_)⟩ <;> conv => whnf)
    | (refine ⟨by omega, x4 (fun _ => ?_) (fun _ => ?_)⟩ <;> conv => whnf)
    | (refine ⟨by omega, x97 (by omega) (fun _ => ?_) (fun _ => ?_) (fun _ => ?_)⟩ <;> conv => whnf)
    | (refine ⟨by first | exact trivial | omega, ?_⟩; conv => whnf)
  all_goals first
    | exact h0 (by omega)
    | exact h1 (by omega)
    | exact h2 (by omega)
    | (exfalso; omega)

theorem x180 {d : Nat} {s : Int} {I : ME} {Q : Option MV → ME → Prop} (hd : 3 ≤ d) (h0 : (¬ pP s) → Q (some (nt (-1))) (I)) (h1 : (pP s ∧ I 48 s = 0) → Q (some (nt (-11))) (I)) (h2 : (rwC I s ∧ I 50 s = 0) → Q (some (nt (0))) (I)) (h3 : (pP s ∧ I 48 s ≠ 0 ∧ ¬ (I 48 s = 2 ∧ I 50 s = 0)) → Q (some (nt (-12))) (I)) : EvM d 180 [rf 0, nt s] I Q := by
  refine EvM.go [] (T := T_180) rfl rfl rfl rfl ?_
  conv => whnf
  repeat' first
    | (refine brI (fun _ => ?_) (fun _ => ?_) <;> conv => whnf)
    | (refine ⟨by omega, x179 (fun _ => ?_) (fun _ => ?_)⟩ <;> conv => whnf)
    | (refine ⟨by omega, x90 (by omega) (fun _ => ?_) (fun _ => ?_)⟩ <;> conv => whnf)
    | (refine ⟨by omega, x92 (by omega) (fun _ => ?_) (fun _ => ?_)⟩ <;> conv => whnf)
    | (refine ⟨by first | exact trivial | omega, ?_⟩; conv => whnf)
  all_goals first
    | exact h0 (by omega)
    | exact h1 (by omega)
    | exact h2 (by omega)
    | exact h3 (by omega)
    | (exfalso; omega)

theorem x181 {d : Nat} {s i n : Int} {I : ME} {Q : Option MV → ME → Prop} (hd : 4 ≤ d) (hy0 : i ≤ 2147483647) (hy1 : n ≤ 2147483647) (h0 : (¬ pP s) → Q (some (nt (-1))) (I)) (h1 : (pP s ∧ I 48 s = 0) → Q (some (nt (-11))) (I)) (h2 : (pP s ∧ I 48 s ≠ 0 ∧ I 48 s ≠ 2) → Q (some (nt (-12))) (I)) (h3 : (rwC I s ∧ (0 ≤ i ∧ 0 ≤ n ∧ i + n ≤ I 51 s)) → Q (some (nt (0))) (I)) (h4 : (rwC I s ∧ ¬ (0 ≤ i ∧ 0 ≤ n ∧ i + n ≤ I 51 s)) → Q (some (nt (-13))) (I)) : EvM d 181 [rf 0, nt s, nt i, nt n] I Q := by
  refine EvM.go [] (T := T_181) rfl rfl rfl rfl ?_
  conv => whnf
  repeat' first
    | (refine brI (fun _ => ?_) (fun _ => ?_) <;> conv => whnf)
    | (refine ⟨by omega, x179 (fun _ => ?_) (fun _ => ?_)⟩ <;> conv => whnf)
    | (refine ⟨by omega, x90 (by omega) (fun _ => ?_) (fun _ => ?_)⟩ <;> conv => whnf)
    | (refine ⟨by omega, x91 (by omega) (fun _ => ?_) (fun _ => ?_)⟩ <;> conv => whnf)
    | (refine ⟨by omega, x96 (by omega) (by first | assumption | omega | (simp (disch := omega) only [up_eq, up_c, up_ne]; omega)) (by first | assumption | omega | (simp (disch := omega) only [up_eq, up_c, up_ne]; omega)) (fun _ => ?_) (fun _ => ?_)⟩ <;> conv => whnf)
    | (refine ⟨by first | exact trivial | omega, ?_⟩; conv => whnf)
  all_goals first
    | exact h0 (by omega)
    | exact h1 (by omega)
    | exact h2 (by omega)
    | exact h3 (by omega)
    | exact h4 (by omega)
    | (exfalso; omega)

theorem x100 {d : Nat} {s i v : Int} {I : ME} {Q : Option MV → ME → Prop} (hd : 4 ≤ d) (hy0 : i ≤ 2147483647) (hy1 : ∀ s, rwC I s → I 51 s ≤ 60) (h0 : (plC I s i 1) → Q (none) (upd_ I 52 (s * 60 + i) (kpt (I 50 s) v))) (h1 : ¬ (plC I s i 1) → Q (none) (I)) : EvM d 100 [rf 47, nt s, nt i, lg v] I Q := by
  refine EvM.go [] (T := T_100) rfl rfl rfl rfl ?_
  conv => whnf
  have mzl : rwC I s → I 51 s ≤ 60 := hy1 s
  repeat' first
    | (simp (disch := omega) only [iml_e, iad_e])
    | (refine brI (fun _ => ?_) (fun _ => ?_) <;> conv => whnf)
    | (refine ⟨by omega, x96 (by omega) (by first | assumption | omega | (simp (disch := omega) only [up_eq, up_c, up_ne]; omega)) (by first | assumption | omega | (simp (disch := omega) only [up_eq, up_c, up_ne]; omega)) (fun _ => ?_) (fun _ => ?_)⟩ <;> conv => whnf)
    | (refine ⟨by omega, x101k ?_⟩ <;> conv => whnf)
    | (refine ⟨by first | exact trivial | omega, ?_⟩; conv => whnf)
  all_goals first
    | exact h0 (by omega)
    | exact h1 (by omega)
    | (have mzf := h0 (by omega); simp (disch := omega) only [iml_e, iad_e] at mzf ⊢; exact mzf)
    | (have mzf := h1 (by omega); simp (disch := omega) only [iml_e, iad_e] at mzf ⊢; exact mzf)
    | (exfalso; omega)

theorem x170 {d : Nat} {s i v : Int} {I : ME} {Q : Option MV → ME → Prop} (hd : 5 ≤ d) (hy0 : i ≤ 2147483647) (hy1 : ∀ s, rwC I s → I 51 s ≤ 60) (h0 : (¬ pP s) → Q (some (nt (-1))) (I)) (h1 : (pP s ∧ I 48 s = 0) → Q (some (nt (-11))) (I)) (h2 : (pP s ∧ I 48 s ≠ 0 ∧ I 48 s ≠ 2) → Q (some (nt (-12))) (I)) (h3 : (rwC I s ∧ (0 ≤ i ∧ i + 1 ≤ I 51 s)) → Q (some (nt (1))) (upd_ I 52 (s * 60 + i) (kpt (I 50 s) v))) (h4 : (rwC I s ∧ ¬ (0 ≤ i ∧ i + 1 ≤ I 51 s)) → Q (some (nt (-13))) (I)) : EvM d 170 [rf 0, nt s, nt i, lg v] I Q := by
  refine EvM.go [] (T := T_170) rfl rfl rfl rfl ?_
  conv => whnf
  repeat' first
    | (refine brI (fun _ => ?_) (fun _ => ?_) <;> conv => whnf)
    | (refine ⟨by omega, x181 (by omega) (by first | assumption | omega | (simp (disch := omega) only [up_eq, up_c, up_ne]; omega)) (by first | assumption | omega | (simp (disch := omega) only [up_eq, up_c, up_ne]; omega)) (fun _ => ?_) (fun _ => ?_) (fun _ => ?_) (fun _ => ?_) (fun _ => ?_)⟩ <;> conv => whnf)
    | (refine ⟨by omega, x100 (by omega) (by first | assumption | omega | (simp (disch := omega) only [up_eq, up_c, up_ne]; omega)) (by first | assumption | omega | (simp (disch := omega) only [up_eq, up_c, up_ne]; omega)) (fun _ => ?_) (fun _ => ?_)⟩ <;> conv => whnf)
    | (refine ⟨by first | exact trivial | omega, ?_⟩; conv => whnf)
  all_goals first
    | exact h0 (by omega)
    | exact h1 (by omega)
    | exact h2 (by omega)
    | exact h3 (by omega)
    | exact h4 (by omega)
    | (exfalso; omega)

theorem x171 {d : Nat} {s i : Int} {I : ME} {Q : Option MV → ME → Prop} (hd : 5 ≤ d) (hy0 : i ≤ 2147483647) (hy1 : ∀ s, rwC I s → I 51 s ≤ 60) (h0 : (rwC I s ∧ (0 ≤ i ∧ i + 1 ≤ I 51 s)) → Q (some (lg (I 52 (s * 60 + i)))) (I)) (h1 : (¬ (rwC I s ∧ (0 ≤ i ∧ i + 1 ≤ I 51 s))) → Q (some (lg (-9223372036854775808))) (I)) : EvM d 171 [rf 0, nt s, nt i] I Q := by
  refine EvM.go [] (T := T_171) rfl rfl rfl rfl ?_
  conv => whnf
  repeat' first
    | (refine brI (fun _ => ?_) (fun _ => ?_) <;> conv => whnf)
    | (refine ⟨by omega, x181 (by omega) (by first | assumption | omega | (simp (disch := omega) only [up_eq, up_c, up_ne]; omega)) (by first | assumption | omega | (simp (disch := omega) only [up_eq, up_c, up_ne]; omega)) (fun _ => ?_) (fun _ => ?_) (fun _ => ?_) (fun _ => ?_) (fun _ => ?_)⟩ <;> conv => whnf)
    | (refine ⟨by omega, x99 (by omega) (by first | assumption | omega | (simp (disch := omega) only [up_eq, up_c, up_ne]; omega)) (by first | assumption | omega | (simp (disch := omega) only [up_eq, up_c, up_ne]; omega)) (fun _ => ?_) (fun _ => ?_)⟩ <;> conv => whnf)
    | (refine ⟨by first | exact trivial | omega, ?_⟩; conv => whnf)
  all_goals first
    | exact h0 (by omega)
    | exact h1 (by omega)
    | (exfalso; omega)

theorem x13 {d : Nat} {I : ME} {Q : Option MV → ME → Prop} (h0 : Q (some (nt (I 39 5))) (I)) : EvM d 13 [rf 39] I Q := by
  refine EvM.go [] (T := T_13) rfl rfl rfl rfl ?_
  conv => whnf
  repeat' first
    | (refine brI (fun _ => ?_) (fun _ => ?_) <;> conv => whnf)
    | (refine ⟨by first | exact trivial | omega, ?_⟩; conv => whnf)
  all_goals first
    | exact h0
    | (exfalso; omega)

theorem x104 {d : Nat} {I : ME} {Q : Option MV → ME → Prop} (h0 : Q (some (nt (I 14 2))) (I)) : EvM d 104 [rf 14] I Q := by
  refine EvM.go [] (T := T_104) rfl rfl rfl rfl ?_
  conv => whnf
  repeat' first
    | (refine brI (fun _ => ?_) (fun _ => ?_) <;> conv => whnf)
    | (refine ⟨by first | exact trivial | omega, ?_⟩; conv => whnf)
  all_goals first
    | exact h0
    | (exfalso; omega)

theorem x6 {d : Nat} {I : ME} {Q : Option MV → ME → Prop} (h0 : Q (some (nt (I 44 2))) (I)) : EvM d 6 [rf 44] I Q := by
  refine EvM.go [] (T := T_6) rfl rfl rfl rfl ?_
  conv => whnf
  repeat' first
    | (refine brI (fun _ => ?_) (fun _ => ?_) <;> conv => whnf)
    | (refine ⟨by first | exact trivial | omega, ?_⟩; conv => whnf)
  all_goals first
    | exact h0
    | (exfalso; omega)

theorem x7 {d : Nat} {I : ME} {Q : Option MV → ME → Prop} (h0 : Q (some (nt (I 44 3))) (I)) : EvM d 7 [rf 44] I Q := by
  refine EvM.go [] (T := T_7) rfl rfl rfl rfl ?_
  conv => whnf
  repeat' first
    | (refine brI (fun _ => ?_) (fun _ => ?_) <;> conv => whnf)
    | (refine ⟨by first | exact trivial | omega, ?_⟩; conv => whnf)
  all_goals first
    | exact h0
    | (exfalso; omega)

theorem x174 {d : Nat} {w : Int} {I : ME} {Q : Option MV → ME → Prop} (hd : 2 ≤ d) (hy0 : 0 ≤ I 1 6) (hy1 : I 1 6 < 4096) (h0 : (w = 0) → Q (some (nt (I 1 5))) (I)) (h1 : (w = 1) → Q (some (nt (pI (I 1 6)))) (I)) (h2 : (w = 2) → Q (some (nt (I 14 2))) (I)) (h3 : (w = 3) → Q (some (nt (I 39 5))) (I)) (h4 : (w = 4) → Q (some (nt (I 44 2))) (I)) (h5 : (w = 5) → Q (some (nt (I 44 3))) (I)) (h6 : (¬ (0 ≤ w ∧ w ≤ 5)) → Q (some (nt (-1))) (I)) : EvM d 174 [rf 0, nt w] I Q := by
  refine EvM.go [] (T := T_174) rfl rfl rfl rfl ?_
  conv => whnf
  repeat' first
    | (refine brI (fun _ => ?_) (fun _ => ?_) <;> conv => whnf)
    | (refine ⟨by omega, x35 ?_⟩ <;> conv => whnf)
    | (refine ⟨by omega, x39 (by omega) (by first | assumption | omega | (simp (disch := omega) only [up_eq, up_c, up_ne]; omega)) (by first | assumption | omega | (simp (disch := omega) only [up_eq, up_c, up_ne]; omega)) ?_⟩ <;> conv => whnf)
    | (refine ⟨by omega, x104 ?_⟩ <;> conv => whnf)
    | (refine ⟨by omega, x13 ?_⟩ <;> conv => whnf)
    | (refine ⟨by omega, x6 ?_⟩ <;> conv => whnf)
    | (refine ⟨by omega, x7 ?_⟩ <;> conv => whnf)
    | (refine ⟨by first | exact trivial | omega, ?_⟩; conv => whnf)
  all_goals first
    | exact h0 (by omega)
    | exact h1 (by omega)
    | exact h2 (by omega)
    | exact h3 (by omega)
    | exact h4 (by omega)
    | exact h5 (by omega)
    | exact h6 (by omega)
    | (exfalso; omega)

theorem m205 {d : Nat} {n w : Int} {I : ME} {Q : Option MV → ME → Prop} (hd : 2 ≤ d) (hy0 : n ≤ 2147483647) (hy1 : -1 ≤ I 53 6) (hy2 : I 53 6 ≤ 12) (h0 : (w = 0 ∧ lvC n) → Q (some (nt (8 * (n / 10) + n % 10))) (I)) (h1 : ((1 ≤ w ∧ w ≤ 3) ∧ tkM I n) → Q (some (nt (48 + 3 * n + w - 1))) (I)) (h2 : (¬ (w = 0 ∧ lvC n) ∧ ¬ ((1 ≤ w ∧ w ≤ 3) ∧ tkM I n)) → Q (some (nt (-1))) (I)) : EvM d 205 [rf 53, nt n, nt w] I Q := by
  refine EvM.go [] (T := T_205) rfl rfl rfl rfl ?_
  conv => whnf
  repeat' first
    | (simp (disch := omega) only [idv_q, irm_q, iml_e, iad_e, isb_e])
    | (refine brI (fun _ => ?_) (fun _ => ?_) <;> conv => whnf)
    | (refine ⟨by omega, m195 (by omega) (fun _ => ?_) (fun _ => ?_)⟩ <;> conv => whnf)
    | (refine ⟨by omega, m196 (by omega) (fun _ => ?_) (fun _ => ?_)⟩ <;> conv => whnf)
    | (refine ⟨by omega, m187 (fun _ => ?_) (fun _ => ?_)⟩ <;> conv => whnf)
    | (refine ⟨by omega, m194 (by omega) (by first | assumption | omega | (simp (disch := omega) only [up_eq, up_c, up_ne]; omega)) (by first | assumption | omega | (simp (disch := omega) only [up_eq, up_c, up_ne]; omega)) (fun _ => ?_) (fun _ => ?_)⟩ <;> conv => whnf)
    | (refine ⟨by first | exact trivial | omega, ?_⟩; conv => whnf)
  all_goals first
    | exact h0 (by omega)
    | exact h1 (by omega)
    | exact h2 (by omega)
    | (have mzf := h0 (by omega); simp (disch := omega) only [idv_q, irm_q, iml_e, iad_e, isb_e] at mzf ⊢; exact mzf)
    | (have mzf := h1 (by omega); simp (disch := omega) only [idv_q, irm_q, iml_e, iad_e, isb_e] at mzf ⊢; exact mzf)
    | (have mzf := h2 (by omega); simp (disch := omega) only [idv_q, irm_q, iml_e, iad_e, isb_e] at mzf ⊢; exact mzf)
    | (exfalso; omega)

theorem m206 {d : Nat} {w v : Int} {I : ME} {Q : Option MV → ME → Prop} (hd : 2 ≤ d) (h0 : ((w = 0 ∧ 0 ≤ v ∧ v ≤ 99) ∨ (w = 1 ∧ pT v) ∨ (w = 2 ∧ pH v) ∨ (¬ (0 ≤ w ∧ w ≤ 2) ∧ (v = 0 ∨ v = 1))) → Q (some (nt 1)) (I)) (h1 : ¬ ((w = 0 ∧ 0 ≤ v ∧ v ≤ 99) ∨ (w = 1 ∧ pT v) ∨ (w = 2 ∧ pH v) ∨ (¬ (0 ≤ w ∧ w ≤ 2) ∧ (v = 0 ∨ v = 1))) → Q (some (nt 0)) (I)) : EvM d 206 [nt w, nt v] I Q := by
  refine EvM.go [] (T := T_206) rfl rfl rfl rfl ?_
  conv => whnf
  repeat' first
    | (refine brI (fun _ => ?_) (fun _ => ?_) <;> conv => whnf)
    | (refine ⟨by omega, m187 (fun _ => ?_) (fun _ => ?_)⟩ <;> conv => whnf)
    | (refine ⟨by omega, m196 (by omega) (fun _ => ?_) (fun _ => ?_)⟩ <;> conv => whnf)
    | (refine ⟨by first | exact trivial | omega, ?_⟩; conv => whnf)
  all_goals first
    | exact h0 (by omega)
    | exact h1 (by omega)
    | (exfalso; omega)

theorem m208 {d : Nat} {n w : Int} {I : ME} {Q : Option MV → ME → Prop} (hd : 3 ≤ d) (hy0 : n ≤ 2147483647) (hy1 : -1 ≤ I 53 6) (hy2 : I 53 6 ≤ 12) (h0 : (w = 0 ∧ lvC n) → Q (some (nt (I 54 (8 * (n / 10) + n % 10)))) (I)) (h1 : ((1 ≤ w ∧ w ≤ 3) ∧ tkM I n) → Q (some (nt (I 54 (48 + 3 * n + w - 1)))) (I)) (h2 : (w = 10 ∧ tkM I n) → Q (some (nt (ian (isr (I 53 7) n) 1))) (I)) (h3 : (w = 11 ∧ pP n) → Q (some (nt (I 58 n))) (I)) (h4 : (¬ (w = 0 ∧ lvC n) ∧ ¬ ((1 ≤ w ∧ w ≤ 3) ∧ tkM I n) ∧ ¬ (w = 10 ∧ tkM I n) ∧ ¬ (w = 11 ∧ pP n)) → Q (some (nt (-2000000000))) (I)) : EvM d 208 [rf 53, nt n, nt w] I Q := by
  refine EvM.go [] (T := T_208) rfl rfl rfl rfl ?_
  conv => whnf
  repeat' first
    | (refine brI (fun _ => ?_) (fun _ => ?_) <;> conv => whnf)
    | (refine ⟨by omega, m205 (by omega) (by first | assumption | omega | (simp (disch := omega) only [up_eq, up_c, up_ne]; omega)) (by first | assumption | omega | (simp (disch := omega) only [up_eq, up_c, up_ne]; omega)) (by first | assumption | omega | (simp (disch := omega) only [up_eq, up_c, up_ne]; omega)) (fun _ => ?_) (fun _ => ?_) (fun _ => ?_)⟩ <;> conv => whnf)
    | (refine ⟨by omega, m194 (by omega) (by first | assumption | omega | (simp (disch := omega) only [up_eq, up_c, up_ne]; omega)) (by first | assumption | omega | (simp (disch := omega) only [up_eq, up_c, up_ne]; omega)) (fun _ => ?_) (fun _ => ?_)⟩ <;> conv => whnf)
    | (refine ⟨by omega, m195 (by omega) (fun _ => ?_) (fun _ => ?_)⟩ <;> conv => whnf)
    | (refine ⟨by first | exact trivial | omega, ?_⟩; conv => whnf)
  all_goals first
    | exact h0 (by omega)
    | exact h1 (by omega)
    | exact h2 (by omega)
    | exact h3 (by omega)
    | exact h4 (by omega)
    | (exfalso; omega)

theorem m209 {d : Nat} {l : Int} {I : ME} {Q : Option MV → ME → Prop} (hd : 1 ≤ d) (hy0 : 0 ≤ I 53 11) (hy1 : I 53 11 ≤ 120) (h0 : (¬ (0 ≤ l ∧ l ≤ 255)) → Q (some (nt (-1))) (I)) (h1 : ((0 ≤ l ∧ l ≤ 255) ∧ I 53 11 = 120) → Q (some (nt (-3))) (I)) (h2 : ((0 ≤ l ∧ l ≤ 255) ∧ I 53 11 ≠ 120) → Q (some (nt (iad (I 53 11) 1))) (upd_ (upd_ I 59 (I 53 11) l) 53 11 (iad (I 53 11) 1))) : EvM d 209 [rf 53, nt l] I Q := by
  refine EvM.go [] (T := T_209) rfl rfl rfl rfl ?_
  conv => whnf
  repeat' first
    | (simp (disch := omega) only [up_eq, up_c])
    | (refine brI (fun _ => ?_) (fun _ => ?_) <;> conv => whnf)
    | (refine ⟨by omega, m187 (fun _ => ?_) (fun _ => ?_)⟩ <;> conv => whnf)
    | (refine ⟨by first | exact trivial | omega, ?_⟩; conv => whnf)
  all_goals first
    | exact h0 (by omega)
    | exact h1 (by omega)
    | exact h2 (by omega)
    | (have mzf := h0 (by omega); simp (disch := omega) only [up_eq, up_c] at mzf ⊢; exact mzf)
    | (have mzf := h1 (by omega); simp (disch := omega) only [up_eq, up_c] at mzf ⊢; exact mzf)
    | (have mzf := h2 (by omega); simp (disch := omega) only [up_eq, up_c] at mzf ⊢; exact mzf)
    | (exfalso; omega)

theorem m268 {d : Nat} {t k : Int} {I : ME} {Q : Option MV → ME → Prop} (hd : 2 ≤ d) (hy0 : -1 ≤ I 53 6) (hy1 : I 53 6 ≤ 12) (h0 : (¬ (tkM I t ∧ pH k)) → Q (some (nt (-2000000000))) (I)) (h1 : (tkM I t ∧ pH k ∧ ¬ hasb (I 53 7) t) → Q (some (nt (-5))) (I)) (h2 : (tkM I t ∧ hasb (I 53 7) t ∧ pH k) → Q (some (nt (I 54 (48 + 3 * t + 1)))) (upd_ I 54 (48 + 3 * t + 1) k)) : EvM d 268 [rf 53, nt t, nt k] I Q := by
  refine EvM.go [] (T := T_268) rfl rfl rfl rfl ?_
  conv => whnf
  repeat' first
    | (refine brI (fun _ => ?_) (fun _ => ?_) <;> conv => whnf)
    | (refine ⟨by omega, m194 (by omega) (by first | assumption | omega | (simp (disch := omega) only [up_eq, up_c, up_ne]; omega)) (by first | assumption | omega | (simp (disch := omega) only [up_eq, up_c, up_ne]; omega)) (fun _ => ?_) (fun _ => ?_)⟩ <;> conv => whnf)
    | (refine ⟨by omega, m187 (fun _ => ?_) (fun _ => ?_)⟩ <;> conv => whnf)
    | (refine ⟨by omega, m188 (fun _ => ?_) (fun _ => ?_)⟩ <;> conv => whnf)
    | (refine ⟨by omega, m198 (by first | assumption | omega | (simp (disch := omega) only [up_eq, up_c, up_ne]; omega)) (by first | assumption | omega | (simp (disch := omega) only [up_eq, up_c, up_ne]; omega)) ?_⟩ <;> conv => whnf)
    | (refine ⟨by omega, m241 (by first | assumption | omega | (simp (disch := omega) only [up_eq, up_c, up_ne]; omega)) (by first | assumption | omega | (simp (disch := omega) only [up_eq, up_c, up_ne]; omega)) ?_⟩ <;> conv => whnf)
    | (refine ⟨by first | exact trivial | omega, ?_⟩; conv => whnf)
  all_goals first
    | exact h0 (by omega)
    | exact h1 (by omega)
    | exact h2 (by omega)
    | (exfalso; omega)

theorem m245 {d : Nat} {a b : Int} {I : ME} {Q : Option MV → ME → Prop} (hd : 1 ≤ d) (hy0 : 0 ≤ a) (hy1 : a < 12) (hy2 : 0 ≤ b) (hy3 : b < 12) (h0 : ((hasb (I 53 7) (a) ∧ hasb (I 53 7) (b) ∧ 0 ≤ I 54 (48 + 3 * (a) + 1) ∧ I 54 (48 + 3 * (a) + 1) = I 54 (48 + 3 * (b) + 1) ∧ I 54 (48 + 3 * (a)) = I 54 (48 + 3 * (b)))) → Q (some (nt 1)) (I)) (h1 : ¬ ((hasb (I 53 7) (a) ∧ hasb (I 53 7) (b) ∧ 0 ≤ I 54 (48 + 3 * (a) + 1) ∧ I 54 (48 + 3 * (a) + 1) = I 54 (48 + 3 * (b) + 1) ∧ I 54 (48 + 3 * (a)) = I 54 (48 + 3 * (b)))) → Q (some (nt 0)) (I)) : EvM d 245 [rf 53, nt a, nt b] I Q := by
  refine EvM.go [] (T := T_245) rfl rfl rfl rfl ?_
  conv => whnf
  repeat' first
    | (refine brI (fun _ => ?_) (fun _ => ?_) <;> conv => whnf)
    | (refine ⟨by omega, m188 (fun _ => ?_) (fun _ => ?_)⟩ <;> conv => whnf)
    | (refine ⟨by omega, m198 (by first | assumption | omega | (simp (disch := omega) only [up_eq, up_c, up_ne]; omega)) (by first | assumption | omega | (simp (disch := omega) only [up_eq, up_c, up_ne]; omega)) ?_⟩ <;> conv => whnf)
    | (refine ⟨by omega, m197 (by first | assumption | omega | (simp (disch := omega) only [up_eq, up_c, up_ne]; omega)) (by first | assumption | omega | (simp (disch := omega) only [up_eq, up_c, up_ne]; omega)) ?_⟩ <;> conv => whnf)
    | (refine ⟨by first | exact trivial | omega, ?_⟩; conv => whnf)
  all_goals first
    | exact h0 (by omega)
    | exact h1 (by omega)
    | (exfalso; omega)

theorem m269 {d : Nat} {n : Int} {I : ME} {Q : Option MV → ME → Prop} (hd : 2 ≤ d) (hy0 : n ≤ 2147483647) (hy1 : (0 ≤ n ∧ tkM I (n / 20) ∧ tkM I (n % 20) ∧ n / 20 < n % 20) → 0 ≤ ian (I 53 7) (ian (ixr (isl 1 (n / 20)) (-1)) (ixr (isl 1 (n % 20)) (-1))) ∧ ian (I 53 7) (ian (ixr (isl 1 (n / 20)) (-1)) (ixr (isl 1 (n % 20)) (-1))) < 4096) (hy2 : -1 ≤ I 53 6) (hy3 : I 53 6 ≤ 12) (h0 : (¬ (0 ≤ n ∧ tkM I (n / 20) ∧ tkM I (n % 20) ∧ n / 20 < n % 20)) → Q (some (nt (-1))) (I)) (h1 : ((0 ≤ n ∧ tkM I (n / 20) ∧ tkM I (n % 20) ∧ n / 20 < n % 20) ∧ ¬ (hasb (I 53 7) (n / 20) ∧ hasb (I 53 7) (n % 20) ∧ 0 ≤ I 54 (48 + 3 * (n / 20) + 1) ∧ I 54 (48 + 3 * (n / 20) + 1) = I 54 (48 + 3 * (n % 20) + 1) ∧ I 54 (48 + 3 * (n / 20)) = I 54 (48 + 3 * (n % 20)))) → Q (some (nt (-5))) (I)) (h2 : ((0 ≤ n ∧ tkM I (n / 20) ∧ tkM I (n % 20) ∧ n / 20 < n % 20) ∧ (hasb (I 53 7) (n / 20) ∧ hasb (I 53 7) (n % 20) ∧ 0 ≤ I 54 (48 + 3 * (n / 20) + 1) ∧ I 54 (48 + 3 * (n / 20) + 1) = I 54 (48 + 3 * (n % 20) + 1) ∧ I 54 (48 + 3 * (n / 20)) = I 54 (48 + 3 * (n % 20)))) → Q (some (nt (pI (ian (I 53 7) (ian (ixr (isl 1 (n / 20)) (-1)) (ixr (isl 1 (n % 20)) (-1))))))) (upd_ (upd_ I 53 7 (ian (I 53 7) (ian (ixr (isl 1 (n / 20)) (-1)) (ixr (isl 1 (n % 20)) (-1))))) 53 33 (iad (I 53 33) 2))) : EvM d 269 [rf 53, nt n] I Q := by
  refine EvM.go [] (T := T_269) rfl rfl rfl rfl ?_
  conv => whnf
  repeat' first
    | (simp (disch := omega) only [idv_q, irm_q, up_eq, up_ne])
    | (refine brI (fun _ => ?_) (fun _ => ?_) <;> conv => whnf)
    | (refine ⟨by omega, m194 (by omega) (by first | assumption | omega | (simp (disch := omega) only [up_eq, up_c, up_ne]; omega)) (by first | assumption | omega | (simp (disch := omega) only [up_eq, up_c, up_ne]; omega)) (fun _ => ?_) (fun _ => ?_)⟩ <;> conv => whnf)
    | (refine ⟨by omega, m245 (by omega) (by first | assumption | omega | (simp (disch := omega) only [up_eq, up_c, up_ne]; omega)) (by first | assumption | omega | (simp (disch := omega) only [up_eq, up_c, up_ne]; omega)) (by first | assumption | omega | (simp (disch := omega) only [up_eq, up_c, up_ne]; omega)) (by first | assumption | omega | (simp (disch := omega) only [up_eq, up_c, up_ne]; omega)) (fun _ => ?_) (fun _ => ?_)⟩ <;> conv => whnf)
    | (refine ⟨by omega, m189p (by first | assumption | omega) (by first | assumption | omega) ?_⟩ <;> conv => whnf)
    | (refine ⟨by first | exact trivial | omega, ?_⟩; conv => whnf)
  all_goals first
    | exact h0 (by omega)
    | exact h1 (by omega)
    | exact h2 (by omega)
    | (have mzf := h0 (by omega); simp (disch := omega) only [idv_q, irm_q, up_eq, up_ne] at mzf ⊢; exact mzf)
    | (have mzf := h1 (by omega); simp (disch := omega) only [idv_q, irm_q, up_eq, up_ne] at mzf ⊢; exact mzf)
    | (have mzf := h2 (by omega); simp (disch := omega) only [idv_q, irm_q, up_eq, up_ne] at mzf ⊢; exact mzf)
    | (exfalso; omega)

theorem m271 {d : Nat} {w : Int} {I : ME} {Q : Option MV → ME → Prop} (hd : 2 ≤ d) (hy0 : -2147483648 ≤ w) (hy1 : w ≤ 2147483647) (h0 : (w = 0) → Q (some (nt (I 53 32))) (I)) (h1 : (w = 1) → Q (some (nt (I 53 33))) (I)) (h2 : (w = 2) → Q (some (nt (I 53 34))) (I)) (h3 : (10 ≤ w ∧ w ≤ 15) → Q (some (nt (I 69 (w - 10)))) (I)) (h4 : (¬ (0 ≤ w ∧ w ≤ 2) ∧ ¬ (10 ≤ w ∧ w ≤ 15)) → Q (some (nt (-2000000000))) (I)) : EvM d 271 [rf 53, nt w] I Q := by
  refine EvM.go [] (T := T_271) rfl rfl rfl rfl ?_
  conv => whnf
  have mzp := isb10 hy0 hy1
  repeat' first
    | (simp (disch := omega) only [isb_e])
    | (refine brI (fun _ => ?_) (fun _ => ?_) <;> conv => whnf)
    | (refine ⟨by omega, m195 (by omega) (fun _ => ?_) (fun _ => ?_)⟩ <;> conv => whnf)
    | (refine ⟨by first | exact trivial | omega, ?_⟩; conv => whnf)
  all_goals first
    | exact h0 (by omega)
    | exact h1 (by omega)
    | exact h2 (by omega)
    | exact h3 (by omega)
    | exact h4 (by omega)
    | (have mzf := h0 (by omega); simp (disch := omega) only [isb_e] at mzf ⊢; exact mzf)
    | (have mzf := h1 (by omega); simp (disch := omega) only [isb_e] at mzf ⊢; exact mzf)
    | (have mzf := h2 (by omega); simp (disch := omega) only [isb_e] at mzf ⊢; exact mzf)
    | (have mzf := h3 (by omega); simp (disch := omega) only [isb_e] at mzf ⊢; exact mzf)
    | (have mzf := h4 (by omega); simp (disch := omega) only [isb_e] at mzf ⊢; exact mzf)
    | (exfalso; omega)

theorem m276 {d : Nat} {k : Int} {I : ME} {Q : Option MV → ME → Prop} (hd : 1 ≤ d) (hy0 : 0 ≤ I 53 44) (hy1 : I 53 44 ≤ 50) (h0 : (¬ (0 ≤ k ∧ k < 8)) → Q (some (nt (-1))) (I)) (h1 : ((0 ≤ k ∧ k < 8) ∧ I 53 44 = 50) → Q (some (nt (-3))) (I)) (h2 : ((0 ≤ k ∧ k < 8) ∧ I 53 44 ≠ 50) → Q (some (nt (I 53 44 + 1 - 1))) (upd_ (upd_ I 74 (I 53 44) k) 53 44 (iad (I 53 44) 1))) : EvM d 276 [rf 53, nt k] I Q := by
  refine EvM.go [] (T := T_276) rfl rfl rfl rfl ?_
  conv => whnf
  repeat' first
    | (simp (disch := omega) only [up_eq, up_c, iad_e, isb_e])
    | (refine brI (fun _ => ?_) (fun _ => ?_) <;> conv => whnf)
    | (refine ⟨by omega, m187 (fun _ => ?_) (fun _ => ?_)⟩ <;> conv => whnf)
    | (refine ⟨by first | exact trivial | omega, ?_⟩; conv => whnf)
  all_goals first
    | exact h0 (by omega)
    | exact h1 (by omega)
    | exact h2 (by omega)
    | (have mzf := h0 (by omega); simp (disch := omega) only [up_eq, up_c, iad_e, isb_e] at mzf ⊢; exact mzf)
    | (have mzf := h1 (by omega); simp (disch := omega) only [up_eq, up_c, iad_e, isb_e] at mzf ⊢; exact mzf)
    | (have mzf := h2 (by omega); simp (disch := omega) only [up_eq, up_c, iad_e, isb_e] at mzf ⊢; exact mzf)
    | (exfalso; omega)

theorem m284 {d : Nat} {i : Int} {I : ME} {Q : Option MV → ME → Prop} (h0 : (0 ≤ i ∧ i < I 53 47 ∧ i < 24) → Q (some (nt (I 75 i))) (I)) (h1 : (¬ (0 ≤ i ∧ i < I 53 47 ∧ i < 24)) → Q (some (nt (-1))) (I)) : EvM d 284 [rf 53, nt i] I Q := by
  refine EvM.go [] (T := T_284) rfl rfl rfl rfl ?_
  conv => whnf
  repeat' first
    | (refine brI (fun _ => ?_) (fun _ => ?_) <;> conv => whnf)
    | (refine ⟨by first | exact trivial | omega, ?_⟩; conv => whnf)
  all_goals first
    | exact h0 (by omega)
    | exact h1 (by omega)
    | (exfalso; omega)

theorem m286 {d : Nat} {s b : Int} {I : ME} {Q : Option MV → ME → Prop} (hd : 2 ≤ d) (hy0 : -1 ≤ I 53 44) (hy1 : I 53 44 ≤ 50) (h0 : (¬ (pP s ∧ (b = -1 ∨ (0 ≤ b ∧ b < I 53 44)))) → Q (some (nt (-1))) (I)) (h1 : (pP s ∧ (b = -1 ∨ (0 ≤ b ∧ b < I 53 44))) → Q (some (nt (1))) (upd_ (upd_ I 76 s b) 77 s 0)) : EvM d 286 [rf 53, nt s, nt b] I Q := by
  refine EvM.go [] (T := T_286) rfl rfl rfl rfl ?_
  conv => whnf
  repeat' first
    | (refine brI (fun _ => ?_) (fun _ => ?_) <;> conv => whnf)
    | (refine ⟨by omega, m285 (by omega) (fun _ => ?_) (fun _ => ?_)⟩ <;> conv => whnf)
    | (refine ⟨by omega, m274 (by omega) (by first | assumption | omega | (simp (disch := omega) only [up_eq, up_c, up_ne]; omega)) (by first | assumption | omega | (simp (disch := omega) only [up_eq, up_c, up_ne]; omega)) (fun _ => ?_) (fun _ => ?_)⟩ <;> conv => whnf)
    | (refine ⟨by first | exact trivial | omega, ?_⟩; conv => whnf)
  all_goals first
    | exact h0 (by omega)
    | exact h1 (by omega)
    | (exfalso; omega)

theorem m288 {d : Nat} {s i : Int} {I : ME} {Q : Option MV → ME → Prop} (hd : 2 ≤ d) (h0 : (¬ pP s) → Q (some (nt (-1))) (I)) (h1 : (pP s ∧ I 76 s < 0) → Q (some (nt (-11))) (I)) (h2 : (pP s ∧ 0 ≤ I 76 s ∧ I 76 s < 50) → Q (some (nt (-12))) (I)) (h3 : (pP s ∧ 50 ≤ I 76 s ∧ 0 ≤ i ∧ i < I 77 s) → Q (some (nt (0))) (I)) (h4 : (pP s ∧ 50 ≤ I 76 s ∧ ¬ (0 ≤ i ∧ i < I 77 s)) → Q (some (nt (-13))) (I)) : EvM d 288 [rf 53, nt s, nt i] I Q := by
  refine EvM.go [] (T := T_288) rfl rfl rfl rfl ?_
  conv => whnf
  repeat' first
    | (refine brI (fun _ => ?_) (fun _ => ?_) <;> conv => whnf)
    | (refine ⟨by omega, m285 (by omega) (fun _ => ?_) (fun _ => ?_)⟩ <;> conv => whnf)
    | (refine ⟨by first | exact trivial | omega, ?_⟩; conv => whnf)
  all_goals first
    | exact h0 (by omega)
    | exact h1 (by omega)
    | exact h2 (by omega)
    | exact h3 (by omega)
    | exact h4 (by omega)
    | (exfalso; omega)

theorem m289 {d : Nat} {s v : Int} {I : ME} {Q : Option MV → ME → Prop} (h0 : (s = 0) → Q (some (lg (i2b_ (l2i_ v)))) (I)) (h1 : (s = 1) → Q (some (lg (i2s_ (l2i_ v)))) (I)) (h2 : (s = 2) → Q (some (lg (l2i_ v))) (I)) (h3 : (s = 4 ∧ v = 0) → Q (some (lg (0))) (I)) (h4 : (s = 4 ∧ v ≠ 0) → Q (some (lg (1))) (I)) (h5 : (¬ (s = 0 ∨ s = 1 ∨ s = 2 ∨ s = 4)) → Q (some (lg (v))) (I)) : EvM d 289 [nt s, lg v] I Q := by
  refine EvM.go [] (T := T_289) rfl rfl rfl rfl ?_
  conv => whnf
  repeat' first
    | (refine brI (fun mzq => ?_) (fun mzq => ?_) <;> (first | rw [lcm_lt] at mzq | rw [lcm_gt] at mzq | rw [lcm_0] at mzq | skip) <;> conv => whnf)
    | (refine ⟨by first | exact trivial | omega, ?_⟩; conv => whnf)
  all_goals first
    | exact h0 (by omega)
    | exact h1 (by omega)
    | exact h2 (by omega)
    | exact h3 (by omega)
    | exact h4 (by omega)
    | exact h5 (by omega)
    | (exfalso; omega)

