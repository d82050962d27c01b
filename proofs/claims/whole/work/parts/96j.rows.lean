/-! ROWS: fill, row, shift, taken -/
def fil (I : ME) (c : Nat) (f t v : Int) : ME := fun c' i => if c' = c ∧ f ≤ i ∧ i < t then v else I c' i
def flr (g : gF) (f t v : Int) : gF := fun i => if f ≤ i ∧ i < t then v else g i
theorem fil_c {I : ME} {c c' : Nat} {f t v : Int} (h : c' ≠ c) : fil I c f t v c' = I c' := by
  funext i; unfold fil; rw [if_neg (fun q => h q.1)]
theorem fil_g (I : ME) (c : Nat) (f t v : Int) : fil I c f t v c = flr (I c) f t v := by
  funext i
  unfold fil flr
  by_cases h : f ≤ i ∧ i < t
  · rw [if_pos ⟨rfl, h⟩, if_pos h]
  · rw [if_neg (fun q => h q.2), if_neg h]
theorem fil_0 (I : ME) (c : Nat) (f v : Int) : fil I c f f v = I := by
  funext c' i; unfold fil; rw [if_neg (by omega)]
theorem fil_s {I : ME} {c : Nat} {f k v : Int} (h : f ≤ k) : upd_ (fil I c f k v) c k v = fil I c f (k + 1) v := by
  funext c' i
  unfold upd_ fil
  by_cases h1 : c' = c
  · subst h1
    by_cases h2 : i = k
    · rw [if_pos ⟨rfl, h2⟩, if_pos ⟨rfl, by omega, by omega⟩]
    · rw [if_neg (fun q => h2 q.2)]
      by_cases h3 : f ≤ i ∧ i < k
      · rw [if_pos ⟨rfl, h3⟩, if_pos ⟨rfl, by omega, by omega⟩]
      · rw [if_neg (fun q => h3 q.2), if_neg (fun q => h3 ⟨q.2.1, by omega⟩)]
  · rw [if_neg (fun q => h1 q.1), if_neg (fun q => h1 q.1), if_neg (fun q => h1 q.1)]
theorem fr_fi {L : List Nat} {I J : ME} {c : Nat} {f t v : Int} (h : Fr L I J) (hc : c ∈ L) : Fr L I (fil J c f t v) := fun c' hc' => by
  rw [fil_c (fun q => hc' (by rw [q]; exact hc))]
  exact h c' hc'
theorem cpy_0 (I : ME) (c0 : Nat) (sp : Int) (c1 : Nat) (dp : Int) : cpyM I c0 sp c1 dp 0 = I := by
  funext c i; unfold cpyM; rw [if_neg (by omega)]
theorem cpy_s {I : ME} {c0 c1 : Nat} {sp dp k : Int} (h : 0 ≤ k) : upd_ (cpyM I c0 sp c1 dp k) c1 (dp + k) (I c0 (sp + k)) = cpyM I c0 sp c1 dp (k + 1) := by
  funext c i
  unfold upd_ cpyM
  by_cases h1 : c = c1
  · subst h1
    by_cases h2 : i = dp + k
    · rw [if_pos ⟨rfl, h2⟩, if_pos ⟨rfl, by omega, by omega⟩, show sp + (i - dp) = sp + k by omega]
    · rw [if_neg (fun q => h2 q.2)]
      by_cases h3 : dp ≤ i ∧ i < dp + k
      · rw [if_pos ⟨rfl, h3⟩, if_pos ⟨rfl, by omega, by omega⟩]
      · rw [if_neg (fun q => h3 q.2), if_neg (fun q => h3 ⟨q.2.1, by omega⟩)]
  · rw [if_neg (fun q => h1 q.1), if_neg (fun q => h1 q.1), if_neg (fun q => h1 q.1)]
theorem cpy_g {I : ME} {c0 c1 : Nat} {sp dp n : Int} : cpyM I c0 sp c1 dp n c1 = fun i => if dp ≤ i ∧ i < dp + n then I c0 (sp + (i - dp)) else I c1 i := by
  funext i
  unfold cpyM
  by_cases h : dp ≤ i ∧ i < dp + n
  · rw [if_pos ⟨rfl, h⟩, if_pos h]
  · rw [if_neg (fun q => h q.2), if_neg h]
theorem x307 {d : Nat} {n f t : Int} {I : ME} {Q : Option MV → ME → Prop} (h0 : 0 ≤ f) (h1 : f ≤ t) (h2 : t ≤ n) (h : Q none I) : EvM d 307 [nt n, nt f, nt t] I Q := by
  refine EvM.go [] (T := T_307) rfl rfl rfl rfl ?_
  conv => whnf
  refine brI (fun _ => by exfalso; omega) (fun _ => ?_)
  conv => whnf
  refine brI (fun _ => by exfalso; omega) (fun _ => ?_)
  conv => whnf
  refine brI (fun _ => by exfalso; omega) (fun _ => ?_)
  conv => whnf
  exact ⟨trivial, h⟩
theorem x308_52 {d : Nat} {f t v : Int} {I : ME} {Q : Option MV → ME → Prop} (hd : 1 ≤ d) (h0 : 0 ≤ f) (h1 : f ≤ t) (h2 : t ≤ 360) (h : Q none (fil I 52 f t v)) : EvM d 308 [rf 52, nt f, nt t, lg v] I Q := by
  refine EvM.go [10] (T := T_308) rfl rfl rfl rfl ?_
  conv => whnf
  refine ⟨by omega, x307 h0 h1 (by omega) ?_⟩
  conv => whnf
  refine ⟨trivial, Ev.to (ls' := [some (rf 52), some (nt f), some (nt t), some (lg v), none, some (nt (f + (0 : Nat)))]) (I' := fil I 52 f (f + (0 : Nat)) v) (by rw [show f + ((0 : Nat) : Int) = f by omega]) (by rw [show f + ((0 : Nat) : Int) = f by omega, fil_0]) (Ev.up (t - f).toNat (fun i => [some (rf 52), some (nt f), some (nt t), some (lg v), none, some (nt (f + (i : Nat)))]) (fun i => fil I 52 f (f + (i : Nat)) v) ?_ ?_ 0 (by omega))⟩
  · intro i hi ih
    refine Ev.go [10] (T := T_308) rfl rfl ?_
    conv => whnf
    refine brI (fun _ => ?_) (fun _ => by exfalso; omega)
    conv => whnf
    refine anI (by omega) ?_
    conv => whnf
    refine ⟨trivial, Ev.to ?_ ?_ ih⟩
    · rw [iad_e (by omega), show f + (i : Int) + 1 = f + ((i + 1 : Nat) : Int) by omega]
    · rw [fil_s (by omega), show f + (i : Int) + 1 = f + ((i + 1 : Nat) : Int) by omega]
  · rw [show f + (((t - f).toNat : Nat) : Int) = t by omega]
    refine Ev.go [10] (T := T_308) rfl rfl ?_
    conv => whnf
    refine brI (fun _ => by exfalso; omega) (fun _ => ?_)
    conv => whnf
    exact ⟨trivial, h⟩
theorem x310_21 {d : Nat} {f t v : Int} {I : ME} {Q : Option MV → ME → Prop} (hd : 1 ≤ d) (h0 : 0 ≤ f) (h1 : f ≤ t) (h2 : t ≤ 3328) (h : Q none (fil I 21 f t v)) : EvM d 310 [rf 21, nt f, nt t, nt v] I Q := by
  refine EvM.go [10] (T := T_310) rfl rfl rfl rfl ?_
  conv => whnf
  refine ⟨by omega, x307 h0 h1 (by omega) ?_⟩
  conv => whnf
  refine ⟨trivial, Ev.to (ls' := [some (rf 21), some (nt f), some (nt t), some (nt v), some (nt (f + (0 : Nat)))]) (I' := fil I 21 f (f + (0 : Nat)) v) (by rw [show f + ((0 : Nat) : Int) = f by omega]) (by rw [show f + ((0 : Nat) : Int) = f by omega, fil_0]) (Ev.up (t - f).toNat (fun i => [some (rf 21), some (nt f), some (nt t), some (nt v), some (nt (f + (i : Nat)))]) (fun i => fil I 21 f (f + (i : Nat)) v) ?_ ?_ 0 (by omega))⟩
  · intro i hi ih
    refine Ev.go [10] (T := T_310) rfl rfl ?_
    conv => whnf
    refine brI (fun _ => ?_) (fun _ => by exfalso; omega)
    conv => whnf
    refine anI (by omega) ?_
    conv => whnf
    refine ⟨trivial, Ev.to ?_ ?_ ih⟩
    · rw [iad_e (by omega), show f + (i : Int) + 1 = f + ((i + 1 : Nat) : Int) by omega]
    · rw [fil_s (by omega), show f + (i : Int) + 1 = f + ((i + 1 : Nat) : Int) by omega]
  · rw [show f + (((t - f).toNat : Nat) : Int) = t by omega]
    refine Ev.go [10] (T := T_310) rfl rfl ?_
    conv => whnf
    refine brI (fun _ => by exfalso; omega) (fun _ => ?_)
    conv => whnf
    exact ⟨trivial, h⟩
theorem x310_22 {d : Nat} {f t v : Int} {I : ME} {Q : Option MV → ME → Prop} (hd : 1 ≤ d) (h0 : 0 ≤ f) (h1 : f ≤ t) (h2 : t ≤ 3328) (h : Q none (fil I 22 f t v)) : EvM d 310 [rf 22, nt f, nt t, nt v] I Q := by
  refine EvM.go [10] (T := T_310) rfl rfl rfl rfl ?_
  conv => whnf
  refine ⟨by omega, x307 h0 h1 (by omega) ?_⟩
  conv => whnf
  refine ⟨trivial, Ev.to (ls' := [some (rf 22), some (nt f), some (nt t), some (nt v), some (nt (f + (0 : Nat)))]) (I' := fil I 22 f (f + (0 : Nat)) v) (by rw [show f + ((0 : Nat) : Int) = f by omega]) (by rw [show f + ((0 : Nat) : Int) = f by omega, fil_0]) (Ev.up (t - f).toNat (fun i => [some (rf 22), some (nt f), some (nt t), some (nt v), some (nt (f + (i : Nat)))]) (fun i => fil I 22 f (f + (i : Nat)) v) ?_ ?_ 0 (by omega))⟩
  · intro i hi ih
    refine Ev.go [10] (T := T_310) rfl rfl ?_
    conv => whnf
    refine brI (fun _ => ?_) (fun _ => by exfalso; omega)
    conv => whnf
    refine anI (by omega) ?_
    conv => whnf
    refine ⟨trivial, Ev.to ?_ ?_ ih⟩
    · rw [iad_e (by omega), show f + (i : Int) + 1 = f + ((i + 1 : Nat) : Int) by omega]
    · rw [fil_s (by omega), show f + (i : Int) + 1 = f + ((i + 1 : Nat) : Int) by omega]
  · rw [show f + (((t - f).toNat : Nat) : Int) = t by omega]
    refine Ev.go [10] (T := T_310) rfl rfl ?_
    conv => whnf
    refine brI (fun _ => by exfalso; omega) (fun _ => ?_)
    conv => whnf
    exact ⟨trivial, h⟩
theorem x309_23 {d : Nat} {v : Int} {I : ME} {Q : Option MV → ME → Prop} (h : Q none (fil I 23 0 8 v)) : EvM d 309 [rf 23, nt v] I Q := by
  refine EvM.go [5] (T := T_309) rfl rfl rfl rfl ?_
  conv => whnf
  refine ⟨trivial, Ev.to (ls' := [some (rf 23), some (nt v), some (nt ((0 : Nat) : Int)), some (nt 8)]) (I' := fil I 23 0 ((0 : Nat) : Int) v) rfl (by rw [show ((0 : Nat) : Int) = 0 from rfl, fil_0]) (Ev.up 8 (fun i => [some (rf 23), some (nt v), some (nt (i : Nat)), some (nt 8)]) (fun i => fil I 23 0 (i : Nat) v) ?_ ?_ 0 (by omega))⟩
  · intro i hi ih
    refine Ev.go [5] (T := T_309) rfl rfl ?_
    conv => whnf
    refine brI (fun _ => ?_) (fun _ => by exfalso; omega)
    conv => whnf
    refine anI (by omega) ?_
    conv => whnf
    refine ⟨trivial, Ev.to ?_ ?_ ih⟩
    · rw [iad_e (by omega)]; rfl
    · rw [fil_s (by omega)]; rfl
  · refine Ev.go [5] (T := T_309) rfl rfl ?_
    conv => whnf
    exact ⟨trivial, h⟩
theorem x309_6 {d : Nat} {v : Int} {I : ME} {Q : Option MV → ME → Prop} (h : Q none (fil I 6 0 6 v)) : EvM d 309 [rf 6, nt v] I Q := by
  refine EvM.go [5] (T := T_309) rfl rfl rfl rfl ?_
  conv => whnf
  refine ⟨trivial, Ev.to (ls' := [some (rf 6), some (nt v), some (nt ((0 : Nat) : Int)), some (nt 6)]) (I' := fil I 6 0 ((0 : Nat) : Int) v) rfl (by rw [show ((0 : Nat) : Int) = 0 from rfl, fil_0]) (Ev.up 6 (fun i => [some (rf 6), some (nt v), some (nt (i : Nat)), some (nt 6)]) (fun i => fil I 6 0 (i : Nat) v) ?_ ?_ 0 (by omega))⟩
  · intro i hi ih
    refine Ev.go [5] (T := T_309) rfl rfl ?_
    conv => whnf
    refine brI (fun _ => ?_) (fun _ => by exfalso; omega)
    conv => whnf
    refine anI (by omega) ?_
    conv => whnf
    refine ⟨trivial, Ev.to ?_ ?_ ih⟩
    · rw [iad_e (by omega)]; rfl
    · rw [fil_s (by omega)]; rfl
  · refine Ev.go [5] (T := T_309) rfl rfl ?_
    conv => whnf
    exact ⟨trivial, h⟩
theorem x309_32 {d : Nat} {v : Int} {I : ME} {Q : Option MV → ME → Prop} (h : Q none (fil I 32 0 3 v)) : EvM d 309 [rf 32, nt v] I Q := by
  refine EvM.go [5] (T := T_309) rfl rfl rfl rfl ?_
  conv => whnf
  refine ⟨trivial, Ev.to (ls' := [some (rf 32), some (nt v), some (nt ((0 : Nat) : Int)), some (nt 3)]) (I' := fil I 32 0 ((0 : Nat) : Int) v) rfl (by rw [show ((0 : Nat) : Int) = 0 from rfl, fil_0]) (Ev.up 3 (fun i => [some (rf 32), some (nt v), some (nt (i : Nat)), some (nt 3)]) (fun i => fil I 32 0 (i : Nat) v) ?_ ?_ 0 (by omega))⟩
  · intro i hi ih
    refine Ev.go [5] (T := T_309) rfl rfl ?_
    conv => whnf
    refine brI (fun _ => ?_) (fun _ => by exfalso; omega)
    conv => whnf
    refine anI (by omega) ?_
    conv => whnf
    refine ⟨trivial, Ev.to ?_ ?_ ih⟩
    · rw [iad_e (by omega)]; rfl
    · rw [fil_s (by omega)]; rfl
  · refine Ev.go [5] (T := T_309) rfl rfl ?_
    conv => whnf
    exact ⟨trivial, h⟩
theorem x98 {d : Nat} {s o n : Int} {I : ME} {Q : Option MV → ME → Prop} (hd : 2 ≤ d) (h0 : (pP s) → Q (none) (fil (upd_ (upd_ (upd_ I 48 s 2) 50 s o) 51 s n) 52 (s * 60) ((s + 1) * 60) 0)) (h1 : (¬ pP s) → Q (none) (I)) : EvM d 98 [rf 47, nt s, nt o, nt n] I Q := by
  refine EvM.go [] (T := T_98) rfl rfl rfl rfl ?_
  conv => whnf
  repeat' first
    | (simp (disch := omega) only [iml_e, iad_e])
    | (refine brI (fun _ => ?_) (fun _ => ?_) <;> conv => whnf)
    | (refine ⟨by omega, x179 (fun _ => ?_) (fun _ => ?_)⟩ <;> conv => whnf)
    | (refine ⟨by omega, x308_52 (by omega) (by omega) (by omega) (by omega) ?_⟩ <;> conv => whnf)
    | (refine ⟨by first | exact trivial | omega, ?_⟩; conv => whnf)
  all_goals first
    | exact h0 (by omega)
    | exact h1 (by omega)
    | (have mzf := h0 (by omega); simp (disch := omega) only [iml_e, iad_e] at mzf ⊢; exact mzf)
    | (have mzf := h1 (by omega); simp (disch := omega) only [iml_e, iad_e] at mzf ⊢; exact mzf)
    | (exfalso; omega)

theorem x169 {d : Nat} {s o n : Int} {I : ME} {Q : Option MV → ME → Prop} (hd : 3 ≤ d) (h0 : (¬ (pP s ∧ 0 ≤ o ∧ o ≤ 4 ∧ n ≤ 60)) → Q (some (nt (-1))) (I)) (h1 : ((pP s ∧ 0 ≤ o ∧ o ≤ 4 ∧ n ≤ 60) ∧ n < 0) → Q (some (nt (-14))) (I)) (h2 : ((pP s ∧ 0 ≤ o ∧ o ≤ 4 ∧ n ≤ 60) ∧ 0 ≤ n) → Q (some (nt (1))) (fil (upd_ (upd_ (upd_ I 48 s 2) 50 s o) 51 s n) 52 (s * 60) ((s + 1) * 60) 0)) : EvM d 169 [rf 0, nt s, nt o, nt n] I Q := by
  refine EvM.go [] (T := T_169) rfl rfl rfl rfl ?_
  conv => whnf
  repeat' first
    | (refine brI (fun _ => ?_) (fun _ => ?_) <;> conv => whnf)
    | (refine ⟨by omega, x179 (fun _ => ?_) (fun _ => ?_)⟩ <;> conv => whnf)
    | (refine ⟨by omega, x98 (by omega) (fun _ => ?_) (fun _ => ?_)⟩ <;> conv => whnf)
    | (refine ⟨by first | exact trivial | omega, ?_⟩; conv => whnf)
  all_goals first
    | exact h0 (by omega)
    | exact h1 (by omega)
    | exact h2 (by omega)
    | (exfalso; omega)

theorem x102 {d : Nat} {s i o j n : Int} {I : ME} {Q : Option MV → ME → Prop} (hd : 4 ≤ d) (hy0 : i ≤ 2147483647) (hy1 : j ≤ 2147483647) (hy2 : n ≤ 2147483647) (hy3 : ∀ s, rwC I s → I 51 s ≤ 60) (hy4 : rwC I s) (hy5 : rwC I o) (h0 : (plC I s i n ∧ plC I o j n) → Q (none) (cpyM I 52 (s * 60 + i) 52 (o * 60 + j) n)) (h1 : (¬ (plC I s i n ∧ plC I o j n)) → Q (none) (I)) : EvM d 102 [rf 47, nt s, nt i, nt o, nt j, nt n] I Q := by
  refine EvM.go [] (T := T_102) rfl rfl rfl rfl ?_
  conv => whnf
  have mz1 := hy3 s
  have mz2 := hy3 o
  repeat' first
    | (simp (disch := omega) only [iml_e, iad_e])
    | (refine brI (fun _ => ?_) (fun _ => ?_) <;> conv => whnf)
    | (refine ⟨by omega, x96 (by omega) (by first | assumption | omega | (simp (disch := omega) only [up_eq, up_c, up_ne]; omega)) (by first | assumption | omega | (simp (disch := omega) only [up_eq, up_c, up_ne]; omega)) (fun _ => ?_) (fun _ => ?_)⟩ <;> conv => whnf)
    | (refine ⟨by first | exact trivial | omega, ?_⟩; conv => whnf)
  all_goals first
    | exact h0 (by omega)
    | exact h1 (by omega)
    | (have mzf := h0 (by omega); simp (disch := omega) only [iml_e, iad_e] at mzf ⊢; exact mzf)
    | (have mzf := h1 (by omega); simp (disch := omega) only [iml_e, iad_e] at mzf ⊢; exact mzf)
    | (exfalso; omega)

theorem x172 {d : Nat} {s i o j n : Int} {I : ME} {Q : Option MV → ME → Prop} (hd : 5 ≤ d) (hy0 : i ≤ 2147483647) (hy1 : j ≤ 2147483647) (hy2 : n ≤ 2147483647) (hy3 : ∀ s, rwC I s → I 51 s ≤ 60) (h0 : (¬ (pP s ∧ pP o)) → Q (some (nt (-1))) (I)) (h1 : ((pP s ∧ pP o) ∧ (I 48 s = 0 ∨ I 48 o = 0)) → Q (some (nt (-11))) (I)) (h2 : ((pP s ∧ pP o) ∧ I 48 s ≠ 0 ∧ I 48 o ≠ 0 ∧ ¬ (rwC I s ∧ rwC I o ∧ I 50 s = I 50 o)) → Q (some (nt (-12))) (I)) (h3 : ((rwC I s ∧ rwC I o ∧ I 50 s = I 50 o) ∧ ¬ ((0 ≤ i ∧ 0 ≤ n ∧ i + n ≤ I 51 s) ∧ (0 ≤ j ∧ 0 ≤ n ∧ j + n ≤ I 51 o))) → Q (some (nt (-13))) (I)) (h4 : ((rwC I s ∧ rwC I o ∧ I 50 s = I 50 o) ∧ ((0 ≤ i ∧ 0 ≤ n ∧ i + n ≤ I 51 s) ∧ (0 ≤ j ∧ 0 ≤ n ∧ j + n ≤ I 51 o))) → Q (some (nt (n))) (cpyM I 52 (s * 60 + i) 52 (o * 60 + j) n)) : EvM d 172 [rf 0, nt s, nt i, nt o, nt j, nt n] I Q := by
  refine EvM.go [] (T := T_172) rfl rfl rfl rfl ?_
  conv => whnf
  have mz1 := hy3 s
  have mz2 := hy3 o
  repeat' first
    | (refine brI (fun _ => ?_) (fun _ => ?_) <;> conv => whnf)
    | (refine ⟨by omega, x179 (fun _ => ?_) (fun _ => ?_)⟩ <;> conv => whnf)
    | (refine ⟨by omega, x90 (by omega) (fun _ => ?_) (fun _ => ?_)⟩ <;> conv => whnf)
    | (refine ⟨by omega, x93 (by omega) (fun _ => ?_) (fun _ => ?_)⟩ <;> conv => whnf)
    | (refine ⟨by omega, x102 (by omega) (by first | assumption | omega | (simp (disch := omega) only [up_eq, up_c, up_ne]; omega)) (by first | assumption | omega | (simp (disch := omega) only [up_eq, up_c, up_ne]; omega)) (by first | assumption | omega | (simp (disch := omega) only [up_eq, up_c, up_ne]; omega)) (by first | assumption | omega | (simp (disch := omega) only [up_eq, up_c, up_ne]; omega)) (by first | assumption | omega | (simp (disch := omega) only [up_eq, up_c, up_ne]; omega)) (by first | assumption | omega | (simp (disch := omega) only [up_eq, up_c, up_ne]; omega)) (fun _ => ?_) (fun _ => ?_)⟩ <;> conv => whnf)
    | (refine ⟨by omega, x96 (by omega) (by first | assumption | omega | (simp (disch := omega) only [up_eq, up_c, up_ne]; omega)) (by first | assumption | omega | (simp (disch := omega) only [up_eq, up_c, up_ne]; omega)) (fun _ => ?_) (fun _ => ?_)⟩ <;> conv => whnf)
    | (refine ⟨by first | exact trivial | omega, ?_⟩; conv => whnf)
  all_goals first
    | exact h0 (by omega)
    | exact h1 (by omega)
    | exact h2 (by omega)
    | exact h3 (by omega)
    | exact h4 (by omega)
    | (exfalso; omega)

theorem m287 {d : Nat} {s o n : Int} {I : ME} {Q : Option MV → ME → Prop} (hd : 2 ≤ d) (h0 : ¬ (pP s ∧ 0 ≤ o ∧ o ≤ 4 ∧ n ≤ 60) → Q (some (nt (-1))) I) (h1 : (pP s ∧ 0 ≤ o ∧ o ≤ 4 ∧ n ≤ 60) ∧ n < 0 → Q (some (nt (-14))) I)
    (h2 : (pP s ∧ 0 ≤ o ∧ o ≤ 4 ∧ n ≤ 60) ∧ 0 ≤ n → Q (some (nt 1)) (fil (upd_ (upd_ I 76 s (50 + o)) 77 s n) 78 (60 * s) (60 * s + 60) 0)) : EvM d 287 [rf 53, nt s, nt o, nt n] I Q := by
  refine EvM.go [57] (T := T_287) rfl rfl rfl rfl ?_
  conv => whnf
  repeat' first
    | (refine brI (fun _ => ?_) (fun _ => ?_) <;> conv => whnf)
    | (refine ⟨by omega, m285 (by omega) (fun _ => ?_) (fun _ => ?_)⟩ <;> conv => whnf)
    | (refine ⟨by omega, m187 (fun _ => ?_) (fun _ => ?_)⟩ <;> conv => whnf)
    | (refine anI (by omega) ?_; conv => whnf)
  all_goals first
    | exact ⟨trivial, h0 (by omega)⟩
    | exact ⟨trivial, h1 (by omega)⟩
    | (exfalso; omega)
    | skip
  rw [iad_e (by omega), iml_e (by omega)]
  refine ⟨trivial, Ev.to (ls' := [some (rf 53), some (nt s), some (nt o), some (nt n), some (nt (60 * s + (0 : Nat)))]) (I' := fil (upd_ (upd_ I 76 s (50 + o)) 77 s n) 78 (60 * s) (60 * s + (0 : Nat)) 0) (by rw [show 60 * s + ((0 : Nat) : Int) = 60 * s by omega]) (by rw [show 60 * s + ((0 : Nat) : Int) = 60 * s by omega, fil_0]) (Ev.up 60 (fun i => [some (rf 53), some (nt s), some (nt o), some (nt n), some (nt (60 * s + (i : Nat)))]) (fun i => fil (upd_ (upd_ I 76 s (50 + o)) 77 s n) 78 (60 * s) (60 * s + (i : Nat)) 0) ?_ ?_ 0 (by omega))⟩
  · intro i hi ih
    refine Ev.go [57] (T := T_287) rfl rfl ?_
    conv => whnf
    rw [iml_e (by omega), iad_e (by omega)]
    refine brI (fun _ => ?_) (fun _ => by exfalso; omega)
    conv => whnf
    refine anI (by omega) ?_
    conv => whnf
    refine ⟨trivial, Ev.to ?_ ?_ ih⟩
    · rw [iad_e (by omega), show 60 * s + (i : Int) + 1 = 60 * s + ((i + 1 : Nat) : Int) by omega]
    · rw [fil_s (by omega), show 60 * s + (i : Int) + 1 = 60 * s + ((i + 1 : Nat) : Int) by omega]
  · refine Ev.go [57] (T := T_287) rfl rfl ?_
    conv => whnf
    rw [iml_e (by omega), iad_e (by omega)]
    refine brI (fun _ => by exfalso; omega) (fun _ => ?_)
    conv => whnf
    exact ⟨trivial, h2 (by omega)⟩
