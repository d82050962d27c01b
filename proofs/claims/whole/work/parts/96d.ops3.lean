/-! OPERATIONS of the model, more (printed by wip/whole/gen100.py) -/
theorem m289k {d : Nat} {s v : Int} {I : ME} {Q : Option MV → ME → Prop} (h0 : 0 ≤ s) (h4 : s ≤ 4) (h : Q (some (lg (kpt s v))) I) : EvM d 289 [nt s, lg v] I Q := by
  unfold kpt at h
  refine m289 (fun q => ?_) (fun q => ?_) (fun q => ?_) (fun q => ?_) (fun q => ?_) (fun q => ?_)
  · rw [if_pos q] at h; exact h
  · rw [if_neg (by omega), if_pos q] at h; exact h
  · rw [if_neg (by omega), if_neg (by omega), if_pos q] at h; exact h
  · rw [if_neg (by omega), if_neg (by omega), if_neg (by omega), if_neg (by omega), if_pos q.2] at h; exact h
  · rw [if_neg (by omega), if_neg (by omega), if_neg (by omega), if_neg (by omega), if_neg q.2] at h; exact h
  · rw [if_neg (by omega), if_neg (by omega), if_neg (by omega), if_pos (by omega)] at h; exact h
theorem m290 {d : Nat} {s i v : Int} {I : ME} {Q : Option MV → ME → Prop} (hd : 3 ≤ d) (hy0 : ∀ s, pP s → 50 ≤ I 76 s → I 76 s ≤ 54 ∧ I 77 s ≤ 60) (h0 : (¬ pP s) → Q (some (nt (-1))) (I)) (h1 : (pP s ∧ I 76 s < 0) → Q (some (nt (-11))) (I)) (h2 : (pP s ∧ 0 ≤ I 76 s ∧ I 76 s < 50) → Q (some (nt (-12))) (I)) (h3 : (pP s ∧ 50 ≤ I 76 s ∧ 0 ≤ i ∧ i < I 77 s) → Q (some (nt (1))) (upd_ I 78 (60 * s + i) (kpt (I 76 s - 50) v))) (h4 : (pP s ∧ 50 ≤ I 76 s ∧ ¬ (0 ≤ i ∧ i < I 77 s)) → Q (some (nt (-13))) (I)) : EvM d 290 [rf 53, nt s, nt i, lg v] I Q := by
  refine EvM.go [] (T := T_290) rfl rfl rfl rfl ?_
  conv => whnf
  have mzl := hy0 s
  repeat' first
    | (simp (disch := omega) only [iml_e, iad_e, isb_e])
    | (refine brI (fun _ => ?_) (fun _ => ?_) <;> conv => whnf)
    | (refine ⟨by omega, m288 (by omega) (fun _ => ?_) (fun _ => ?_) (fun _ => ?_) (fun _ => ?_) (fun _ => ?_)⟩ <;> conv => whnf)
    | (refine ⟨by omega, m289k (by first | assumption | omega) (by first | assumption | omega) ?_⟩ <;> conv => whnf)
    | (refine ⟨by first | exact trivial | omega, ?_⟩; conv => whnf)
  all_goals first
    | exact h0 (by omega)
    | exact h1 (by omega)
    | exact h2 (by omega)
    | exact h3 (by omega)
    | exact h4 (by omega)
    | (have mzf := h0 (by omega); simp (disch := omega) only [iml_e, iad_e, isb_e] at mzf ⊢; exact mzf)
    | (have mzf := h1 (by omega); simp (disch := omega) only [iml_e, iad_e, isb_e] at mzf ⊢; exact mzf)
    | (have mzf := h2 (by omega); simp (disch := omega) only [iml_e, iad_e, isb_e] at mzf ⊢; exact mzf)
    | (have mzf := h3 (by omega); simp (disch := omega) only [iml_e, iad_e, isb_e] at mzf ⊢; exact mzf)
    | (have mzf := h4 (by omega); simp (disch := omega) only [iml_e, iad_e, isb_e] at mzf ⊢; exact mzf)
    | (exfalso; omega)

theorem m291 {d : Nat} {s i : Int} {I : ME} {Q : Option MV → ME → Prop} (hd : 3 ≤ d) (hy0 : ∀ s, pP s → 50 ≤ I 76 s → I 76 s ≤ 54 ∧ I 77 s ≤ 60) (h0 : (pP s ∧ 50 ≤ I 76 s ∧ 0 ≤ i ∧ i < I 77 s) → Q (some (lg (I 78 (60 * s + i)))) (I)) (h1 : (¬ (pP s ∧ 50 ≤ I 76 s ∧ 0 ≤ i ∧ i < I 77 s)) → Q (some (lg (-9223372036854775808))) (I)) : EvM d 291 [rf 53, nt s, nt i] I Q := by
  refine EvM.go [] (T := T_291) rfl rfl rfl rfl ?_
  conv => whnf
  have mzl := hy0 s
  repeat' first
    | (simp (disch := omega) only [iml_e, iad_e])
    | (refine brI (fun _ => ?_) (fun _ => ?_) <;> conv => whnf)
    | (refine ⟨by omega, m288 (by omega) (fun _ => ?_) (fun _ => ?_) (fun _ => ?_) (fun _ => ?_) (fun _ => ?_)⟩ <;> conv => whnf)
    | (refine ⟨by first | exact trivial | omega, ?_⟩; conv => whnf)
  all_goals first
    | exact h0 (by omega)
    | exact h1 (by omega)
    | (have mzf := h0 (by omega); simp (disch := omega) only [iml_e, iad_e] at mzf ⊢; exact mzf)
    | (have mzf := h1 (by omega); simp (disch := omega) only [iml_e, iad_e] at mzf ⊢; exact mzf)
    | (exfalso; omega)

theorem m294 {d : Nat} {w : Int} {I : ME} {Q : Option MV → ME → Prop} (hd : 1 ≤ d) (hy0 : 0 ≤ I 53 7) (hy1 : I 53 7 < 4096) (h0 : (w = 0) → Q (some (nt (I 53 6))) (I)) (h1 : (w = 1) → Q (some (nt (pI (I 53 7)))) (I)) (h2 : (w = 2) → Q (some (nt (I 53 11))) (I)) (h3 : (w = 3) → Q (some (nt (I 53 5))) (I)) (h4 : (w = 4) → Q (some (nt (I 53 44))) (I)) (h5 : (w = 5) → Q (some (nt (I 53 47))) (I)) (h6 : (¬ (0 ≤ w ∧ w ≤ 5)) → Q (some (nt (-1))) (I)) : EvM d 294 [rf 53, nt w] I Q := by
  refine EvM.go [] (T := T_294) rfl rfl rfl rfl ?_
  conv => whnf
  repeat' first
    | (refine brI (fun _ => ?_) (fun _ => ?_) <;> conv => whnf)
    | (refine ⟨by omega, m189p (by first | assumption | omega) (by first | assumption | omega) ?_⟩ <;> conv => whnf)
    | (refine ⟨by first | exact trivial | omega, ?_⟩; conv => whnf)
  all_goals first
    | exact h0 (by omega)
    | exact h1 (by omega)
    | exact h2 (by omega)
    | exact h3 (by omega)
    | exact h4 (by omega)
    | exact h5 (by omega)
    | exact h6 (by omega)
    | (exfalso; omega)


-- what holds between calls, taken apart
theorem Rel.f {c : Int} {I : ME} (h : Rel c I) : (0 ≤ I 1 5 ∧ I 1 5 ≤ 12) ∧ (0 ≤ I 1 6 ∧ I 1 6 < 4096) ∧ (0 ≤ I 1 7 ∧ I 1 7 + pI (I 1 6) ≤ I 1 5) ∧ (I 53 6 = I 1 5 ∧ I 53 7 = I 1 6 ∧ I 53 8 = I 1 7) ∧
    (0 ≤ I 14 2 ∧ I 14 2 ≤ 120 ∧ I 53 11 = I 14 2) ∧ (0 ≤ I 39 5 ∧ I 39 5 ≤ I 39 6 ∧ I 39 6 ≤ 40 ∧ I 53 5 = I 39 5 ∧ I 53 4 = I 39 6) ∧
    (0 ≤ I 44 2 ∧ I 44 2 ≤ 50 ∧ I 53 44 = I 44 2) ∧ (0 ≤ I 44 3 ∧ I 44 3 ≤ 100 ∧ I 53 47 = I 44 3) ∧ (I 53 32 = I 35 0 ∧ I 53 33 = I 35 1 ∧ I 53 34 = I 35 2) := by
  obtain ⟨ln, ⟨a, b, e, d, f, g, l, q, k⟩, a', b', e', d', f', g', l'⟩ := h
  exact ⟨a.1, ⟨a.2.1.1, a.2.1.2.1⟩, a.2.2.1, ⟨a'.1, a'.2.1, a'.2.2.1⟩, ⟨b.1.1, b.1.2, b'.1⟩, ⟨e.1.1, e.1.2.1, e.1.2.2, e'.1, e'.2.1⟩, ⟨f.1.1, f.1.2, f'.1⟩, ⟨f.2.1.1, f.2.1.2, f'.2.1⟩, d'.1, d'.2.1, d'.2.2.1⟩
theorem Rel.t {c : Int} {I : ME} (h : Rel c I) {t : Int} (t0 : 0 ≤ t) (t1 : t < 12) : (pT (I 3 t) ∧ pH (I 4 t) ∧ (I 5 t = 0 ∨ I 5 t = 1)) ∧ I 54 (48 + 3 * t) = I 3 t ∧ I 54 (48 + 3 * t + 1) = I 4 t ∧ I 54 (48 + 3 * t + 2) = I 5 t := by
  obtain ⟨ln, ⟨a, b, e, d, f, g, l, q, k⟩, a', b', e', d', f', g', l'⟩ := h
  exact ⟨a.2.2.2.2.1 t t0 t1, a'.2.2.2.2.1 t t0 t1⟩
theorem Rel.j {c : Int} {I : ME} (h : Rel c I) {j : Int} (t0 : 0 ≤ j) (t1 : j < 48) : (0 ≤ I 2 j ∧ I 2 j ≤ 99) ∧ I 54 j = I 2 j := by
  obtain ⟨ln, ⟨a, b, e, d, f, g, l, q, k⟩, a', b', e', d', f', g', l'⟩ := h
  exact ⟨a.2.2.2.1 j t0 t1, a'.2.2.2.1 j t0 t1⟩
theorem Rel.p {c : Int} {I : ME} (h : Rel c I) {p : Int} (hp : pP p) : (0 ≤ I 6 p ∧ I 6 p < 256) ∧ I 58 p = I 6 p := by
  obtain ⟨ln, ⟨a, b, e, d, f, g, l, q, k⟩, a', b', e', d', f', g', l'⟩ := h
  exact ⟨a.2.2.2.2.2 p hp, a'.2.2.2.2.2 p hp⟩
theorem Rel.s {c : Int} {I : ME} (h : Rel c I) {s : Int} (hp : pP s) : (I 48 s = 0 ∧ I 76 s = -1) ∨ ((I 48 s = 1 ∧ 0 ≤ I 49 s ∧ I 49 s < I 44 2) ∧ I 76 s = I 49 s) ∨ (I 48 s = 2 ∧ (0 ≤ I 50 s ∧ I 50 s ≤ 4) ∧ (0 ≤ I 51 s ∧ I 51 s ≤ 60) ∧ I 76 s = 50 + I 50 s ∧ I 77 s = I 51 s ∧ ∀ i, 0 ≤ i → i < 60 → I 78 (60 * s + i) = I 52 (60 * s + i)) := by
  obtain ⟨ln, ⟨a, b, e, d, f, g, l, q, k⟩, a', b', e', d', f', g', l'⟩ := h
  obtain ⟨h0, h1, h2, -⟩ := g' s hp
  rcases g s hp with q | q | q
  · exact Or.inl ⟨q, h0 q⟩
  · exact Or.inr (Or.inl ⟨q, h1 q.1⟩)
  · exact Or.inr (Or.inr ⟨q.1, q.2.1, q.2.2, h2 q.1⟩)
theorem Rel.by_ {c : Int} {I : ME} (h : Rel c I) {s : Int} (hp : pP s) (h2 : I 48 s = 2) (h0 : I 50 s = 0) {i : Int} (i0 : 0 ≤ i) (i1 : i < 60) : -128 ≤ I 52 (60 * s + i) ∧ I 52 (60 * s + i) ≤ 127 := by
  obtain ⟨ln, ⟨a, b, e, d, f, g, l, q, k⟩, a', b', e', d', f', g', l'⟩ := h
  exact (g' s hp).2.2.2 h2 h0 i i0 i1
theorem Rel.mr {c : Int} {I : ME} (h : Rel c I) : ∀ s, pP s → 50 ≤ I 76 s → I 76 s ≤ 54 ∧ I 77 s ≤ 60 := fun s hp hq => by
  have := h.f
  rcases h.s hp with q | q | q <;> omega
theorem Rel.rl {c : Int} {I : ME} (h : Rel c I) : ∀ s, rwC I s → I 51 s ≤ 60 := fun s hp => by
  rcases h.s hp.1 with q | q | q <;> omega
theorem cA_ho {sz s dr : Int} {lov th ho bl lo : gF} {t k : Int} (h : cA sz s dr lov th ho bl lo) (hk : pH k) : cA sz s dr lov th (fu ho t k) bl lo := by
  obtain ⟨a, b, d, e, f, g⟩ := h
  refine ⟨a, b, d, e, fun u u0 u1 => ?_, g⟩
  by_cases hu : u = t
  · subst hu; rw [fu_eq]; exact ⟨(f u u0 u1).1, hk, (f u u0 u1).2.2⟩
  · rw [fu_ne hu]; exact f u u0 u1
theorem cA_th {sz s dr : Int} {lov th ho bl lo : gF} {t k : Int} (h : cA sz s dr lov th ho bl lo) (hk : pT k) : cA sz s dr lov (fu th t k) ho bl lo := by
  obtain ⟨a, b, d, e, f, g⟩ := h
  refine ⟨a, b, d, e, fun u u0 u1 => ?_, g⟩
  by_cases hu : u = t
  · subst hu; rw [fu_eq]; exact ⟨hk, (f u u0 u1).2⟩
  · rw [fu_ne hu]; exact f u u0 u1
theorem cA_bl {sz s dr : Int} {lov th ho bl lo : gF} {t k : Int} (h : cA sz s dr lov th ho bl lo) (hk : k = 0 ∨ k = 1) : cA sz s dr lov th ho (fu bl t k) lo := by
  obtain ⟨a, b, d, e, f, g⟩ := h
  refine ⟨a, b, d, e, fun u u0 u1 => ?_, g⟩
  by_cases hu : u = t
  · subst hu; rw [fu_eq]; exact ⟨(f u u0 u1).1, (f u u0 u1).2.1, hk⟩
  · rw [fu_ne hu]; exact f u u0 u1
theorem cA_lv {sz s dr : Int} {lov th ho bl lo : gF} {t k : Int} (h : cA sz s dr lov th ho bl lo) (hk : 0 ≤ k ∧ k ≤ 99) : cA sz s dr (fu lov t k) th ho bl lo := by
  obtain ⟨a, b, d, e, f, g⟩ := h
  refine ⟨a, b, d, fun u u0 u1 => ?_, f, g⟩
  by_cases hu : u = t
  · subst hu; rw [fu_eq]; exact hk
  · rw [fu_ne hu]; exact e u u0 u1
theorem cA_in {sz s s' dr : Int} {lov th ho bl lo : gF} (h : cA sz s dr lov th ho bl lo) (h0 : 0 ≤ s') (h1 : s' < 4096) (hs : ∀ u, 0 ≤ u → u < 12 → hasb s' u → hasb s u) : cA sz s' dr lov th ho bl lo := by
  obtain ⟨a, b, d, e, f, g⟩ := h
  have hp := pI_mono h0 h1 b.1 b.2.1 hs
  exact ⟨a, ⟨h0, h1, fun u u0 u1 q => b.2.2 u u0 u1 (hs u (by omega) u1 q)⟩, by omega, e, f, g⟩
theorem mA_ho {sz s dr : Int} {lov th ho bl lo : gF} {msz ms mdr : Int} {may mlo : gF} {t k : Int} (h : mA sz s dr lov th ho bl lo msz ms mdr may mlo) (t0 : 0 ≤ t) : mA sz s dr lov th (fu ho t k) bl lo msz ms mdr (fu may (48 + 3 * t + 1) k) mlo := by
  obtain ⟨a, b, c, d, e, f⟩ := h
  refine ⟨a, b, c, fun j j0 j1 => by rw [fu_ne (by omega)]; exact d j j0 j1, fun u u0 u1 => ?_, f⟩
  obtain ⟨e1, e2, e3⟩ := e u u0 u1
  by_cases hu : u = t
  · subst hu; rw [fu_ne (by omega), fu_eq, fu_eq, fu_ne (by omega)]; exact ⟨e1, rfl, e3⟩
  · rw [fu_ne (by omega), fu_ne (by omega), fu_ne hu, fu_ne (by omega)]; exact ⟨e1, e2, e3⟩
theorem mA_th {sz s dr : Int} {lov th ho bl lo : gF} {msz ms mdr : Int} {may mlo : gF} {t k : Int} (h : mA sz s dr lov th ho bl lo msz ms mdr may mlo) (t0 : 0 ≤ t) : mA sz s dr lov (fu th t k) ho bl lo msz ms mdr (fu may (48 + 3 * t) k) mlo := by
  obtain ⟨a, b, c, d, e, f⟩ := h
  refine ⟨a, b, c, fun j j0 j1 => by rw [fu_ne (by omega)]; exact d j j0 j1, fun u u0 u1 => ?_, f⟩
  obtain ⟨e1, e2, e3⟩ := e u u0 u1
  by_cases hu : u = t
  · subst hu; rw [fu_eq, fu_eq, fu_ne (by omega), fu_ne (by omega)]; exact ⟨rfl, e2, e3⟩
  · rw [fu_ne (by omega), fu_ne (by omega), fu_ne (by omega), fu_ne (by omega)]; exact ⟨e1, e2, e3⟩
theorem mA_bl {sz s dr : Int} {lov th ho bl lo : gF} {msz ms mdr : Int} {may mlo : gF} {t k : Int} (h : mA sz s dr lov th ho bl lo msz ms mdr may mlo) (t0 : 0 ≤ t) : mA sz s dr lov th ho (fu bl t k) lo msz ms mdr (fu may (48 + 3 * t + 2) k) mlo := by
  obtain ⟨a, b, c, d, e, f⟩ := h
  refine ⟨a, b, c, fun j j0 j1 => by rw [fu_ne (by omega)]; exact d j j0 j1, fun u u0 u1 => ?_, f⟩
  obtain ⟨e1, e2, e3⟩ := e u u0 u1
  by_cases hu : u = t
  · subst hu; rw [fu_ne (by omega), fu_ne (by omega), fu_eq, fu_eq]; exact ⟨e1, e2, rfl⟩
  · rw [fu_ne (by omega), fu_ne (by omega), fu_ne hu, fu_ne (by omega)]; exact ⟨e1, e2, e3⟩
theorem mA_lv {sz s dr : Int} {lov th ho bl lo : gF} {msz ms mdr : Int} {may mlo : gF} {t k : Int} (h : mA sz s dr lov th ho bl lo msz ms mdr may mlo) (t1 : t < 48) : mA sz s dr (fu lov t k) th ho bl lo msz ms mdr (fu may t k) mlo := by
  obtain ⟨a, b, c, d, e, f⟩ := h
  refine ⟨a, b, c, fun j j0 j1 => ?_, fun u u0 u1 => ?_, f⟩
  · by_cases hu : j = t
    · subst hu; rw [fu_eq, fu_eq]
    · rw [fu_ne hu, fu_ne hu]; exact d j j0 j1
  · obtain ⟨e1, e2, e3⟩ := e u u0 u1
    rw [fu_ne (by omega), fu_ne (by omega), fu_ne (by omega)]; exact ⟨e1, e2, e3⟩
theorem mA_in {sz s dr : Int} {lov th ho bl lo : gF} {msz ms mdr : Int} {may mlo : gF} (h : mA sz s dr lov th ho bl lo msz ms mdr may mlo) (s' : Int) : mA sz s' dr lov th ho bl lo msz s' mdr may mlo := ⟨h.1, rfl, h.2.2⟩

