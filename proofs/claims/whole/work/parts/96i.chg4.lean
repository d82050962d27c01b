/-! CHANGES: undo, redo -/
theorem m192 {d : Nat} {I : ME} {Q : Option MV → ME → Prop} (h5 : 0 ≤ I 53 5 ∧ I 53 5 ≤ 40) (hp : I 53 5 ≠ 0 → 0 ≤ I 55 (I 53 5 - 1) ∧ I 55 (I 53 5 - 1) < 84) (h0 : I 53 5 = 0 → Q (some (nt (-5))) I)
    (h1 : I 53 5 ≠ 0 → Q (some (nt (I 53 5 - 1))) (upd_ (upd_ I 53 5 (I 53 5 - 1)) 54 (I 55 (I 53 5 - 1)) (I 56 (I 53 5 - 1)))) : EvM d 192 [rf 53] I Q := by
  refine EvM.go [] (T := T_192) rfl rfl rfl rfl ?_
  conv => whnf
  refine brI (fun e => ?_) (fun e => ?_) <;> conv => whnf
  · exact ⟨trivial, h0 e⟩
  · have := hp e
    repeat' first
      | (simp (disch := omega) only [up_c, up_eq, up_ne, isb_e])
      | (refine anI (by omega) ?_; conv => whnf)
    exact ⟨trivial, h1 e⟩
theorem m193 {d : Nat} {I : ME} {Q : Option MV → ME → Prop} (h5 : 0 ≤ I 53 5 ∧ I 53 5 ≤ I 53 4 ∧ I 53 4 ≤ 40) (hp : I 53 5 ≠ I 53 4 → 0 ≤ I 55 (I 53 5) ∧ I 55 (I 53 5) < 84) (h0 : I 53 5 = I 53 4 → Q (some (nt (-5))) I)
    (h1 : I 53 5 ≠ I 53 4 → Q (some (nt (I 53 4 - (I 53 5 + 1)))) (upd_ (upd_ I 54 (I 55 (I 53 5)) (I 57 (I 53 5))) 53 5 (I 53 5 + 1))) : EvM d 193 [rf 53] I Q := by
  refine EvM.go [] (T := T_193) rfl rfl rfl rfl ?_
  conv => whnf
  refine brI (fun e => ?_) (fun e => ?_) <;> conv => whnf
  · exact ⟨trivial, h0 e⟩
  · have := hp e
    repeat' first
      | (simp (disch := omega) only [up_c, up_eq, up_ne, isb_e, iad_e])
      | (refine anI (by omega) ?_; conv => whnf)
    exact ⟨trivial, h1 e⟩
theorem cE_tl {sz n w v v' : Int} (h : cE sz n w v v') (h12 : sz ≤ 12) : (n ≤ 2147483647 ∧ ((w = 0 ∧ lvC n) ∨ (1 ≤ w ∧ w ≤ 3 ∧ 0 ≤ n ∧ n < sz))) ∧ 0 ≤ plM n w ∧ plM n w < 84 := by
  obtain ⟨a, b, c⟩ := h
  refine ⟨⟨by omega, a⟩, ?_⟩
  unfold plM
  split <;> omega
theorem op33 : OpI 163 192 [] := by
  intro c I hc0 hc h
  have hf := h.f
  have hm := h.mono
  have hcc := h.cc
  have hce : ∀ i, 0 ≤ i → i < I 39 6 → _ := fun i a b => h.ce (i := i) a b
  obtain ⟨ln, hC, hM⟩ := h
  refine x163 (by omega) (x16 (by omega) (by omega) (by omega) (by omega) (fun i i0 i1 => ?_) (fun p => ?_) (fun p I1 t => ?_))
  · have := (cE_tl (hce i i0 (by omega)).1 (by omega)).1
    unfold tlC tkC
    omega
  · exact ⟨_, rfl, _, rfl, m192 (by omega) (fun q => by exfalso; omega) (fun q => ⟨rfl, hm, rfl⟩) (fun q => by exfalso; omega)⟩
  · have e0 := hce (I 39 5 - 1) (by omega) (by omega)
    have hk := cE_tl e0.1 (by omega)
    have hJ : CI ln c (upd_ I 39 5 (I 39 5 - 1)) := by
      obtain ⟨a, b, e', d, f, g, l, q, k⟩ := hC
      unfold CI
      simp (disch := omega) only [up_c, up_g, fu_eq, fu_ne]
      exact ⟨a, b, ⟨by omega, e'.2⟩, d, f, g, l, q, k⟩
    have hC1 := hJ.tl e0.1.2.1 t
    obtain ⟨s2, s3, s4, s5, s8, s1, hF1⟩ := t
    simp (disch := omega) only [up_c] at s2 s3 s4 s5 s8 s1
    have hF : Fr [1, 2, 3, 4, 5, 39] I I1 := fun c' hc' => by
      rw [hF1 c' (fun q => hc' (by simp at q ⊢; omega)), up_c (fun q => hc' (by simp [q]))]
    have g39 : I1 39 = fu (I 39) 5 (I 39 5 - 1) := by rw [hF1 39 (by decide), up_g]
    have e53 : I1 53 = I 53 := hF 53 (by decide)
    have e55 : I1 55 = I 55 := hF 55 (by decide)
    refine ⟨_, rfl, _, rfl, (m192 (Q := fun w' J => w' = some (nt (I 39 5 - 1)) ∧ J = upd_ (upd_ I1 53 5 (I1 53 5 - 1)) 54 (I1 55 (I1 53 5 - 1)) (I1 56 (I1 53 5 - 1))) (by rw [e53]; omega) (fun q => ?_) (fun q => ?_) (fun q => ⟨?_, rfl⟩)).keepM (gsM _ rfl) |>.mono fun w' J hw => ?_⟩
    · rw [e55, e53, show I 53 5 = I 39 5 by omega, e0.2.1]; exact hk.2
    · exfalso; rw [e53] at q; omega
    · rw [e53]; exact nt_c (by omega)
    · obtain ⟨⟨hw1, hJ⟩, hG⟩ := hw
      refine ⟨hw1, Rel.mk (ln := ln) (I1 := I1) hC1 ?_ (fun c' hc' => funext fun j => hG c' (by unfold GM; omega) j), ?_⟩
      · obtain ⟨a, b', g, d, f, r, l⟩ := hM
        rw [hJ]
        unfold MR_
        simp (disch := omega) only [up_c, up_g, fu_eq, fu_ne]
        simp only [hF 6 (by decide), hF 15 (by decide), hF 36 (by decide), hF 37 (by decide), hF 40 (by decide), hF 41 (by decide), hF 42 (by decide), hF 43 (by decide), hF 45 (by decide), hF 48 (by decide), hF 49 (by decide), hF 50 (by decide), hF 51 (by decide), hF 8 (by decide), hF 9 (by decide), hF 10 (by decide), hF 13 (by decide), hF 14 (by decide), hF 34 (by decide), hF 44 (by decide), hF 7 (by decide), hF 35 (by decide), hF 38 (by decide), hF 46 (by decide), hF 52 (by decide), hF 53 (by decide), hF 54 (by decide), hF 58 (by decide), hF 59 (by decide), hF 55 (by decide), hF 56 (by decide), hF 57 (by decide), hF 69 (by decide), hF 70 (by decide), hF 71 (by decide), hF 72 (by decide), hF 73 (by decide), hF 74 (by decide), hF 75 (by decide), hF 76 (by decide), hF 77 (by decide), hF 78 (by decide), hF 60 (by decide), g39, s2, s3, s4, s5, s1 5 (by decide), s1 6 (by decide), s1 7 (by decide)]
        simp (disch := omega) only [fu_eq, fu_ne]
        have e5 : I 53 5 = I 39 5 := by omega
        rw [e5, e0.2.1, e0.2.2.1]
        exact ⟨mA_pl a (by omega), b', ⟨rfl, g.2⟩, d, f, r, l⟩
      · rw [hJ]
        simp (disch := omega) only [up_c]
        exact hF 1000 (by decide)
theorem op34 : OpI 164 193 [] := by
  intro c I hc0 hc h
  have hf := h.f
  have hm := h.mono
  have hcc := h.cc
  have hce : ∀ i, 0 ≤ i → i < I 39 6 → _ := fun i a b => h.ce (i := i) a b
  obtain ⟨ln, hC, hM⟩ := h
  refine x164 (by omega) (x17 (by omega) (by omega) (by omega) (by omega) (fun i i0 i1 => ?_) (fun p => ?_) (fun p I1 t => ?_))
  · have := (cE_tl (hce i i0 (by omega)).1 (by omega)).1
    unfold tlC tkC
    omega
  · exact ⟨_, rfl, _, rfl, m193 (by omega) (fun q => by exfalso; omega) (fun q => ⟨rfl, hm, rfl⟩) (fun q => by exfalso; omega)⟩
  · have e0 := hce (I 39 5) (by omega) (by omega)
    have hk := cE_tl e0.1 (by omega)
    have hC1 := hC.tl e0.1.2.2 t
    obtain ⟨s2, s3, s4, s5, s8, s1, hF⟩ := t
    have e53 : I1 53 = I 53 := hF 53 (by decide)
    have e55 : I1 55 = I 55 := hF 55 (by decide)
    have hC2 : CI ln (c + 1) (upd_ I1 39 5 (I 39 5 + 1)) := by
      obtain ⟨a, b, e', d, f, g, l, q, k⟩ := hC1
      have e39 : I1 39 = I 39 := hF 39 (by decide)
      unfold CI
      simp (disch := omega) only [up_c, up_g, fu_eq, fu_ne]
      exact ⟨a, b, ⟨by rw [e39]; omega, e'.2⟩, d, f, g, l, q, k⟩
    have e53' : upd_ I1 39 5 (I 39 5 + 1) 53 = I 53 := by rw [up_c (by decide), e53]
    have e55' : upd_ I1 39 5 (I 39 5 + 1) 55 = I 55 := by rw [up_c (by decide), e55]
    refine ⟨_, rfl, _, rfl, (m193 (Q := fun w' J => w' = some (nt (I 39 6 - (I 39 5 + 1))) ∧ J = upd_ (upd_ (upd_ I1 39 5 (I 39 5 + 1)) 54 (I 55 (I 53 5)) (upd_ I1 39 5 (I 39 5 + 1) 57 (I 53 5))) 53 5 (I 53 5 + 1)) (by rw [e53']; omega) (fun q => ?_) (fun q => ?_) (fun q => ⟨?_, ?_⟩)).keepM (gsM _ rfl) |>.mono fun w' J hw => ?_⟩
    · rw [e55', e53', show I 53 5 = I 39 5 by omega, e0.2.1]; exact hk.2
    · exfalso; rw [e53'] at q; omega
    · rw [e53']; exact nt_c (by omega)
    · rw [e53', e55']
    · obtain ⟨⟨hw1, hJ⟩, hG⟩ := hw
      refine ⟨hw1, Rel.mk (ln := ln) (I1 := upd_ I1 39 5 (I 39 5 + 1)) hC2 ?_ (fun c' hc' => funext fun j => hG c' (by unfold GM; omega) j), ?_⟩
      · obtain ⟨a, b', g, d, f, r, l⟩ := hM
        rw [hJ]
        unfold MR_
        simp (disch := omega) only [up_c, up_g, fu_eq, fu_ne]
        simp only [hF 6 (by decide), hF 15 (by decide), hF 36 (by decide), hF 37 (by decide), hF 40 (by decide), hF 41 (by decide), hF 42 (by decide), hF 43 (by decide), hF 45 (by decide), hF 48 (by decide), hF 49 (by decide), hF 50 (by decide), hF 51 (by decide), hF 8 (by decide), hF 9 (by decide), hF 10 (by decide), hF 13 (by decide), hF 14 (by decide), hF 34 (by decide), hF 44 (by decide), hF 7 (by decide), hF 35 (by decide), hF 38 (by decide), hF 46 (by decide), hF 52 (by decide), hF 53 (by decide), hF 54 (by decide), hF 58 (by decide), hF 59 (by decide), hF 55 (by decide), hF 56 (by decide), hF 57 (by decide), hF 69 (by decide), hF 70 (by decide), hF 71 (by decide), hF 72 (by decide), hF 73 (by decide), hF 74 (by decide), hF 75 (by decide), hF 76 (by decide), hF 77 (by decide), hF 78 (by decide), hF 60 (by decide), hF 39 (by decide), s2, s3, s4, s5, s1 5 (by decide), s1 6 (by decide), s1 7 (by decide)]
        have e5 : I 53 5 = I 39 5 := by omega
        rw [e5, e0.2.1, e0.2.2.2]
        exact ⟨mA_pl a (by omega), b', ⟨rfl, g.2⟩, d, f, r, l⟩
      · rw [hJ]
        simp (disch := omega) only [up_c]
        exact hF 1000 (by decide)

