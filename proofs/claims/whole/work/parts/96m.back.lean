/-! THE IMAGE LAID BACK -/
theorem ltI {a b : Nat} {c : Prop} (h : a < b) (k : c) : a < b ∧ c := ⟨h, k⟩
theorem x24 {d : Nat} {I : ME} {Q : Option MV → ME → Prop} (hd : 1 ≤ d) (hz : I 34 3 ≠ 0 → 0 ≤ I 34 4 ∧ I 34 4 ≤ 12) (h0 : I 34 3 = 0 → Q (some (nt (-5))) I) (h1 : I 34 3 ≠ 0 → Q (some (nt (I 38 2))) (cpyM (cpyM (cpyM (upd_ (upd_ I 1 6 (iro (I 34 5) (ian (I 1 6) (isl (-1) (I 34 4))))) 1 7 (I 34 6)) 36 0 4 0 (I 34 4)) 37 0 6 0 6) 38 0 35 0 9)) : EvM d 24 [rf 34] I Q := by
  refine EvM.go [] (T := T_24) rfl rfl rfl rfl ?_
  conv => whnf
  refine brI (fun e => ?_) (fun e => ?_) <;> conv => whnf
  · exact ⟨trivial, h0 e⟩
  · have := hz e
    repeat' first
      | (simp (disch := omega) only [up_c, cp_c])
      | (refine anI (by omega) ?_; conv => whnf)
      | (refine ltI (by omega) ?_; conv => whnf)
    refine ⟨trivial, ?_⟩
    rw [cpy_g]
    simp only [if_pos (show (0 : Int) ≤ 2 ∧ (2 : Int) < 0 + 9 by decide)]
    rw [show (0 : Int) + (2 - 0) = 2 by decide]
    simp (disch := omega) only [up_c, cp_c]
    exact h1 e
theorem x162 {d : Nat} {I : ME} {Q : Option MV → ME → Prop} (hd : 2 ≤ d) (hz : I 34 3 ≠ 0 → 0 ≤ I 34 4 ∧ I 34 4 ≤ 12) (h0 : I 34 3 = 0 → Q (some (nt (-5))) I) (h1 : I 34 3 ≠ 0 → Q (some (nt (I 38 2))) (cpyM (cpyM (cpyM (upd_ (upd_ I 1 6 (iro (I 34 5) (ian (I 1 6) (isl (-1) (I 34 4))))) 1 7 (I 34 6)) 36 0 4 0 (I 34 4)) 37 0 6 0 6) 38 0 35 0 9)) : EvM d 162 [rf 0] I Q := by
  refine EvM.go [] (T := T_162) rfl rfl rfl rfl ?_
  conv => whnf
  refine ⟨by omega, x24 (by omega) hz (fun e => ?_) (fun e => ?_)⟩ <;> conv => whnf
  · exact ⟨trivial, h0 e⟩
  · exact ⟨trivial, h1 e⟩
def bkM (I : ME) (I' : ME) : Prop :=
  (I' 53 7 = iro (ian (I 53 7) (ixr (isb (isl 1 (I 53 37)) 1) (-1))) (I 53 38) ∧ I' 53 8 = I 53 39) ∧ (∀ t, 0 ≤ t → t < I 53 37 → I' 54 (48 + 3 * t + 1) = I 70 t) ∧ (∀ j, (∀ t, 0 ≤ t → t < I 53 37 → j ≠ 48 + 3 * t + 1) → I' 54 j = I 54 j) ∧
  I' 58 = setR (I 58) (I 71) 6 ∧ I' 69 = setR (I 69) (I 72) 6 ∧ (I' 53 32 = I 73 0 ∧ I' 53 33 = I 73 1 ∧ I' 53 34 = I 73 2) ∧ (∀ j, j ≠ 7 → j ≠ 8 → j ≠ 32 → j ≠ 33 → j ≠ 34 → I' 53 j = I 53 j) ∧ Fr [53, 54, 58, 69] I I'
theorem m273 {d : Nat} {I : ME} {Q : Option MV → ME → Prop} (hd : 1 ≤ d) (hz : I 53 36 ≠ 0 → 0 ≤ I 53 37 ∧ I 53 37 ≤ 12) (h0 : I 53 36 = 0 → Q (some (nt (-5))) I) (h1 : I 53 36 ≠ 0 → ∀ I', bkM I I' → Q (some (nt (I 73 2))) I') : EvM d 273 [rf 53] I Q := by
  refine EvM.go [46] (T := T_273) rfl rfl rfl rfl ?_
  conv => whnf
  refine brI (fun e => ?_) (fun e => ?_) <;> conv => whnf
  · exact ⟨trivial, h0 e⟩
  · have hz := hz e
    have h1 := h1 e
    simp (disch := omega) only [up_ne]
    refine ⟨trivial, ?_⟩
    have key2 : ∀ (J : ME) (x : Int), (J 53 7 = iro (ian (I 53 7) (ixr (isb (isl 1 (I 53 37)) 1) (-1))) (I 53 38) ∧ J 53 8 = I 53 39) → (∀ t, 0 ≤ t → t < I 53 37 → J 54 (48 + 3 * t + 1) = I 70 t) → (∀ j, (∀ t, 0 ≤ t → t < I 53 37 → j ≠ 48 + 3 * t + 1) → J 54 j = I 54 j) → (∀ j, j ≠ 7 → j ≠ 8 → J 53 j = I 53 j) → Fr [53, 54] I J → Ev d 273 77 [some (rf 53), some (nt x), some (nt 0)] [] J Q := by
      intro J x a1 a2 a3 a4 aF
      refine Ev.to (ls' := [some (rf 53), some (nt x), some (nt ((0 : Nat) : Int))]) (I' := setM (setM J 58 (I 71) ((0 : Nat) : Int)) 69 (I 72) ((0 : Nat) : Int)) rfl (by rw [show ((0 : Nat) : Int) = 0 from rfl, set_0, set_0]) (Ev.up 6 (fun i => [some (rf 53), some (nt x), some (nt (i : Nat))]) (fun i => setM (setM J 58 (I 71) (i : Nat)) 69 (I 72) (i : Nat)) ?_ ?_ 0 (by omega))
      · intro i hi ih
        refine Ev.go [77] (T := T_273) rfl rfl ?_
        conv => whnf
        refine brI (fun _ => ?_) (fun _ => by exfalso; omega)
        conv => whnf
        refine anI (by omega) ?_
        conv => whnf
        refine anI (by omega) ?_
        conv => whnf
        refine anI (by omega) ?_
        conv => whnf
        refine anI (by omega) ?_
        conv => whnf
        refine ⟨trivial, Ev.to ?_ ?_ ih⟩
        · rw [iad_e (by omega)]; rfl
        · have e1 : J 71 = I 71 := aF 71 (by decide)
          have e2 : J 72 = I 72 := aF 72 (by decide)
          simp (disch := omega) only [set_c, up_c, e1, e2]
          rw [← show ((i : Int) + 1) = ((i + 1 : Nat) : Int) from rfl, set_up (by decide), set_s (by omega), set_s (by omega)]
      · refine Ev.go [] (T := T_273) rfl rfl ?_
        conv => whnf
        refine anI (by omega) ?_
        conv => whnf
        refine anI (by omega) ?_
        conv => whnf
        refine anI (by omega) ?_
        conv => whnf
        have e3 : J 73 = I 73 := aF 73 (by decide)
        simp (disch := omega) only [set_c, up_c, up_eq, up_ne, e3]
        refine ⟨trivial, h1 _ ⟨⟨?_, ?_⟩, ?_, ?_, ?_, ?_, ⟨?_, ?_, ?_⟩, fun j j1 j2 j3 j4 j5 => ?_, ?_⟩⟩
        · simp (disch := omega) only [set_c, up_ne]; exact a1.1
        · simp (disch := omega) only [set_c, up_ne]; exact a1.2
        · simp (disch := omega) only [set_c, up_c]; exact a2
        · simp (disch := omega) only [set_c, up_c]; exact a3
        · simp (disch := omega) only [set_c, set_g, up_c]; rw [aF 58 (by decide)]; rfl
        · simp (disch := omega) only [set_c, set_g, up_c]; rw [aF 69 (by decide)]; rfl
        · simp (disch := omega) only [up_ne, up_eq]
        · simp (disch := omega) only [up_ne, up_eq]
        · simp (disch := omega) only [up_eq]
        · simp (disch := omega) only [set_c, up_ne]; exact a4 j j1 j2
        · intro c' hc'
          have q : c' ≠ 53 ∧ c' ≠ 54 ∧ c' ≠ 58 ∧ c' ≠ 69 := by simp at hc'; exact hc'
          simp (disch := omega) only [set_c, up_c]
          exact aF c' (by simp; omega)
    refine Ev.upP (I 53 37).toNat (fun i ls J => (∃ x : Int, ls = [some (rf 53), some (nt x), some (nt (i : Nat))]) ∧ (J 53 7 = iro (ian (I 53 7) (ixr (isb (isl 1 (I 53 37)) 1) (-1))) (I 53 38) ∧ J 53 8 = I 53 39) ∧ (∀ t : Int, 0 ≤ t → t < ((i : Nat) : Int) → J 54 (48 + 3 * t + 1) = I 70 t) ∧ (∀ j : Int, (∀ t : Int, 0 ≤ t → t < ((i : Nat) : Int) → j ≠ 48 + 3 * t + 1) → J 54 j = I 54 j) ∧ (∀ j, j ≠ 7 → j ≠ 8 → J 53 j = I 53 j) ∧ Fr [53, 54] I J) ?_ ?_ 0 _ _ (by omega) ⟨⟨_, rfl⟩, ⟨?_, ?_⟩, ?_, ?_, ?_, ?_⟩
    · intro i ls J hi hP hn
      obtain ⟨⟨x, rfl⟩, b1, b2, b3, b4, bF⟩ := hP
      have e37 := b4 37 (by decide) (by decide)
      refine Ev.go [46] (T := T_273) rfl rfl ?_
      conv => whnf
      refine brI (fun _ => ?_) (fun _ => by exfalso; omega)
      conv => whnf
      refine ⟨by omega, m241 (by omega) (by omega) ?_⟩
      conv => whnf
      refine anI (by omega) ?_
      conv => whnf
      refine anI (by omega) ?_
      conv => whnf
      refine ⟨trivial, hn _ _ ⟨⟨x, ?_⟩, ?_, fun t t0 t1 => ?_, fun j hj => ?_, fun j j1 j2 => ?_, fr_up bF (by decide)⟩⟩
      · show [_, _, some (nt (iad (i : Int) 1))] = _; rw [iad_e (by omega)]; rfl
      · simp (disch := omega) only [up_c]; exact b1
      · rw [bF 70 (by decide)]
        by_cases ht : t = (i : Int)
        · subst ht; rw [up_eq]
        · rw [up_ne (by omega)]; exact b2 t t0 (by omega)
      · rw [up_ne (hj (i : Int) (by omega) (by omega))]
        exact b3 j (fun t t0 t1 => hj t t0 (by omega))
      · rw [up_c (by decide)]; exact b4 j j1 j2
    · intro ls J hP
      obtain ⟨⟨x, rfl⟩, b1, b2, b3, b4, bF⟩ := hP
      rw [show (((I 53 37).toNat : Nat) : Int) = I 53 37 by omega] at b2 b3
      have e37 := b4 37 (by decide) (by decide)
      refine Ev.go [77] (T := T_273) rfl rfl ?_
      conv => whnf
      refine brI (fun _ => by exfalso; omega) (fun _ => ?_)
      conv => whnf
      exact ⟨trivial, key2 J x b1 b2 b3 b4 bF⟩
    · simp (disch := omega) only [up_eq, up_ne]
    · simp (disch := omega) only [up_eq]
    · intro t t0 t1; exfalso; omega
    · intro j hj; simp (disch := omega) only [up_c]
    · intro j j1 j2; rw [up_ne j2, up_ne j1]
    · exact fr_up (fr_up Fr.rfl' (by decide)) (by decide)
theorem op32 : OpI 162 273 [] := by
  intro c I hc0 hc h
  have hf := h.f
  have hm := h.mono
  obtain ⟨ln, hC, hM⟩ := h
  have hD := hC.2.2.2.1
  have hE := hM.2.2.2.1
  have e36 : I 53 36 = I 34 3 := hE.2.2.2.2.1
  refine x162 (by omega) (fun q => ?_) (fun q => ?_) (fun q => ?_)
  · have := (hD.2 (hD.1.resolve_left q)).1; omega
  · exact ⟨_, rfl, m273 (by omega) (fun p => by exfalso; omega) (fun p => ⟨rfl, hm, rfl⟩) (fun p => by exfalso; omega)⟩
  · have hh : I 34 3 = 1 := hD.1.resolve_left q
    obtain ⟨c1, ⟨c2, c3, c4⟩, ⟨c5, c6⟩, c7, c8⟩ := hD.2 hh
    obtain ⟨g1, g2, g3, g4, g5, g6, g7⟩ := hE.2.2.2.2.2 hh
    have e : ∀ J : ME, J = cpyM (cpyM (cpyM (upd_ (upd_ I 1 6 (iro (I 34 5) (ian (I 1 6) (isl (-1) (I 34 4))))) 1 7 (I 34 6)) 36 0 4 0 (I 34 4)) 37 0 6 0 6) 38 0 35 0 9 → J 53 = I 53 ∧ (∀ c, 53 ≤ c → J c = I c) := fun J hJ => by
      rw [hJ]
      exact ⟨by simp (disch := omega) only [cp_c, up_c], fun c hc => by simp (disch := omega) only [cp_c, up_c]⟩
    obtain ⟨f1, f2⟩ := full_b (z := I 34 4) c1.1 (by omega)
    have hcs : isl (-1) (I 34 4) = ixr (isb (isl 1 (I 34 4)) 1) (-1) := by
      have := isl_m1 ⟨(I 34 4).toNat, by omega⟩
      rw [show (((⟨(I 34 4).toNat, by omega⟩ : Fin 13).val : Nat) : Int) = I 34 4 by show (((I 34 4).toNat : Nat) : Int) = _; omega] at this
      exact this
    have e := e _ rfl
    refine ⟨_, rfl, (m273 (Q := fun w J => w = some (nt (I 38 2)) ∧ bkM (cpyM (cpyM (cpyM (upd_ (upd_ I 1 6 (iro (I 34 5) (ian (I 1 6) (isl (-1) (I 34 4))))) 1 7 (I 34 6)) 36 0 4 0 (I 34 4)) 37 0 6 0 6) 38 0 35 0 9) J) (by omega) (fun p => ?_) (fun p => ?_) (fun p I' hB => ⟨?_, hB⟩)).keepM (gsM _ rfl) |>.mono fun w J hw => ?_⟩
    · rw [e.1, g1]; omega
    · exfalso; rw [e.1] at p; omega
    · rw [e.2 73 (by decide)]; exact nt_c (g7 2 (by decide) (by decide))
    · obtain ⟨⟨hw1, ⟨k1, k2⟩, k3, k4, k5, k6, ⟨k7, k8, k9⟩, k10, kF⟩, hG⟩ := hw
      rw [e.1] at k1 k2 k3 k4 k10
      rw [e.2 54 (by decide)] at k4
      rw [e.2 70 (by decide)] at k3
      rw [e.2 58 (by decide), e.2 71 (by decide)] at k5
      rw [e.2 69 (by decide), e.2 72 (by decide)] at k6
      rw [e.2 73 (by decide)] at k7 k8 k9
      have kM : ∀ c, c ∈ ([55, 56, 57, 59, 60, 70, 71, 72, 73, 74, 75, 76, 77, 78] : List Nat) → J c = I c := fun c hc => by
        rw [kF c (by simp at hc ⊢; omega), e.2 c (by simp at hc; omega)]
      obtain ⟨⟨s1, s2⟩, s3⟩ := sdf_b (s := I 1 6) (b := isb (isl 1 (I 34 4)) 1) hf.2.1.1 hf.2.1.2 f1.1 (by omega)
      obtain ⟨⟨o1, o2⟩, o3⟩ := iro_b (s := I 34 5) (b := sdf (I 1 6) (isb (isl 1 (I 34 4)) 1)) c2 c3 s1 (by omega)
      refine ⟨hw1, Rel.mk (ln := ln) (I1 := cpyM (cpyM (cpyM (upd_ (upd_ I 1 6 (iro (I 34 5) (ian (I 1 6) (isl (-1) (I 34 4))))) 1 7 (I 34 6)) 36 0 4 0 (I 34 4)) 37 0 6 0 6) 38 0 35 0 9) ?_ ?_ (fun c' hc' => funext fun j => hG c' (by unfold GM; omega) j), ?_⟩
      · obtain ⟨a, b', g, d, f, r, l, u, v⟩ := hC
        unfold CI
        simp (disch := omega) only [cp_c, up_c, up_g, fu_eq, fu_ne]
        rw [hcs]
        obtain ⟨a1, a2, a3, a4, a5, a6⟩ := a
        have hbit : ∀ u, 0 ≤ u → u < 12 → (hasb (iro (I 34 5) (ian (I 1 6) (ixr (isb (isl 1 (I 34 4)) 1) (-1)))) u ↔ hasb (I 34 5) u ∨ (hasb (I 1 6) u ∧ ¬ u < I 34 4)) := fun u u0 u1 => by
          have := o3 u u0 (by omega)
          rw [s3 u u0 (by omega), f2 u u0 (by omega)] at this
          exact this
        have hp := pI_or (s := I 34 5) (s' := iro (I 34 5) (ian (I 1 6) (ixr (isb (isl 1 (I 34 4)) 1) (-1)))) (m := I 34 4) (n := I 1 5) c2 c3 o1 o2 c1.1 c1.2 hf.1.2 (fun u u0 u1 => by
          rw [hbit u u0 (by omega)]
          exact ⟨fun q => q.resolve_right (fun r => r.2 u1), Or.inl⟩) c4 (fun u u0 u1 q => by
          rcases (hbit u (by omega) u1).mp q with q | q
          · exact c4 u (by omega) u1 q
          · exact a2.2.2 u u0 u1 q.1)
        refine ⟨⟨a1, ⟨o1, o2, fun u u0 u1 q => ?_⟩, ⟨c5, by omega⟩, a4, fun t t0 t1 => ?_, fun p hp => ?_⟩, b', g, d, f, r, l, ⟨u.1, u.2.1, by omega⟩, v⟩
        · rcases (hbit u (by omega) u1).mp q with q | q
          · exact c4 u (by omega) u1 q
          · exact a2.2.2 u u0 u1 q.1
        · obtain ⟨t1', t2, t3⟩ := a5 t t0 t1
          refine ⟨t1', ?_, t3⟩
          rw [cpy_a]
          by_cases hh : 0 ≤ t ∧ t < 0 + I 34 4
          · rw [if_pos hh, show (0 : Int) + (t - 0) = t by omega]
            simp (disch := omega) only [up_c]
            exact c7 t t0 (by omega)
          · rw [if_neg hh]
            simp (disch := omega) only [up_c]
            exact t2
        · rw [cpy_a, if_pos (by omega), show (0 : Int) + (p - 0) = p by omega]
          simp (disch := omega) only [cp_c, up_c]
          exact c8 p hp
      · obtain ⟨a, b', g, d, f, r, l⟩ := hM
        unfold MR_
        simp only [kM 55 (by decide), kM 56 (by decide), kM 57 (by decide), kM 59 (by decide), kM 60 (by decide), kM 70 (by decide), kM 71 (by decide), kM 72 (by decide), kM 73 (by decide), kM 74 (by decide), kM 75 (by decide), kM 76 (by decide), kM 77 (by decide), kM 78 (by decide), k1, k2, k5, k6, k7, k8, k9]
        simp (disch := decide) only [k10]
        simp (disch := omega) only [cp_c, up_c, up_g, fu_eq, fu_ne]
        obtain ⟨a1, a2, a3, a4, a5, a6⟩ := a
        obtain ⟨d1, d2, d3, d4, d5, d6⟩ := d
        have ct : ∀ k, 0 ≤ k → k < 9 → cpyM (cpyM (cpyM (upd_ (upd_ I 1 6 (iro (I 34 5) (ian (I 1 6) (isl (-1) (I 34 4))))) 1 7 (I 34 6)) 36 0 4 0 (I 34 4)) 37 0 6 0 6) 38 0 35 0 9 35 k = I 38 k := fun k k0 k1 => by
          rw [cpy_a, if_pos (by omega), show (0 : Int) + (k - 0) = k by omega]
          simp (disch := omega) only [cp_c, up_c]
        refine ⟨⟨a1, ?_, g3, fun j j0 j1 => ?_, fun t t0 t1 => ?_, fun p hp => ?_⟩, b', g, ⟨?_, ?_, ?_, fun p hp => ?_, d5, fun _ => ⟨g1, g2, g3, g4, g5, g6, g7⟩⟩, f, r, l⟩
        · rw [g1, g2, a2, iro_comm, hcs]
        · rw [k4 j (fun t t0 t1 => by omega)]; exact a4 j j0 j1
        · obtain ⟨t1', t2, t3⟩ := a5 t t0 t1
          refine ⟨?_, ?_, ?_⟩
          · rw [k4 _ (fun u u0 u1 => by omega)]; exact t1'
          · rw [cpy_a]
            by_cases hh : 0 ≤ t ∧ t < 0 + I 34 4
            · rw [if_pos hh, show (0 : Int) + (t - 0) = t by omega, k3 t t0 (by omega)]
              simp (disch := omega) only [up_c]
              exact g4 t t0 (by omega)
            · rw [if_neg hh, k4 _ (fun u u0 u1 => by omega)]
              simp (disch := omega) only [up_c]
              exact t2
          · rw [k4 _ (fun u u0 u1 => by omega)]; exact t3
        · rw [setR_eq (by omega), cpy_a, if_pos (by omega), show (0 : Int) + (p - 0) = p by omega]
          simp (disch := omega) only [cp_c, up_c]
          exact g5 p hp
        · rw [ct 0 (by decide) (by decide)]; exact g7 0 (by decide) (by decide)
        · rw [ct 1 (by decide) (by decide)]; exact g7 1 (by decide) (by decide)
        · rw [ct 2 (by decide) (by decide)]; exact g7 2 (by decide) (by decide)
        · rw [setR_eq (by omega), ct (3 + p) (by omega) (by omega)]; exact g6 p hp
      · rw [kF 1000 (by decide), e.2 1000 (by decide)]
