/-! DRAWS IN THOUGHT: the class begins, and draws a set at once -/
def hcC (I : ME) (p t : Int) : Prop := hasb (I 1 6) t ∧ I 4 t = p
theorem x117 {d n : Nat} {I : ME} {Q : Option MV → ME → Prop} (hd : 3 ≤ d) (hn : I 1 5 = (n : Int)) (hn12 : n ≤ 12) (hh : ∀ t : Int, 0 ≤ t → t < 12 → pH (I 4 t))
    (h : ∀ J, Fr [16, 17, 18, 19] I J → J 16 5 = I 1 6 → J 16 6 = I 1 7 → (∀ p, pP p → J 17 p = I 6 p ∧ J 18 p = (ctP (hcC I p) n : Int) ∧ J 19 p = 0) → Q none J) : EvM d 117 [rf 16] I Q := by
  have loop2 : ∀ (m i : Nat) (x : Option MV) (J : ME), i + m = n → Fr [16, 17, 18, 19] I J → J 16 5 = I 1 6 → J 16 6 = I 1 7 → (∀ p, pP p → J 17 p = I 6 p ∧ J 18 p = (ctP (hcC I p) i : Int) ∧ J 19 p = 0) → Ev d 117 66 [some (rf 16), some (nt (i : Int)), x] [] J Q := by
    intro m
    induction m with
    | zero =>
      intro i x J hi hF h5 h6 hp
      have e5 : J 1 5 = (n : Int) := by rw [hF 1 (by decide)]; exact hn
      refine Ev.go [] (T := T_117) rfl rfl ?_
      conv => whnf
      refine ⟨by omega, x35 ?_⟩
      conv => whnf
      refine brI (fun z => ?_) (fun z => ?_)
      all_goals first | (exfalso; omega) | skip
      conv => whnf
      have e : i = n := by omega
      subst e
      exact ⟨trivial, h J hF h5 h6 hp⟩
    | succ m ih =>
      intro i x J hi hF h5 h6 hp
      have e1 : J 1 = I 1 := hF 1 (by decide)
      have e4 : J 4 = I 4 := hF 4 (by decide)
      have e5 : J 1 5 = (n : Int) := by rw [e1]; exact hn
      have ei : iad (i : Int) 1 = ((i + 1 : Nat) : Int) := by rw [iad_e (by omega)]; rfl
      have hb := hh (i : Int) (by omega) (by omega)
      have tk : tkC J (i : Int) := by unfold tkC; omega
      have skip : ∀ x, (∀ p, pP p → ¬ hcC I p (i : Int)) → Ev d 117 66 [some (rf 16), some (nt (iad (i : Int) 1)), x] [] J Q := fun x hs => by
        rw [ei]
        exact ih (i + 1) x J (by omega) hF h5 h6 (fun p q => by rw [ctP_f (hs p q)]; exact hp p q)
      refine Ev.go [66] (T := T_117) rfl rfl ?_
      conv => whnf
      refine ⟨by omega, x35 ?_⟩
      conv => whnf
      refine brI (fun z => ?_) (fun z => ?_)
      all_goals first | (exfalso; omega) | skip
      conv => whnf
      refine ⟨by omega, x44 (by omega) (by omega) (fun _ => ?_) (fun z => absurd tk z)⟩
      conv => whnf
      rw [e4]
      refine ⟨by omega, x37 (by omega) (fun q => ?_) (fun q => ?_)⟩ <;> conv => whnf
      · have q1 : hasb (I 1 6) (i : Int) := by have := q.2; rw [e1] at this; exact this
        refine ⟨by omega, x175 (fun hk => ?_) (fun hk => ?_)⟩ <;> conv => whnf
        · have ek := (hp _ hk).2.1
          have hc := ctP_le (hcC I (I 4 (i : Int))) i
          iterate 2
            refine anI (by omega) ?_
            conv => whnf
          rw [ei]
          refine ⟨trivial, ih (i + 1) _ _ (by omega) (fr_up hF (by decide)) ?_ ?_ (fun p hq => ⟨?_, ?_, ?_⟩)⟩
          · rw [up_c (by decide)]; exact h5
          · rw [up_c (by decide)]; exact h6
          · rw [up_c (by decide)]; exact (hp p hq).1
          · rw [up_any]
            by_cases w : p = I 4 (i : Int)
            · rw [if_pos w, ctP_t (show hcC I p (i : Int) from ⟨q1, w.symm⟩), ek, w, iad_e (by omega)]; rfl
            · rw [if_neg w, ctP_f (show ¬ hcC I p (i : Int) from fun z => w z.2.symm)]; exact (hp p hq).2.1
          · rw [up_c (by decide)]; exact (hp p hq).2.2
        · exact ⟨trivial, skip _ (fun p q2 w => hk (by rw [w.2]; exact q2))⟩
      · exact ⟨trivial, skip _ (fun p _ w => q ⟨tk, by rw [e1]; exact w.1⟩)⟩
  have loop1 : ∀ (m i : Nat) (J : ME), i + m = 6 → Fr [16, 17, 18, 19] I J → J 16 5 = I 1 6 → J 16 6 = I 1 7 → (∀ p : Int, 0 ≤ p → p < i → J 17 p = I 6 p ∧ J 18 p = 0 ∧ J 19 p = 0) → Ev d 117 24 [some (rf 16), some (nt (i : Int)), none] [] J Q := by
    intro m
    induction m with
    | zero =>
      intro i J hi hF h5 h6 hp
      refine Ev.go [66] (T := T_117) rfl rfl ?_
      conv => whnf
      refine brI (fun z => ?_) (fun z => ?_)
      all_goals first | (exfalso; omega) | skip
      conv => whnf
      exact ⟨trivial, loop2 n 0 none J (by omega) hF h5 h6 (fun p q => hp p q.1 (by have := q.2; omega))⟩
    | succ m ih =>
      intro i J hi hF h5 h6 hp
      have e6 : J 6 = I 6 := hF 6 (by decide)
      refine Ev.go [24] (T := T_117) rfl rfl ?_
      conv => whnf
      refine brI (fun z => ?_) (fun z => ?_)
      all_goals first | (exfalso; omega) | skip
      conv => whnf
      refine ⟨by omega, x51 (by omega) (fun _ => ?_) (fun z => absurd (show pP (i : Int) by omega) z)⟩
      conv => whnf
      rw [e6]
      iterate 3
        refine anI (by omega) ?_
        conv => whnf
      refine ⟨trivial, Ev.to ?_ rfl (ih (i + 1) _ (by omega) (fr_up (fr_up (fr_up (i := (i : Int)) (v := I 6 (i : Int)) hF (by decide : (17 : Nat) ∈ [16, 17, 18, 19])) (by decide : (18 : Nat) ∈ [16, 17, 18, 19]) (i := (i : Int)) (v := 0)) (by decide : (19 : Nat) ∈ [16, 17, 18, 19]) (i := (i : Int)) (v := 0)) ?_ ?_ (fun p h0 h1 => ?_))⟩
      · rw [iad_e (by omega)]; rfl
      · rw [up_c (by decide), up_c (by decide), up_c (by decide)]; exact h5
      · rw [up_c (by decide), up_c (by decide), up_c (by decide)]; exact h6
      · have a1 : ∀ v w u : Int, upd_ (upd_ (upd_ J 17 (i : Int) v) 18 (i : Int) w) 19 (i : Int) u 17 p = if p = (i : Int) then v else J 17 p := fun v w u => by
          rw [up_c (by decide), up_c (by decide), up_any]
        have a2 : ∀ v w u : Int, upd_ (upd_ (upd_ J 17 (i : Int) v) 18 (i : Int) w) 19 (i : Int) u 18 p = if p = (i : Int) then w else J 18 p := fun v w u => by
          rw [up_c (by decide), up_any, up_c (by decide)]
        have a3 : ∀ v w u : Int, upd_ (upd_ (upd_ J 17 (i : Int) v) 18 (i : Int) w) 19 (i : Int) u 19 p = if p = (i : Int) then u else J 19 p := fun v w u => by
          rw [up_any, up_c (by decide), up_c (by decide)]
        rw [a1, a2, a3]
        by_cases w : p = (i : Int)
        · rw [if_pos w, if_pos w, if_pos w, w]; exact ⟨rfl, rfl, rfl⟩
        · rw [if_neg w, if_neg w, if_neg w]; exact hp p h0 (by omega)
  refine EvM.go [24] (T := T_117) rfl rfl rfl rfl ?_
  conv => whnf
  refine ⟨trivial, loop1 6 0 _ rfl (fr_up (fr_up Fr.rfl' (by decide)) (by decide)) ?_ ?_ (fun p h0 h1 => by exfalso; omega)⟩
  · rw [up_ne (by decide), up_eq]
  · rw [up_eq, up_c (by decide)]
/-- a set that is in, drawn at once -/
def suB (S s : Int) : Prop := (0 ≤ S ∧ S < 4096) ∧ ∀ u, 0 ≤ u → u < 32 → hasb S u → hasb s u
theorem x122 {d : Nat} {ln : lz_L} {L : LT} {S : Int} {I : ME} {Q : Option MV → ME → Prop} (hd : 6 ≤ d) (hC : CX ln L I) (hS : suB S (tIn L))
    (h : ∀ J, Fr [11, 12, 13, 16, 17, 18, 19] I J → CX ln L J → (∀ p, pP p → J 19 p = lsS ln L p S) → Q none J) : EvM d 122 [rf 16, nt S] I Q := by
  obtain ⟨f1, f2, f3, f4, f5, f6, f7, f8⟩ := hC.f
  have hO := hC.2.1
  have g := hO.f
  have hct : ∀ i : Nat, i ≤ (tSz L).toNat → (ctP (fun t => hasb S t) i : Int) ≤ pI (tIn L) := fun i hi => ctP_pI g.2.1.1 g.2.1.2 (by omega) (fun j hj q => hS.2 _ (by omega) (by omega) q)
  have loop : ∀ (m i : Nat) (J : ME), i + m = (tSz L).toNat → Fr [11, 12, 13, 16, 17, 18, 19] I J → CX ln L J → J 16 6 = tDr L + (ctP (fun t => hasb S t) i : Int) → (∀ p, pP p → (J 17 p, J 19 p) = faS ln L (hlL L p) p S i ∧ J 18 p = hlL L p) → Ev d 122 6 [some (rf 16), some (nt S), some (nt (i : Int))] [] J Q := by
    intro m
    induction m with
    | zero =>
      intro i J hi hF hX h6 hp
      obtain ⟨j1, -⟩ := hX.f
      refine Ev.go [] (T := T_122) rfl rfl ?_
      conv => whnf
      refine ⟨by omega, x35 ?_⟩
      conv => whnf
      refine brI (fun z => ?_) (fun z => ?_)
      all_goals first | (exfalso; omega) | skip
      conv => whnf
      have e : i = (tSz L).toNat := by omega
      subst e
      exact ⟨trivial, h J hF hX (fun p q => by have := (hp p q).1; unfold lsS; rw [← this])⟩
    | succ m ih =>
      intro i J hi hF hX h6 hp
      obtain ⟨j1, -⟩ := hX.f
      have ei : iad (i : Int) 1 = ((i + 1 : Nat) : Int) := by rw [iad_e (by omega)]; rfl
      refine Ev.go [6] (T := T_122) rfl rfl ?_
      conv => whnf
      refine ⟨by omega, x35 ?_⟩
      conv => whnf
      refine brI (fun z => ?_) (fun z => ?_)
      all_goals first | (exfalso; omega) | skip
      conv => whnf
      refine brI (fun z => ?_) (fun z => ?_) <;> conv => whnf
      all_goals first
        | (have hb : hasb S (i : Int) := by (first | exact z | exact Classical.byContradiction z)
           have hc1 := hct i (by omega)
           have hc2 := hct (i + 1) (by omega)
           rw [ctP_t (p := fun t => hasb S t) hb] at hc2
           refine ⟨by omega, x120 (by omega) hX (by omega) (fun p q => ?_) (by omega) (fun J2 hF2 hX2 g5 g6 g7 => ?_)⟩
           · have hpp := hp p q
             have hbd := faS_bd (ln := ln) (h := hlL L p) (S := S) hO q i (by omega)
             have hl := hlL_bd hO p
             rw [← hpp.1] at hbd
             rw [hpp.2]
             refine ⟨hbd.1, hl, ?_⟩
             have := hbd.2
             have e : ((J 17 p, J 19 p) : Int × Int).2 = J 19 p := rfl
             rw [e] at this
             omega
           · conv => whnf
             rw [ei]
             refine ⟨trivial, ih (i + 1) J2 (by omega) (hF.tr (fun c hc => hF2 c (fun z => hc (by simp at z; rcases z with rfl | rfl | rfl | rfl | rfl | rfl <;> decide)))) hX2 ?_ (fun p q => ⟨?_, ?_⟩)⟩
             · rw [g6, h6, ctP_t (p := fun t => hasb S t) hb]; omega
             · rw [g7 p q, (hp p q).1, (hp p q).2, h6]
               conv => rhs; unfold faS
               rw [if_pos hb]
             · rw [hF2 18 (by decide)]; exact (hp p q).2)
        | (have hb : ¬ hasb S (i : Int) := z
           rw [ei]
           refine ⟨trivial, ih (i + 1) J (by omega) hF hX ?_ (fun p q => ⟨?_, (hp p q).2⟩)⟩
           · rw [h6, ctP_f (p := fun t => hasb S t) hb]
           · rw [(hp p q).1]
             conv => rhs; unfold faS
             rw [if_neg hb])
  refine EvM.go [6] (T := T_122) rfl rfl rfl rfl ?_
  conv => whnf
  refine ⟨by omega, x117 (n := (tSz L).toNat) (by omega) (by omega) (by omega) (fun t t0 t1 => by rw [f6]; exact (hO.t t0 t1).2.1) (fun J hF h5 h6 hp => ?_)⟩
  conv => whnf
  refine ⟨trivial, loop (tSz L).toNat 0 J (by omega) (fun c hc => hF c (fun z => hc (by simp at z; rcases z with rfl | rfl | rfl | rfl <;> decide))) (hC.fr (fun c hc => hF c (by simp; omega))) ?_ (fun p q => ⟨?_, ?_⟩)⟩
  · rw [h6, f3]; show tDr L = tDr L + ((0 : Nat) : Int); omega
  · rw [(hp p q).1, (hp p q).2.2, f8]; rfl
  · rw [(hp p q).2.1]; unfold hcC; rw [f2, f6]; rfl
theorem x123 {d : Nat} {ln : lz_L} {L : LT} {k S : Int} {I : ME} {Q : Option MV → ME → Prop} (hd : 7 ≤ d) (hC : CX ln L I) (hS : suB S (tIn L)) (hk : pP k)
    (h : ∀ J, Fr [11, 12, 13, 16, 17, 18, 19] I J → CX ln L J → (∀ p, pP p → J 19 p = lsS ln L p S) → Q (some (nt (lsS ln L k S))) J) : EvM d 123 [rf 16, nt k, nt S] I Q := by
  refine EvM.go [] (T := T_123) rfl rfl rfl rfl ?_
  conv => whnf
  refine ⟨by omega, x122 (by omega) hC hS (fun J hF hX hp => ?_)⟩
  conv => whnf
  refine ⟨by omega, x118 hk ?_ (by omega)⟩
  conv => whnf
  rw [hp k hk]
  exact ⟨trivial, h J hF hX hp⟩
