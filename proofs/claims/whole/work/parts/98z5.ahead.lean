/-! TOLD AHEAD -/
abbrev AS : Type := Int × Int × Int × Int
noncomputable def ahS (ln : lz_L) (L : LT) (one S t k : Int) (s : AS) : AS :=
  if s.1 = -2 ∨ lsS ln (Lho L t k) one S < s.2.2.1 ∨ (lsS ln (Lho L t k) one S = s.2.2.1 ∧ s.2.2.2 < lsS ln (Lho L t k) k S) then (t, k, lsS ln (Lho L t k) one S, lsS ln (Lho L t k) k S) else s
noncomputable def ahI (ln : lz_L) (L : LT) (one S t : Int) (s : AS) : Nat → AS
  | 0 => s
  | k + 1 => if (k : Int) = one then ahI ln L one S t s k else ahS ln L one S t (k : Int) (ahI ln L one S t s k)
noncomputable def ahO (ln : lz_L) (L : LT) (one S : Int) : Nat → AS
  | 0 => (-2, -2, 0, 0)
  | t + 1 => if hasb (tIn L) (t : Int) ∧ tHo L (t : Int) = one then ahI ln L one S (t : Int) (ahO ln L one S t) 6 else ahO ln L one S t
theorem ahS_p {ln : lz_L} {L : LT} {one S t k : Int} {s : AS} (t0 : 0 ≤ t) : 0 ≤ (ahS ln L one S t k s).1 ∨ ahS ln L one S t k s = s ∧ s.1 ≠ -2 := by
  unfold ahS
  split
  · exact Or.inl t0
  · rename_i q; exact Or.inr ⟨rfl, fun z => q (Or.inl z)⟩
theorem ahI_p {ln : lz_L} {L : LT} {one S t : Int} {s : AS} (t0 : 0 ≤ t) (hs : s.1 = -2 ∨ 0 ≤ s.1) : ∀ k : Nat, (ahI ln L one S t s k).1 = -2 ∨ 0 ≤ (ahI ln L one S t s k).1
  | 0 => hs
  | k + 1 => by
    have ih := ahI_p (ln := ln) (L := L) (one := one) (S := S) t0 hs k
    unfold ahI
    split
    · exact ih
    · rcases ahS_p (ln := ln) (L := L) (one := one) (S := S) (k := (k : Int)) (s := ahI ln L one S t s k) t0 with q | q
      · exact Or.inr q
      · rw [q.1]; exact ih
theorem ahI_q {ln : lz_L} {L : LT} {one S t : Int} {s : AS} (t0 : 0 ≤ t) (hs : s.1 = -2 ∨ 0 ≤ s.1) : 0 ≤ (ahI ln L one S t s 6).1 := by
  have st : ∀ k : Nat, (k : Int) ≠ one → 0 ≤ (ahI ln L one S t s (k + 1)).1 := fun k hk => by
    have := ahI_p (ln := ln) (L := L) (one := one) (S := S) t0 hs k
    unfold ahI
    rw [if_neg hk]
    rcases ahS_p (ln := ln) (L := L) (one := one) (S := S) (k := (k : Int)) (s := ahI ln L one S t s k) t0 with q | q
    · exact q
    · rw [q.1]; have := q.2; omega
  by_cases h5 : ((5 : Nat) : Int) = one
  · have h4 := st 4 (by omega)
    unfold ahI
    rw [if_pos h5]
    exact h4
  · exact st 5 h5
theorem ahO_p {ln : lz_L} {L : LT} {one S : Int} : ∀ t : Nat, ((ahO ln L one S t).1 = -2 ∨ 0 ≤ (ahO ln L one S t).1) ∧ (0 < ctP (fun t => hasb (tIn L) t ∧ tHo L t = one) t → 0 ≤ (ahO ln L one S t).1) ∧ (ctP (fun t => hasb (tIn L) t ∧ tHo L t = one) t = 0 → ahO ln L one S t = (-2, -2, 0, 0))
  | 0 => ⟨Or.inl rfl, fun h => absurd h (Nat.lt_irrefl 0), fun _ => rfl⟩
  | t + 1 => by
    obtain ⟨a, b, c⟩ := ahO_p (ln := ln) (L := L) (one := one) (S := S) t
    unfold ahO
    by_cases h : hasb (tIn L) (t : Int) ∧ tHo L (t : Int) = one
    · rw [if_pos h, ctP_t (p := fun t => hasb (tIn L) t ∧ tHo L t = one) h]
      have q := ahI_q (ln := ln) (L := L) (one := one) (S := S) (t := (t : Int)) (by omega) a
      exact ⟨Or.inr q, fun _ => q, fun z => by omega⟩
    · rw [if_neg h, ctP_f (p := fun t => hasb (tIn L) t ∧ tHo L t = one) h]
      exact ⟨a, b, c⟩
noncomputable def F20 (k s w : Int) (ln : lz_L) (L : LT) : Int := if pP k ∧ ian s (ixr (tIn L) (-1)) = 0 ∧ 0 ≤ w ∧ w ≤ 2 then (if hlL L k = 0 then -2 else if w = 0 then (ahO ln L k s (tSz L).toNat).1 else if w = 1 then (ahO ln L k s (tSz L).toNat).2.1 else (ahO ln L k s (tSz L).toNat).2.2.1) else -2000000000
theorem suB_ho {L : LT} {t k S : Int} (h : suB S (tIn L)) : suB S (tIn (Lho L t k)) := h
theorem x83 {d : Nat} {ln : lz_L} {L : LT} {one S w : Int} {I : ME} {Q : Option MV → ME → Prop} (hd : 9 ≤ d) (hC : CX ln L I) (hk : pP one) (hS : suB S (tIn L))
    (h : ∀ J, Fr [11, 12, 13, 16, 17, 18, 19] I J → CX ln L J → Q (some (nt (if w = 0 then (ahO ln L one S (tSz L).toNat).1 else if w = 1 then (ahO ln L one S (tSz L).toNat).2.1 else (ahO ln L one S (tSz L).toNat).2.2.1))) J) : EvM d 83 [rf 24, nt one, nt S, nt w] I Q := by
  have hO := hC.2.1
  have g := hO.f
  have loop2 : ∀ (q i : Nat) (t : Int) (s0 : AS) (x y : Option MV) (s : AS) (k0 : Int) (J : ME) (Q' : Option MV → ME → Prop), i + q = 6 → 0 ≤ t → t < tSz L → tHo L t = one → s = ahI ln L one S t s0 i → pH k0 → Fr [4, 11, 12, 13, 16, 17, 18, 19] I J → CX ln (Lho L t k0) J →
      (∀ (x y : Option MV) (k0 : Int) (J : ME), pH k0 → Fr [4, 11, 12, 13, 16, 17, 18, 19] I J → CX ln (Lho L t k0) J → Ev d 83 141 [some (rf 24), some (nt one), some (nt S), some (nt w), some (nt (ahI ln L one S t s0 6).1), some (nt (ahI ln L one S t s0 6).2.1), some (nt (ahI ln L one S t s0 6).2.2.1), some (nt (ahI ln L one S t s0 6).2.2.2), some (nt t), some (nt ((6 : Nat) : Int)), x, y] [] J Q') →
      Ev d 83 45 [some (rf 24), some (nt one), some (nt S), some (nt w), some (nt s.1), some (nt s.2.1), some (nt s.2.2.1), some (nt s.2.2.2), some (nt t), some (nt (i : Int)), x, y] [] J Q' := by
    intro q
    induction q with
    | zero =>
      intro i t s0 x y s k0 J Q' hi t0 t1 ht hs hk0 hF hX hn
      refine Ev.go [141] (T := T_83) rfl rfl ?_
      conv => whnf
      refine brI (fun z => ?_) (fun z => ?_)
      all_goals first | (exfalso; omega) | skip
      conv => whnf
      have e : i = 6 := by omega
      subst e
      subst hs
      exact ⟨trivial, hn x y k0 J hk0 hF hX⟩
    | succ q ih =>
      intro i t s0 x y s k0 J Q' hi t0 t1 ht hs hk0 hF hX hn
      have ei : iad (i : Int) 1 = ((i + 1 : Nat) : Int) := by rw [iad_e (by omega)]; rfl
      refine Ev.go [45] (T := T_83) rfl rfl ?_
      conv => whnf
      refine brI (fun z => ?_) (fun z => ?_)
      all_goals first | (exfalso; omega) | skip
      conv => whnf
      refine brI (fun z1 => ?_) (fun z1 => ?_) <;> conv => whnf
      · refine ⟨trivial, ?_⟩
        rw [ei]
        refine ih (i + 1) t s0 x y s k0 J Q' (by omega) t0 t1 ht ?_ hk0 hF hX hn
        conv => rhs; unfold ahI
        rw [if_pos z1]; exact hs
      · have hki : pP (i : Int) := by omega
        refine ⟨by omega, x45L (by omega) hX ⟨t0, t1⟩ (Or.inr hki) (fun hX2 => ?_)⟩
        rw [Lho_2] at hX2
        conv => whnf
        refine ⟨by omega, x123 (by omega) hX2 (suB_ho hS) hk (fun J2 hF2 hX3 hp => ?_)⟩
        conv => whnf
        refine ⟨by omega, x118 hki ?_ (by omega)⟩
        rw [hp _ hki]
        conv => whnf
        have hF3 : Fr [4, 11, 12, 13, 16, 17, 18, 19] I J2 := (fr_up hF (by decide)).tr (hF2.sub (by decide))
        have fin1 : ∀ x y, (s.1 = -2 ∨ lsS ln (Lho L t (i : Int)) one S < s.2.2.1 ∨ (lsS ln (Lho L t (i : Int)) one S = s.2.2.1 ∧ s.2.2.2 < lsS ln (Lho L t (i : Int)) (i : Int) S)) → Ev d 83 45 [some (rf 24), some (nt one), some (nt S), some (nt w), some (nt t), some (nt (i : Int)), some (nt (lsS ln (Lho L t (i : Int)) one S)), some (nt (lsS ln (Lho L t (i : Int)) (i : Int) S)), some (nt t), some (nt (iad (i : Int) 1)), x, y] [] J2 Q' := fun x y hc => by
          rw [ei]
          refine ih (i + 1) t s0 x y (t, (i : Int), lsS ln (Lho L t (i : Int)) one S, lsS ln (Lho L t (i : Int)) (i : Int) S) (i : Int) J2 Q' (by omega) t0 t1 ht ?_ (Or.inr hki) hF3 hX3 hn
          conv => rhs; unfold ahI
          rw [if_neg z1, ← hs]
          unfold ahS
          rw [if_pos hc]
        have fin2 : ∀ x y, (¬ (s.1 = -2 ∨ lsS ln (Lho L t (i : Int)) one S < s.2.2.1 ∨ (lsS ln (Lho L t (i : Int)) one S = s.2.2.1 ∧ s.2.2.2 < lsS ln (Lho L t (i : Int)) (i : Int) S))) → Ev d 83 45 [some (rf 24), some (nt one), some (nt S), some (nt w), some (nt s.1), some (nt s.2.1), some (nt s.2.2.1), some (nt s.2.2.2), some (nt t), some (nt (iad (i : Int) 1)), x, y] [] J2 Q' := fun x y hc => by
          rw [ei]
          refine ih (i + 1) t s0 x y s (i : Int) J2 Q' (by omega) t0 t1 ht ?_ (Or.inr hki) hF3 hX3 hn
          conv => rhs; unfold ahI
          rw [if_neg z1, ← hs]
          unfold ahS
          rw [if_neg hc]
        refine brI (fun z2 => ?_) (fun z2 => ?_) <;> conv => whnf
        · exact ⟨trivial, fin1 _ _ (Or.inl z2)⟩
        · refine brI (fun z3 => ?_) (fun z3 => ?_) <;> conv => whnf
          · exact ⟨trivial, fin1 _ _ (Or.inr (Or.inl z3))⟩
          · refine brI (fun z4 => ?_) (fun z4 => ?_) <;> conv => whnf
            · refine brI (fun z5 => ?_) (fun z5 => ?_) <;> conv => whnf
              · exact ⟨trivial, fin1 _ _ (Or.inr (Or.inr ⟨z4, by omega⟩))⟩
              · exact ⟨trivial, fin2 _ _ (by omega)⟩
            · exact ⟨trivial, fin2 _ _ (by omega)⟩
  have loop1 : ∀ (q i : Nat) (x y z : Option MV) (s : AS) (J : ME), i + q = (tSz L).toNat → s = ahO ln L one S i → Fr [11, 12, 13, 16, 17, 18, 19] I J → CX ln L J →
      Ev d 83 17 [some (rf 24), some (nt one), some (nt S), some (nt w), some (nt s.1), some (nt s.2.1), some (nt s.2.2.1), some (nt s.2.2.2), some (nt (i : Int)), x, y, z] [] J Q := by
    intro q
    induction q with
    | zero =>
      intro i x y z s J hi hs hF hX
      have f := hX.f
      refine Ev.go [] (T := T_83) rfl rfl ?_
      conv => whnf
      refine ⟨by omega, x35 ?_⟩
      rw [f.1]
      conv => whnf
      refine brI (fun z => ?_) (fun z => ?_)
      all_goals first | (exfalso; omega) | skip
      conv => whnf
      have e : i = (tSz L).toNat := by omega
      subst e
      subst hs
      have hJ := h J hF hX
      refine brI (fun z => ?_) (fun z => ?_) <;> conv => whnf
      · rw [if_pos z] at hJ; exact ⟨trivial, hJ⟩
      · rw [if_neg z] at hJ
        refine brI (fun z => ?_) (fun z => ?_) <;> conv => whnf
        · first
          | (rw [if_pos z] at hJ; exact ⟨trivial, hJ⟩)
          | (rw [if_neg z] at hJ; exact ⟨trivial, hJ⟩)
        · first
          | (rw [if_neg z] at hJ; exact ⟨trivial, hJ⟩)
          | (rw [if_pos (Classical.byContradiction z)] at hJ; exact ⟨trivial, hJ⟩)
    | succ q ih =>
      intro i x y z s J hi hs hF hX
      have f := hX.f
      have ei : iad (i : Int) 1 = ((i + 1 : Nat) : Int) := by rw [iad_e (by omega)]; rfl
      refine Ev.go [17, 45] (T := T_83) rfl rfl ?_
      conv => whnf
      refine ⟨by omega, x35 ?_⟩
      rw [f.1]
      conv => whnf
      refine brI (fun z => ?_) (fun z => ?_)
      all_goals first | (exfalso; omega) | skip
      conv => whnf
      refine ⟨by omega, x46 (by omega) (by omega) (fun hh => ?_) (fun hh => ?_)⟩ <;> conv => whnf
      · unfold heC at hh
        rw [f.2.1, f.2.2.2.2.2.1] at hh
        refine ⟨trivial, loop2 6 0 (i : Int) s _ _ s (tHo L (i : Int)) J Q (by omega) (by omega) (by omega) hh.2.2 rfl (hO.t (by omega) (by omega)).2.1 (hF.sub (by decide)) (by rw [Lho_id]; exact hX) (fun x2 y2 k2 J2 hk2 hF2 hX2 => ?_)⟩
        refine Ev.go [17] (T := T_83) rfl rfl ?_
        conv => whnf
        refine ⟨by omega, x45L (by omega) hX2 ⟨by omega, (show (i : Int) < tSz L by omega)⟩ (Or.inr hk) (fun hX3 => ?_)⟩
        rw [Lho_bk hh.2.2] at hX3
        conv => whnf
        refine ⟨trivial, ?_⟩
        rw [ei]
        refine ih (i + 1) _ _ _ (ahI ln L one S (i : Int) s 6) _ (by omega) ?_ (Fr.back (fr_up hF2 (by decide)) ?_) hX3
        · conv => rhs; unfold ahO
          rw [if_pos ⟨hh.2.1, hh.2.2⟩, ← hs]
        · rw [hX3.f.2.2.2.2.2.1, hC.f.2.2.2.2.2.1]
      · refine ⟨trivial, ?_⟩
        rw [ei]
        refine ih (i + 1) _ _ _ s J (by omega) ?_ hF hX
        conv => rhs; unfold ahO
        rw [if_neg, ← hs]
        rintro ⟨a, b⟩
        refine hh ⟨by unfold tkC; omega, ?_, ?_⟩
        · rw [f.2.1]; exact a
        · rw [f.2.2.2.2.2.1]; exact b
  refine EvM.go [17] (T := T_83) rfl rfl rfl rfl ?_
  conv => whnf
  exact ⟨trivial, loop1 _ 0 none none none (-2, -2, 0, 0) I (Nat.zero_add _) rfl Fr.rfl' hC⟩
