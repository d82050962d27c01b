/-! TOLD AHEAD: the model; both alike -/
theorem m255_loop {d : Nat} {ln : lz_L} {L : LT} {one S w : Int} {I : ME} {Q : Option MV → ME → Prop} (hd : 66 ≤ d) (hC : MX ln L I) (hk : pP one) (hS : suB S (tIn L))
    (h : ∀ J, drM I J → Q (some (nt (if hlL L one = 0 then -2 else if w = 0 then (ahO ln L one S (tSz L).toNat).1 else if w = 1 then (ahO ln L one S (tSz L).toNat).2.1 else (ahO ln L one S (tSz L).toNat).2.2.1))) J) :
    Ev d 255 49 [some (rf 53), some (nt one), some (nt S), some (nt w), some (nt (-2)), some (nt (-2)), some (nt (-2)), some (nt 0), some (nt 0), none] [] I Q := by
  have hO := hC.1
  have g := hO.f
  have loop2 : ∀ (q i : Nat) (t : Int) (s0 s : AS) (le mo : Int) (J : ME) (Q' : Option MV → ME → Prop), i + q = 6 → 0 ≤ t → t < tSz L → (hasb (tIn L) t ∧ tHo L t = one) → (s0.1 = -2 ∨ 0 ≤ s0.1) → s = ahI ln L one S t s0 i → (0 ≤ s.1 → le = s.2.2.1 ∧ mo = s.2.2.2) → drM I J →
      (∀ (le mo : Int) (J : ME), (0 ≤ (ahI ln L one S t s0 6).1 → le = (ahI ln L one S t s0 6).2.2.1 ∧ mo = (ahI ln L one S t s0 6).2.2.2) → drM I J → Ev d 255 198 [some (rf 53), some (nt one), some (nt S), some (nt w), some (nt (ahI ln L one S t s0 6).1), some (nt (ahI ln L one S t s0 6).2.1), some (nt le), some (nt mo), some (nt t), some (nt ((6 : Nat) : Int))] [] J Q') →
      Ev d 255 61 [some (rf 53), some (nt one), some (nt S), some (nt w), some (nt s.1), some (nt s.2.1), some (nt le), some (nt mo), some (nt t), some (nt (i : Int))] [] J Q' := by
    intro q
    induction q with
    | zero =>
      intro i t s0 s le mo J Q' hi t0 t1 ht hs0 hs hl hF hn
      refine Ev.go [198] (T := T_255) rfl rfl ?_
      conv => whnf
      refine brI (fun z => ?_) (fun z => ?_)
      all_goals first | (exfalso; omega) | skip
      conv => whnf
      have e : i = 6 := by omega
      subst e
      subst hs
      exact ⟨trivial, hn le mo J hl hF⟩
    | succ q ih =>
      intro i t s0 s le mo J Q' hi t0 t1 ht hs0 hs hl hF hn
      have hX := hC.dr hF
      have f := hX.f
      have gT := hX.t t0 (by omega)
      have ei : iad (i : Int) 1 = ((i + 1 : Nat) : Int) := by rw [iad_e (by omega)]; rfl
      have hsp : s.1 = -2 ∨ 0 ≤ s.1 := by rw [hs]; exact ahI_p t0 hs0 i
      refine Ev.go [61] (T := T_255) rfl rfl ?_
      conv => whnf
      refine brI (fun z => ?_) (fun z => ?_)
      all_goals first | (exfalso; omega) | skip
      conv => whnf
      rw [f.2.1]
      refine ⟨by omega, m188 (fun _ => ?_) (fun z1 => absurd ht.1 z1)⟩
      conv => whnf
      refine ⟨by omega, m198 t0 (by omega) ?_⟩
      rw [gT.2.1, ht.2]
      conv => whnf
      refine brI (fun _ => ?_) (fun z1 => absurd rfl z1)
      conv => whnf
      refine brI (fun z1 => ?_) (fun z1 => ?_) <;> conv => whnf
      · refine ⟨trivial, ?_⟩
        rw [ei]
        refine ih (i + 1) t s0 s le mo J Q' (by omega) t0 t1 ht hs0 ?_ hl hF hn
        conv => rhs; unfold ahI
        rw [if_pos z1]; exact hs
      · have hki : pP (i : Int) := by omega
        refine ⟨by omega, m241 t0 (by omega) ?_⟩
        conv => whnf
        refine anI (by omega) ?_
        conv => whnf
        rw [show upd_ J 54 (48 + 3 * t + 1) (i : Int) 53 = J 53 from up_c (by decide), f.2.1]
        have hX2 := hX.hand t0 (by omega) (Or.inr hki) (k := (i : Int))
        refine ⟨by omega, m226 (by omega) hX2 (suB.self hO) hS (fun J2 hF2 hp => ?_)⟩
        have e1 := hp _ hk
        have e2 := hp _ hki
        rw [show (tIn L) = tIn (Lho L t (i : Int)) from rfl, lsI_in] at e1 e2
        conv => whnf
        refine ⟨by omega, m241 t0 (by omega) ?_⟩
        conv => whnf
        refine anI (by omega) ?_
        conv => whnf
        have hF3 : drM I (upd_ J2 54 (48 + 3 * t + 1) one) := hF.tr (drM.put hF2 (by rw [gT.2.1, ht.2]))
        have u1 : upd_ J2 54 (48 + 3 * t + 1) one 63 = J2 63 := up_c (by decide)
        have fin1 : (s.1 = -2 ∨ lsS ln (Lho L t (i : Int)) one S < s.2.2.1 ∨ (lsS ln (Lho L t (i : Int)) one S = s.2.2.1 ∧ s.2.2.2 < lsS ln (Lho L t (i : Int)) (i : Int) S)) → Ev d 255 61 [some (rf 53), some (nt one), some (nt S), some (nt w), some (nt t), some (nt (i : Int)), some (nt (lsS ln (Lho L t (i : Int)) one S)), some (nt (lsS ln (Lho L t (i : Int)) (i : Int) S)), some (nt t), some (nt (iad (i : Int) 1))] [] (upd_ J2 54 (48 + 3 * t + 1) one) Q' := fun hc => by
          rw [ei]
          refine ih (i + 1) t s0 (t, (i : Int), lsS ln (Lho L t (i : Int)) one S, lsS ln (Lho L t (i : Int)) (i : Int) S) _ _ _ Q' (by omega) t0 t1 ht hs0 ?_ (fun _ => ⟨rfl, rfl⟩) hF3 hn
          conv => rhs; unfold ahI
          rw [if_neg z1, ← hs]
          unfold ahS
          rw [if_pos hc]
        have fin2 : (¬ (s.1 = -2 ∨ lsS ln (Lho L t (i : Int)) one S < s.2.2.1 ∨ (lsS ln (Lho L t (i : Int)) one S = s.2.2.1 ∧ s.2.2.2 < lsS ln (Lho L t (i : Int)) (i : Int) S))) → Ev d 255 61 [some (rf 53), some (nt one), some (nt S), some (nt w), some (nt s.1), some (nt s.2.1), some (nt le), some (nt mo), some (nt t), some (nt (iad (i : Int) 1))] [] (upd_ J2 54 (48 + 3 * t + 1) one) Q' := fun hc => by
          rw [ei]
          refine ih (i + 1) t s0 s le mo _ Q' (by omega) t0 t1 ht hs0 ?_ hl hF3 hn
          conv => rhs; unfold ahI
          rw [if_neg z1, ← hs]
          unfold ahS
          rw [if_neg hc]
        have set : (s.1 = -2 ∨ lsS ln (Lho L t (i : Int)) one S < s.2.2.1 ∨ (lsS ln (Lho L t (i : Int)) one S = s.2.2.1 ∧ s.2.2.2 < lsS ln (Lho L t (i : Int)) (i : Int) S)) → Ev d 255 61 [some (rf 53), some (nt one), some (nt S), some (nt w), some (nt t), some (nt (i : Int)), some (nt (upd_ J2 54 (48 + 3 * t + 1) one 63 one)), some (nt (upd_ J2 54 (48 + 3 * t + 1) one 63 (i : Int))), some (nt t), some (nt (iad (i : Int) 1))] [] (upd_ J2 54 (48 + 3 * t + 1) one) Q' := fun hc => by
          rw [u1, e1, e2]; exact fin1 hc
        refine brI (fun z2 => ?_) (fun z2 => ?_) <;> conv => whnf
        · refine anI (by omega) ?_
          conv => whnf
          refine anI (by omega) ?_
          conv => whnf
          exact ⟨trivial, set (Or.inl (by omega))⟩
        · have hl := hl (by omega)
          refine anI (by omega) ?_
          conv => whnf
          refine brI (fun z3 => ?_) (fun z3 => ?_) <;> conv => whnf
          · rw [u1, e1] at z3
            refine anI (by omega) ?_
            conv => whnf
            refine anI (by omega) ?_
            conv => whnf
            exact ⟨trivial, set (Or.inr (Or.inl (by omega)))⟩
          · rw [u1, e1] at z3
            refine anI (by omega) ?_
            conv => whnf
            refine brI (fun z4 => ?_) (fun z4 => ?_) <;> conv => whnf
            all_goals rw [u1, e1] at z4
            · refine anI (by omega) ?_
              conv => whnf
              refine brI (fun z5 => ?_) (fun z5 => ?_) <;> conv => whnf
              all_goals rw [u1, e2] at z5
              · refine anI (by omega) ?_
                conv => whnf
                refine anI (by omega) ?_
                conv => whnf
                exact ⟨trivial, set (Or.inr (Or.inr (by omega)))⟩
              · exact ⟨trivial, fin2 (by omega)⟩
            · exact ⟨trivial, fin2 (by omega)⟩
  have loop1 : ∀ (q i : Nat) (x : Option MV) (s : AS) (le mo : Int) (J : ME), i + q = (tSz L).toNat → s = ahO ln L one S i → (0 ≤ s.1 → le = s.2.2.1 ∧ mo = s.2.2.2) → drM I J →
      Ev d 255 49 [some (rf 53), some (nt one), some (nt S), some (nt w), some (nt s.1), some (nt s.2.1), some (nt le), some (nt mo), some (nt (i : Int)), x] [] J Q := by
    intro q
    induction q with
    | zero =>
      intro i x s le mo J hi hs hl hF
      have f := (hC.dr hF).f
      refine Ev.go [] (T := T_255) rfl rfl ?_
      conv => whnf
      rw [f.1]
      refine brI (fun z => ?_) (fun z => ?_)
      all_goals first | (exfalso; omega) | skip
      conv => whnf
      have e : i = (tSz L).toNat := by omega
      subst e
      subst hs
      have hJ := h J hF
      have hp := ahO_p (ln := ln) (L := L) (one := one) (S := S) (tSz L).toNat
      by_cases hz : hlL L one = 0
      · rw [if_pos hz] at hJ
        have e0 := hp.2.2 (by unfold hlL at hz; omega)
        rw [e0]
        refine brI (fun z => ?_) (fun z => ?_) <;> conv => whnf
        · exact ⟨trivial, hJ⟩
        · refine brI (fun z => ?_) (fun z => ?_) <;> conv => whnf
          · exact ⟨trivial, hJ⟩
          · first
            | exact ⟨trivial, hJ⟩
            | skip
      · rw [if_neg hz] at hJ
        have e0 := hp.2.1 (by unfold hlL at hz; omega)
        have hl := hl e0
        refine brI (fun z => ?_) (fun z => ?_) <;> conv => whnf
        · rw [if_pos z] at hJ; exact ⟨trivial, hJ⟩
        · rw [if_neg z] at hJ
          by_cases z1 : w = 1
          · rw [if_pos z1] at hJ
            refine brI (fun z => ?_) (fun z => ?_)
            all_goals first | (exfalso; omega) | skip
            conv => whnf
            exact ⟨trivial, hJ⟩
          · rw [if_neg z1, ← hl.1] at hJ
            refine brI (fun z => ?_) (fun z => ?_)
            all_goals first | (exfalso; omega) | skip
            conv => whnf
            refine brI (fun z => ?_) (fun z => ?_)
            all_goals first | (exfalso; omega) | skip
            conv => whnf
            exact ⟨trivial, hJ⟩
    | succ q ih =>
      intro i x s le mo J hi hs hl hF
      have hX := hC.dr hF
      have f := hX.f
      have ei : iad (i : Int) 1 = ((i + 1 : Nat) : Int) := by rw [iad_e (by omega)]; rfl
      have hsp : s.1 = -2 ∨ 0 ≤ s.1 := by rw [hs]; exact (ahO_p i).1
      refine Ev.go [49, 61] (T := T_255) rfl rfl ?_
      conv => whnf
      rw [f.1]
      refine brI (fun z => ?_) (fun z => ?_)
      all_goals first | (exfalso; omega) | skip
      conv => whnf
      refine ⟨trivial, ?_⟩
      by_cases hh : hasb (tIn L) (i : Int) ∧ tHo L (i : Int) = one
      · refine loop2 6 0 (i : Int) s s le mo J Q (by omega) (by omega) (by omega) hh hsp rfl hl hF (fun le2 mo2 J2 hl2 hF2 => ?_)
        refine Ev.go [49] (T := T_255) rfl rfl ?_
        conv => whnf
        refine ⟨trivial, ?_⟩
        rw [ei]
        refine ih (i + 1) _ (ahI ln L one S (i : Int) s 6) le2 mo2 J2 (by omega) ?_ hl2 hF2
        conv => rhs; unfold ahO
        rw [if_pos hh, ← hs]
      · have nx : Ev d 255 49 [some (rf 53), some (nt one), some (nt S), some (nt w), some (nt s.1), some (nt s.2.1), some (nt le), some (nt mo), some (nt (iad (i : Int) 1)), some (nt 0)] [] J Q := by
          rw [ei]
          refine ih (i + 1) _ s le mo J (by omega) ?_ hl hF
          conv => rhs; unfold ahO
          rw [if_neg hh, ← hs]
        refine Ev.go [49] (T := T_255) rfl rfl ?_
        conv => whnf
        rw [f.2.1]
        refine ⟨by omega, m188 (fun z1 => ?_) (fun z1 => ?_)⟩ <;> conv => whnf
        · refine ⟨by omega, m198 (by omega) (by omega) ?_⟩
          rw [(hX.t (t := (i : Int)) (by omega) (by omega)).2.1]
          conv => whnf
          refine brI (fun z2 => absurd ⟨z1, z2⟩ hh) (fun z2 => ?_)
          conv => whnf
          exact ⟨trivial, nx⟩
        · exact ⟨trivial, nx⟩
  exact loop1 _ 0 none (-2, -2, 0, 0) _ _ I (Nat.zero_add _) rfl (fun z => by have : (0 : Int) ≤ -2 := z; omega) drM.rfl'
theorem heC_hl {ln : lz_L} {L : LT} {I : ME} (hX : CX ln L I) (k : Int) : (ctP (fun t => heC I t k) (I 1 5).toNat : Int) = hlL L k := by
  have f := hX.f
  unfold hlL
  rw [f.1, ctP_cg (q := fun t => hasb (tIn L) t ∧ tHo L t = k) (fun i hi => ?_)]
  unfold heC tkC
  rw [f.2.1, f.2.2.2.2.2.1, f.1]
  constructor
  · exact fun q => q.2
  · exact fun q => ⟨by omega, q⟩
theorem op20 {k s w : Int} (hs : -2147483648 ≤ s ∧ s ≤ 2147483647) : Op3 150 255 [nt k, nt s, nt w] nt := by
  refine Op3.mk (F := F20 k s w) (fun ln L I Q hX h27 h => ?_) (fun ln L I Q hM h => ?_)
  · have f := hX.f
    have hO := hX.2.1
    have g := hO.f
    have no : (¬ (pP k ∧ ian s (ixr (tIn L) (-1)) = 0 ∧ 0 ≤ w ∧ w ≤ 2)) → Q (some (nt (-2000000000))) I := fun hn => by
      have := h I Fr.rfl' hX h27
      unfold F20 at this
      rw [if_neg hn] at this
      exact this
    refine EvM.go [] (T := T_150) rfl rfl rfl rfl ?_
    conv => whnf
    refine ⟨by omega, x175 (fun hk => ?_) (fun hk => ?_)⟩ <;> conv => whnf
    · refine ⟨by omega, x38 (fun z => ?_) (fun z => ?_)⟩ <;> conv => whnf
      all_goals rw [f.2.1] at z
      · refine brI (fun z1 => ?_) (fun z1 => ?_) <;> conv => whnf
        · exact ⟨trivial, no (fun r => by omega)⟩
        · refine brI (fun z2 => ?_) (fun z2 => ?_) <;> conv => whnf
          · exact ⟨trivial, no (fun r => by omega)⟩
          · have hw : 0 ≤ w ∧ w ≤ 2 := by omega
            refine ⟨by omega, x50 (by omega) (by omega) (by omega) ?_⟩
            rw [heC_hl hX k]
            conv => whnf
            have key : ∀ J, Fr [11, 12, 13, 16, 17, 18, 19] I J → CX ln L J → Q (some (nt (F20 k s w ln L))) J := fun J hF hX2 => h J (hF.sub (by decide)) hX2 (by rw [hF 27 (by decide)]; exact h27)
            unfold F20 at key
            rw [if_pos ⟨hk, z, hw⟩] at key
            refine brI (fun z3 => ?_) (fun z3 => ?_) <;> conv => whnf
            · have := key I Fr.rfl' hX
              rw [if_pos z3] at this
              exact ⟨trivial, this⟩
            · rw [if_neg z3] at key
              refine ⟨by omega, x83 (by omega) hX hk (areIn_L hO hs z) (fun J hF hX2 => ?_)⟩
              conv => whnf
              exact ⟨trivial, key J hF hX2⟩
      · exact ⟨trivial, no (fun r => z r.2.1)⟩
    · exact ⟨trivial, no (fun r => hk r.1)⟩
  · have f := hM.f
    have hO := hM.1
    have g := hO.f
    have no : (¬ (pP k ∧ ian s (ixr (tIn L) (-1)) = 0 ∧ 0 ≤ w ∧ w ≤ 2)) → Q (some (nt (-2000000000))) I := fun hn => by
      have := h I ⟨fun _ _ => rfl, Fr.rfl'⟩
      unfold F20 at this
      rw [if_neg hn] at this
      exact this
    refine EvM.go [49] (T := T_255) rfl rfl rfl rfl ?_
    conv => whnf
    refine ⟨by omega, m195 (by omega) (fun hk => ?_) (fun hk => ?_)⟩ <;> conv => whnf
    · refine ⟨by omega, m227 (fun z => ?_) (fun z => ?_)⟩ <;> conv => whnf
      all_goals rw [f.2.1] at z
      · refine ⟨by omega, m187 (fun hw => ?_) (fun hw => ?_)⟩ <;> conv => whnf
        · refine ⟨trivial, m255_loop (by omega) hM hk (areIn_L hO hs z.2) (fun J hF => ?_)⟩
          have := h J hF.mF
          unfold F20 at this
          rw [if_pos ⟨hk, z.2, hw⟩] at this
          exact this
        · exact ⟨trivial, no (fun r => hw r.2.2)⟩
      · exact ⟨trivial, no (fun r => z ⟨(areIn_L hO hs r.2.1).1.1, r.2.1⟩)⟩
    · exact ⟨trivial, no (fun r => hk r.1)⟩
