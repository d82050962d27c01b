/-! SYNDICATES: op16 -/
theorem F8_own {ln : lz_L} {L : LT} {m p : Int} (hL : LTok L) (hp : pP p) (hm : cdW L m) : F8 p m 0 ln L = wsW ln L m (isl 1 p) := by
  unfold F8
  rw [if_pos ⟨hp, hm, by omega, by omega⟩, if_pos (by decide), if_pos (by decide)]
  exact ut_ws hL hp hm
theorem m249_loop {d : Nat} {ln : lz_L} {L : LT} {m : Int} {I : ME} {Q : Option MV → ME → Prop} (hd : 67 ≤ d) (hC : MX ln L I) (hm : cdW L m) (h68 : ∀ p, pP p → I 68 p = wsW ln L m (isl 1 p))
    (h : ∀ J, drM I J → Q (some (nt (if syF ln L m 64 = 0 then -2 else syF ln L m 64))) J) : Ev d 249 51 [some (rf 53), some (nt m), some (nt m), some (nt 0), some (nt 0), none, none] [] I Q := by
  have hO := hC.1
  have g := hO.f
  have inner : ∀ (r p s : Nat) (best : Int) (J : ME) (Q' : Option MV → ME → Prop), p + r = 6 → s < 64 → (∀ p, pP p → J 68 p = wsW ln L m (isl 1 p)) →
      Ev d 249 136 [some (rf 53), some (nt m), some (nt m), some (nt best), some (nt (s : Int)), some (nt (leF ln L m (s : Int) 6)), some (nt ((6 : Nat) : Int))] [] J Q' →
      Ev d 249 87 [some (rf 53), some (nt m), some (nt m), some (nt best), some (nt (s : Int)), some (nt (leF ln L m (s : Int) p)), some (nt (p : Int))] [] J Q' := by
    intro r
    induction r with
    | zero =>
      intro p s best J Q' hr hs h68' hn
      refine Ev.go [136] (T := T_249) rfl rfl ?_
      conv => whnf
      refine brI (fun z => ?_) (fun z => ?_)
      all_goals first | (exfalso; omega) | skip
      conv => whnf
      have e : p = 6 := by omega
      subst e
      exact ⟨trivial, hn⟩
    | succ r ih =>
      intro p s best J Q' hr hs h68' hn
      have hp : pP (p : Int) := by omega
      have ei : iad (p : Int) 1 = ((p + 1 : Nat) : Int) := by rw [iad_e (by omega)]; rfl
      have nx := ih (p + 1) s best J Q' (by omega) hs h68' hn
      have e1 : leF ln L m (s : Int) (p + 1) = if hasb (s : Int) (p : Int) ∧ wsW ln L m (isl 1 (p : Int)) < leF ln L m (s : Int) p then wsW ln L m (isl 1 (p : Int)) else leF ln L m (s : Int) p := rfl
      rw [e1] at nx
      refine Ev.go [87] (T := T_249) rfl rfl ?_
      conv => whnf
      refine brI (fun z => ?_) (fun z => ?_)
      all_goals first | (exfalso; omega) | skip
      conv => whnf
      refine ⟨by omega, m188 (fun q => ?_) (fun q => ?_)⟩ <;> conv => whnf
      · refine anI (by omega) ?_
        conv => whnf
        refine brI (fun z1 => ?_) (fun z1 => ?_) <;> conv => whnf
        all_goals rw [h68' _ hp] at z1
        · rw [if_pos ⟨q, z1⟩] at nx
          refine anI (by omega) ?_
          conv => whnf
          rw [h68' _ hp, ei]
          exact ⟨trivial, nx⟩
        · rw [if_neg (fun w => z1 w.2)] at nx
          rw [ei]
          exact ⟨trivial, nx⟩
      · rw [if_neg (fun w => q w.1)] at nx
        rw [ei]
        exact ⟨trivial, nx⟩
  have outer : ∀ (r s : Nat) (x y : Option MV) (J : ME), s + r = 64 → drM I J → Ev d 249 51 [some (rf 53), some (nt m), some (nt m), some (nt (syF ln L m s)), some (nt (s : Int)), x, y] [] J Q := by
    intro r
    induction r with
    | zero =>
      intro s x y J hr hF
      refine Ev.go [] (T := T_249) rfl rfl ?_
      conv => whnf
      refine brI (fun z => ?_) (fun z => ?_)
      all_goals first | (exfalso; omega) | skip
      conv => whnf
      have e : s = 64 := by omega
      subst e
      have hJ := h J hF
      refine brI (fun z => ?_) (fun z => ?_) <;> conv => whnf
      · rw [if_pos z] at hJ; exact ⟨trivial, hJ⟩
      · rw [if_neg z] at hJ; exact ⟨trivial, hJ⟩
    | succ r ih =>
      intro s x y J hr hF
      have hX := hC.dr hF
      have h68' : ∀ p, pP p → J 68 p = wsW ln L m (isl 1 p) := fun p hp => by rw [hF.2 68 (by decide)]; exact h68 p hp
      have hsp := syF_p (ln := ln) (L := L) (m := m) s
      have ei : iad (s : Int) 1 = ((s + 1 : Nat) : Int) := by rw [iad_e (by omega)]; rfl
      have same : ∀ x y J2, drM I J2 → (¬ (1 < pI (s : Int) ∧ pI (syF ln L m s) < pI (s : Int) ∧ syK ln L m (s : Int))) → Ev d 249 51 [some (rf 53), some (nt m), some (nt m), some (nt (syF ln L m s)), some (nt (iad (s : Int) 1)), x, y] [] J2 Q := fun x y J2 hF2 hn => by
        have := ih (s + 1) x y J2 (by omega) hF2
        rw [syF_f hn] at this
        rw [ei]
        exact this
      refine Ev.go [51, 87] (T := T_249) rfl rfl ?_
      conv => whnf
      refine brI (fun z => ?_) (fun z => ?_)
      all_goals first | (exfalso; omega) | skip
      conv => whnf
      refine ⟨by omega, m189p (by omega) (by omega) ?_⟩
      conv => whnf
      refine brI (fun z1 => ?_) (fun z1 => ?_) <;> conv => whnf
      · refine ⟨by omega, m189p (by omega) (by omega) ?_⟩
        conv => whnf
        refine ⟨by omega, m189p (by omega) (by omega) ?_⟩
        conv => whnf
        refine brI (fun z2 => ?_) (fun z2 => ?_) <;> conv => whnf
        · have hle := le_sy (ln := ln) hO hm (s := (s : Int)) ⟨by omega, by omega⟩ z1
          have hps := pI_bd (s : Int)
          refine ⟨trivial, inner 6 0 s _ J Q rfl (by omega) h68' ?_⟩
          refine Ev.go [51] (T := T_249) rfl rfl ?_
          conv => whnf
          refine ⟨by omega, m250 (by omega) hX (fun J2 hF2 => ?_)⟩
          conv => whnf
          refine ⟨by omega, m189p (by omega) (by omega) ?_⟩
          conv => whnf
          have hmul : -(7128 * 12) ≤ leF ln L m (s : Int) 6 * pI (s : Int) ∧ leF ln L m (s : Int) 6 * pI (s : Int) ≤ 7128 * 12 := by
            have h0 : (leF ln L m (s : Int) 6 * pI (s : Int)).natAbs ≤ 7128 * 12 := by
              rw [Int.natAbs_mul]
              exact Nat.mul_le_mul (by omega) (by omega)
            omega
          rw [iml_e (by omega)]
          refine brI (fun z3 => ?_) (fun z3 => ?_) <;> conv => whnf
          · exact ⟨trivial, same _ _ J2 (hF.tr hF2) (fun w => by have := hle.2.mpr w.2.2; omega)⟩
          · have := ih (s + 1) (some (nt (leF ln L m (s : Int) 6))) (some (nt ((6 : Nat) : Int))) J2 (by omega) (hF.tr hF2)
            rw [syF_t ⟨z1, z2, hle.2.mp (by omega)⟩] at this
            rw [ei]
            exact ⟨trivial, this⟩
        · exact ⟨trivial, same _ _ J hF (fun w => z2 w.2.1)⟩
      · exact ⟨trivial, same _ _ J hF (fun w => z1 w.1)⟩
  exact outer 64 0 none none I rfl drM.rfl'
noncomputable def F16 (m : Int) (ln : lz_L) (L : LT) : Int := @ite _ (cdW L m) (Classical.propDecidable _) (if syF ln L m 64 = 0 then -2 else syF ln L m 64) (-1)
theorem op16 {m : Int} : Op3 146 249 [nt m] nt := by
  have key : ∀ {ln L}, cdW L m → F16 m ln L = (if syF ln L m 64 = 0 then -2 else syF ln L m 64) := fun hm => @if_pos _ (Classical.propDecidable _) hm _ _ _
  have key0 : ∀ {ln L}, ¬ cdW L m → F16 m ln L = -1 := fun hm => @if_neg _ (Classical.propDecidable _) hm _ _ _
  refine Op3.mk (F := F16 m) (fun ln L I Q hX h27 h => ?_) (fun ln L I Q hM h => ?_)
  · have f := hX.f
    have hO := hX.2.1
    have g := hO.f
    refine EvM.go [] (T := T_146) rfl rfl rfl rfl ?_
    conv => whnf
    refine ⟨by omega, x47 (by omega) (by omega) (by omega) (fun hm => ?_) (fun hm => ?_)⟩ <;> conv => whnf
    all_goals rw [f.2.1] at hm
    · refine ⟨by omega, x79 (by omega) hX hm h27 (fun J hF hX2 h0 => ?_)⟩
      conv => whnf
      have := h J (hF.sub (by decide)) hX2 h0
      rw [key hm] at this
      exact ⟨trivial, this⟩
    · have := h I Fr.rfl' hX h27
      rw [key0 hm] at this
      exact ⟨trivial, this⟩
  · have f := hM.f
    have hO := hM.1
    have g := hO.f
    have loop : ∀ (r p : Nat) (J : ME), cdW L m → p + r = 6 → mF I J → (∀ q : Int, 0 ≤ q → q < p → J 68 q = wsW ln L m (isl 1 q)) → Ev 799 249 21 [some (rf 53), some (nt m), some (nt m), some (nt (p : Int)), none, none, none] [] J Q := by
      intro r
      induction r with
      | zero =>
        intro p J hm hr hF h68
        refine Ev.go [51] (T := T_249) rfl rfl ?_
        conv => whnf
        refine brI (fun z => ?_) (fun z => ?_)
        all_goals first | (exfalso; omega) | skip
        conv => whnf
        refine ⟨trivial, m249_loop (by omega) (hM.mf hF) hm (fun q hq => h68 q hq.1 (by have := hq.2; omega)) (fun J2 hF2 => ?_)⟩
        have := h J2 (hF.tr hF2.mF)
        rw [key hm] at this
        exact this
      | succ r ih =>
        intro p J hm hr hF h68
        have hp : pP (p : Int) := by omega
        have ei : iad (p : Int) 1 = ((p + 1 : Nat) : Int) := by rw [iad_e (by omega)]; rfl
        refine Ev.go [21] (T := T_249) rfl rfl ?_
        conv => whnf
        refine brI (fun z => ?_) (fun z => ?_)
        all_goals first | (exfalso; omega) | skip
        conv => whnf
        refine ⟨by omega, m238 (by omega) (hM.mf hF) (fun J2 hF2 => ?_)⟩
        conv => whnf
        refine anI (by omega) ?_
        conv => whnf
        rw [F8_own hO hp hm, ei]
        refine ⟨trivial, ih (p + 1) _ hm (by omega) ?_ (fun q q0 q1 => ?_)⟩
        · refine (hF.tr hF2.mF).tr ⟨fun j hj => by rw [up_c (by decide)], fr_up Fr.rfl' (by decide)⟩
        · rw [up_any]
          by_cases w : q = (p : Int)
          · rw [if_pos w, w]
          · rw [if_neg w, hF2.2 68 (by decide)]; exact h68 q q0 (by omega)
    refine EvM.go [21] (T := T_249) rfl rfl rfl rfl ?_
    conv => whnf
    refine ⟨by omega, m229 (by omega) (by omega) (by omega) (fun hm => ?_) (fun hm => ?_)⟩ <;> conv => whnf
    all_goals rw [f.2.1] at hm
    · rw [f.2.1]
      refine ⟨by omega, m230 (by omega) (by omega) (by omega) ?_⟩
      rw [show (if m < pI (tIn L) then m else pI (tIn L)) = m by have := hm.2; split <;> omega]
      conv => whnf
      exact ⟨trivial, loop 6 0 I hm rfl mF.rfl' (fun q q0 q1 => by exfalso; omega)⟩
    · have := h I mF.rfl'
      rw [key0 hm] at this
      exact ⟨trivial, this⟩
