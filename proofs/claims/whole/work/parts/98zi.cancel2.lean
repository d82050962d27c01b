/-! CANCEL: the model; both alike -/
theorem m246_loop {d : Nat} {ln : lz_L} {L : LT} {m : Int} {I : ME} {Q : Option MV → ME → Prop} (hd : 67 ≤ d) (hC : MX ln L I) (hm : cdW L m)
    (h : ∀ J, mF I J → Q (some (nt (prO (caK L) (caV ln L m) (tSz L).toNat (tSz L).toNat).1)) J) :
    Ev d 246 18 [some (rf 53), some (nt m), some (nt (-2)), some (lg 0), none, some (nt 0), none] [] I Q := by
  have hO := hC.1
  have g := hO.f
  have inner : ∀ (r j a : Nat) (s0 s : Int × Int) (le : Int) (J : ME) (Q' : Option MV → ME → Prop), a + 1 + j + r = (tSz L).toNat → (s0.1 = -2 ∨ 0 ≤ s0.1) → s = prI (caK L) (caV ln L m) a s0 j → mF I J → (s.1 ≠ -2 → le = s.2) →
      (∀ (s : Int × Int) (le : Int) (J : ME), s = prI (caK L) (caV ln L m) a s0 ((tSz L).toNat - (a + 1)) → mF I J → (s.1 ≠ -2 → le = s.2) → Ev d 246 109 [some (rf 53), some (nt m), some (nt s.1), some (lg le), none, some (nt (a : Int)), some (nt (((tSz L).toNat : Nat) : Int))] [] J Q') →
      Ev d 246 33 [some (rf 53), some (nt m), some (nt s.1), some (lg le), none, some (nt (a : Int)), some (nt ((a + 1 + j : Nat) : Int))] [] J Q' := by
    intro r
    induction r with
    | zero =>
      intro j a s0 s le J Q' hr hs0 hs hF h12 hn
      have f := (hC.mf hF).f
      refine Ev.go [109] (T := T_246) rfl rfl ?_
      conv => whnf
      rw [f.1]
      refine brI (fun z => ?_) (fun z => ?_)
      all_goals first | (exfalso; omega) | skip
      conv => whnf
      rw [show ((a + 1 + j : Nat) : Int) = (((tSz L).toNat : Nat) : Int) by omega]
      refine ⟨trivial, hn s le J ?_ hF h12⟩
      rw [show (tSz L).toNat - (a + 1) = j by omega]; exact hs
    | succ r ih =>
      intro j a s0 s le J Q' hr hs0 hs hF h12 hn
      have hX := hC.mf hF
      have f := hX.f
      have ei : iad ((a + 1 + j : Nat) : Int) 1 = ((a + 1 + (j + 1) : Nat) : Int) := by rw [iad_e (by omega)]; omega
      have ha : 0 ≤ (a : Int) ∧ (a : Int) < 12 := by omega
      have hb : 0 ≤ ((a + 1 + j : Nat) : Int) ∧ ((a + 1 + j : Nat) : Int) < 12 := by omega
      have hab : (a : Int) ≠ ((a + 1 + j : Nat) : Int) := by omega
      have gA := hX.t ha.1 ha.2
      have gB := hX.t hb.1 hb.2
      have hTa := hO.t ha.1 ha.2
      have hsp : s.1 = -2 ∨ 0 ≤ s.1 := by rw [hs]; exact prI_p hs0 j
      have hn1 : prI (caK L) (caV ln L m) a s0 (j + 1) = prS (caK L) (caV ln L m) (a : Int) ((a + 1 + j : Nat) : Int) s := by rw [hs]; rfl
      have same : ∀ J2, (¬ (caK L (a : Int) ((a + 1 + j : Nat) : Int) ∧ (s.1 = -2 ∨ caV ln L m (a : Int) ((a + 1 + j : Nat) : Int) < s.2))) → mF I J2 → Ev d 246 33 [some (rf 53), some (nt m), some (nt s.1), some (lg le), none, some (nt (a : Int)), some (nt (iad ((a + 1 + j : Nat) : Int) 1))] [] J2 Q' := fun J2 hc hF2 => by
        rw [ei]
        exact ih (j + 1) a s0 s le J2 Q' (by omega) hs0 (by rw [hn1, prS_f hc]) hF2 h12 hn
      refine Ev.go [33] (T := T_246) rfl rfl ?_
      conv => whnf
      rw [f.1]
      refine brI (fun z => ?_) (fun z => ?_)
      all_goals first | (exfalso; omega) | skip
      conv => whnf
      refine ⟨by omega, m245 (by omega) ha.1 ha.2 hb.1 hb.2 (fun z1 => ?_) (fun z1 => ?_)⟩ <;> conv => whnf
      all_goals rw [f.2.1, gA.1, gA.2.1, gB.1, gB.2.1] at z1
      · have hK : caK L (a : Int) ((a + 1 + j : Nat) : Int) := ⟨z1.1, z1.2.1, z1.2.2.2.2, z1.2.2.2.1, by omega⟩
        obtain ⟨w1, w2, w3, w4⟩ := woT_ok hO ha hb hab ⟨hK.1, hK.2.1⟩
        rw [f.2.1, show ian (ian (tIn L) (ixr (isl 1 (a : Int)) (-1))) (ixr (isl 1 ((a + 1 + j : Nat) : Int)) (-1)) = woT L (a : Int) ((a + 1 + j : Nat) : Int) from w4]
        refine ⟨by omega, m232 (by omega) hX w1 (fun J2 hF2 h26 h65 => ?_)⟩
        have hF3 := hF.tr hF2.mF
        have emn : mnI m (woT L (a : Int) ((a + 1 + j : Nat) : Int)) = caM L m := by unfold mnI caM; split <;> split <;> omega
        have h65' : ∀ p, pP p → J2 65 p = smA ln (Lin L (woT L (a : Int) ((a + 1 + j : Nat) : Int))) p (caM L m) := fun p hp => by
          rw [h65 p hp, emn, smI_in]
        have hLi := Lin.ok hO w1
        have new : caK L (a : Int) ((a + 1 + j : Nat) : Int) → (s.1 = -2 ∨ caV ln L m (a : Int) ((a + 1 + j : Nat) : Int) < s.2) → Ev d 246 33 [some (rf 53), some (nt m), some (nt (iad (iml 20 (a : Int)) ((a + 1 + j : Nat) : Int))), some (lg (caV ln L m (a : Int) ((a + 1 + j : Nat) : Int))), none, some (nt (a : Int)), some (nt (iad ((a + 1 + j : Nat) : Int) 1))] [] J2 Q' := fun hK hc => by
          rw [ei, iml_e (by omega), iad_e (by omega)]
          exact ih (j + 1) a s0 (20 * (a : Int) + ((a + 1 + j : Nat) : Int), caV ln L m (a : Int) ((a + 1 + j : Nat) : Int)) _ J2 Q' (by omega) hs0 (by rw [hn1, prS_t ⟨hK, hc⟩]) hF3 (fun _ => rfl) hn
        conv => whnf
        refine brI (fun z2 => ?_) (fun z2 => ?_) <;> conv => whnf
        · refine ⟨by omega, m233L hLi h65' ?_⟩
          conv => whnf
          exact ⟨trivial, new hK (Or.inl (by omega))⟩
        · have hle := h12 (by omega)
          refine ⟨by omega, m233L hLi h65' ?_⟩
          conv => whnf
          refine brI (fun z3 => ?_) (fun z3 => ?_) <;> conv => whnf
          all_goals rw [lcm_lt, hle] at z3
          · refine ⟨by omega, m233L hLi h65' ?_⟩
            conv => whnf
            exact ⟨trivial, new hK (Or.inr z3)⟩
          · exact ⟨trivial, same J2 (fun w => w.2.elim (fun w => by omega) z3) hF3⟩
      · exact ⟨trivial, same J (fun w => z1 ⟨w.1.1, w.1.2.1, by have := w.1.2.2.2.2; have := hTa.2.1; omega, w.1.2.2.2.1, w.1.2.2.1⟩) hF⟩
  have outer : ∀ (r a : Nat) (x6 : Option MV) (s : Int × Int) (le : Int) (J : ME), a + r = (tSz L).toNat → s = prO (caK L) (caV ln L m) (tSz L).toNat a → mF I J → (s.1 ≠ -2 → le = s.2) →
      Ev d 246 18 [some (rf 53), some (nt m), some (nt s.1), some (lg le), none, some (nt (a : Int)), x6] [] J Q := by
    intro r
    induction r with
    | zero =>
      intro a x6 s le J hr hs hF h12
      have f := (hC.mf hF).f
      refine Ev.go [] (T := T_246) rfl rfl ?_
      conv => whnf
      rw [f.1]
      refine brI (fun z => ?_) (fun z => ?_)
      all_goals first | (exfalso; omega) | skip
      conv => whnf
      have e : a = (tSz L).toNat := by omega
      rw [e] at hs
      subst hs
      exact ⟨trivial, h J hF⟩
    | succ r ih =>
      intro a x6 s le J hr hs hF h12
      have f := (hC.mf hF).f
      have ei : iad (a : Int) 1 = ((a + 1 + 0 : Nat) : Int) := by rw [iad_e (by omega)]; rfl
      refine Ev.go [18, 33] (T := T_246) rfl rfl ?_
      conv => whnf
      rw [f.1]
      refine brI (fun z => ?_) (fun z => ?_)
      all_goals first | (exfalso; omega) | skip
      conv => whnf
      rw [ei]
      refine ⟨trivial, inner ((tSz L).toNat - (a + 1)) 0 a s s le J Q (by omega) (by rw [hs]; exact prO_p a) rfl hF h12 (fun s2 le2 J2 hs2 hF2 h12' => ?_)⟩
      refine Ev.go [18] (T := T_246) rfl rfl ?_
      conv => whnf
      rw [ei]
      exact ⟨trivial, ih (a + 1) _ s2 le2 J2 (by omega) (by rw [hs2, hs]; rfl) hF2 h12'⟩
  exact outer _ 0 none (-2, 0) 0 I (Nat.zero_add _) rfl mF.rfl' (fun z => absurd rfl z)
noncomputable def F14 (m : Int) (ln : lz_L) (L : LT) : Int := @ite _ (cdW L m) (Classical.propDecidable _) (prO (caK L) (caV ln L m) (tSz L).toNat (tSz L).toNat).1 (-1)
theorem op14 {m : Int} : Op3 144 246 [nt m] nt := by
  have key : ∀ {ln L}, cdW L m → F14 m ln L = (prO (caK L) (caV ln L m) (tSz L).toNat (tSz L).toNat).1 := fun hm => @if_pos _ (Classical.propDecidable _) hm _ _ _
  have key0 : ∀ {ln L}, ¬ cdW L m → F14 m ln L = -1 := fun hm => @if_neg _ (Classical.propDecidable _) hm _ _ _
  refine Op3.mk (F := F14 m) (fun ln L I Q hX h27 h => ?_) (fun ln L I Q hM h => ?_)
  · have f := hX.f
    have hO := hX.2.1
    have g := hO.f
    refine EvM.go [] (T := T_144) rfl rfl rfl rfl ?_
    conv => whnf
    refine ⟨by omega, x47 (by omega) (by omega) (by omega) (fun hm => ?_) (fun hm => ?_)⟩ <;> conv => whnf
    all_goals rw [f.2.1] at hm
    · refine ⟨by omega, x73 (by omega) hX hm (fun J hF hX2 => ?_)⟩
      conv => whnf
      have := h J (hF.sub (by decide)) hX2 (by rw [hF 27 (by decide)]; exact h27)
      rw [key hm] at this
      exact ⟨trivial, this⟩
    · have := h I Fr.rfl' hX h27
      rw [key0 hm] at this
      exact ⟨trivial, this⟩
  · have f := hM.f
    have hO := hM.1
    have g := hO.f
    refine EvM.go [18] (T := T_246) rfl rfl rfl rfl ?_
    conv => whnf
    refine ⟨by omega, m229 (by omega) (by omega) (by omega) (fun hm => ?_) (fun hm => ?_)⟩ <;> conv => whnf
    all_goals rw [f.2.1] at hm
    · refine ⟨trivial, m246_loop (by omega) hM hm (fun J hF => ?_)⟩
      have := h J hF
      rw [key hm] at this
      exact this
    · have := h I mF.rfl'
      rw [key0 hm] at this
      exact ⟨trivial, this⟩
