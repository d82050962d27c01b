/-! SWAP: the model; both alike -/
theorem mF.rfl' {I : ME} : mF I I := ⟨fun _ _ => rfl, Fr.rfl'⟩
theorem mF.put2 {I J K : ME} {A B p q : Int} (h : mF I J) (hA : J 54 A = p) (hB : J 54 B = q) (hAB : A ≠ B) (h2 : mF (upd_ (upd_ J 54 A q) 54 B p) K) : mF I (upd_ (upd_ K 54 A p) 54 B q) := by
  refine h.tr ⟨fun j hj => ?_, fun c hc => ?_⟩
  · rw [up_c (by decide), up_c (by decide), h2.1 j hj, up_c (by decide), up_c (by decide)]
  · by_cases w : c = 54
    · subst w
      rw [up_g, up_g, h2.2 54 (by decide), up_g, up_g, fu_4 hA hB hAB]
    · rw [up_c w, up_c w, h2.2 c hc, up_c w, up_c w]
theorem swG_iff {ln : lz_L} {L : LT} {m a b : Int} : swG ln L m a b ↔ smA ln (swL L a b) (tHo L a) m ≤ smA ln L (tHo L a) m ∧ smA ln (swL L a b) (tHo L b) m ≤ smA ln L (tHo L b) m ∧ (smA ln (swL L a b) (tHo L a) m < smA ln L (tHo L a) m ∨ smA ln (swL L a b) (tHo L b) m < smA ln L (tHo L b) m) := by
  unfold swG swV
  omega
theorem m244_loop {d : Nat} {ln : lz_L} {L : LT} {m : Int} {I : ME} {Q : Option MV → ME → Prop} (hd : 67 ≤ d) (hC : MX ln L I) (hm : cdW L m)
    (h : ∀ J, mF I J → Q (some (nt (prO (swK_ ln L m) (swV ln L m) (tSz L).toNat (tSz L).toNat).1)) J) :
    Ev d 244 18 [some (rf 53), some (nt m), some (nt (-2)), some (lg 0), none, some (nt 0), none, none, none, none, none, none, none, none] [] I Q := by
  have hO := hC.1
  have g := hO.f
  have inner : ∀ (r j a : Nat) (s0 s : Int × Int) (le : Int) (x7 x8 x9 x10 x11 x12 x13 : Option MV) (J : ME) (Q' : Option MV → ME → Prop), a + 1 + j + r = (tSz L).toNat → (s0.1 = -2 ∨ 0 ≤ s0.1) → s = prI (swK_ ln L m) (swV ln L m) a s0 j → mF I J → (s.1 ≠ -2 → le = s.2) →
      (∀ (s : Int × Int) (le : Int) (x7 x8 x9 x10 x11 x12 x13 : Option MV) (J : ME), s = prI (swK_ ln L m) (swV ln L m) a s0 ((tSz L).toNat - (a + 1)) → mF I J → (s.1 ≠ -2 → le = s.2) → Ev d 244 305 [some (rf 53), some (nt m), some (nt s.1), some (lg le), none, some (nt (a : Int)), some (nt (((tSz L).toNat : Nat) : Int)), x7, x8, x9, x10, x11, x12, x13] [] J Q') →
      Ev d 244 33 [some (rf 53), some (nt m), some (nt s.1), some (lg le), none, some (nt (a : Int)), some (nt ((a + 1 + j : Nat) : Int)), x7, x8, x9, x10, x11, x12, x13] [] J Q' := by
    intro r
    induction r with
    | zero =>
      intro j a s0 s le x7 x8 x9 x10 x11 x12 x13 J Q' hr hs0 hs hF h12 hn
      have f := (hC.mf hF).f
      refine Ev.go [305] (T := T_244) rfl rfl ?_
      conv => whnf
      rw [f.1]
      refine brI (fun z => ?_) (fun z => ?_)
      all_goals first | (exfalso; omega) | skip
      conv => whnf
      rw [show ((a + 1 + j : Nat) : Int) = (((tSz L).toNat : Nat) : Int) by omega]
      refine ⟨trivial, hn s le _ _ _ _ _ _ _ J ?_ hF h12⟩
      rw [show (tSz L).toNat - (a + 1) = j by omega]; exact hs
    | succ r ih =>
      intro j a s0 s le x7 x8 x9 x10 x11 x12 x13 J Q' hr hs0 hs hF h12 hn
      have hX := hC.mf hF
      have f := hX.f
      have ei : iad ((a + 1 + j : Nat) : Int) 1 = ((a + 1 + (j + 1) : Nat) : Int) := by rw [iad_e (by omega)]; omega
      have ha : 0 ≤ (a : Int) ∧ (a : Int) < tSz L := by omega
      have hb : 0 ≤ ((a + 1 + j : Nat) : Int) ∧ ((a + 1 + j : Nat) : Int) < tSz L := by omega
      have hab : (a : Int) ≠ ((a + 1 + j : Nat) : Int) := by omega
      have ha12 : (a : Int) < 12 := by omega
      have hb12 : ((a + 1 + j : Nat) : Int) < 12 := by omega
      have gA := hX.t ha.1 ha12
      have gB := hX.t hb.1 hb12
      have hTa := hO.t ha.1 ha12
      have hTb := hO.t hb.1 hb12
      have hsp : s.1 = -2 ∨ 0 ≤ s.1 := by rw [hs]; exact prI_p hs0 j
      have hn1 : prI (swK_ ln L m) (swV ln L m) a s0 (j + 1) = prS (swK_ ln L m) (swV ln L m) (a : Int) ((a + 1 + j : Nat) : Int) s := by rw [hs]; rfl
      have same : ∀ (x7 x8 x9 x10 x11 x12 x13 : Option MV) J2, (¬ (swK_ ln L m (a : Int) ((a + 1 + j : Nat) : Int) ∧ (s.1 = -2 ∨ swV ln L m (a : Int) ((a + 1 + j : Nat) : Int) < s.2))) → mF I J2 → Ev d 244 33 [some (rf 53), some (nt m), some (nt s.1), some (lg le), none, some (nt (a : Int)), some (nt (iad ((a + 1 + j : Nat) : Int) 1)), x7, x8, x9, x10, x11, x12, x13] [] J2 Q' := fun x7 x8 x9 x10 x11 x12 x13 J2 hc hF2 => by
        rw [ei]
        exact ih (j + 1) a s0 s le _ _ _ _ _ _ _ J2 Q' (by omega) hs0 (by rw [hn1, prS_f hc]) hF2 h12 hn
      refine Ev.go [33, 243] (T := T_244) rfl rfl ?_
      conv => whnf
      rw [f.1]
      refine brI (fun z => ?_) (fun z => ?_)
      all_goals first | (exfalso; omega) | skip
      conv => whnf
      refine ⟨by omega, m198 ha.1 ha12 ?_⟩
      rw [gA.2.1]
      conv => whnf
      refine ⟨by omega, m198 hb.1 hb12 ?_⟩
      rw [gB.2.1]
      conv => whnf
      rw [f.2.1]
      refine ⟨by omega, m188 (fun z1 => ?_) (fun z1 => ?_)⟩ <;> conv => whnf
      · rw [f.2.1]
        refine ⟨by omega, m188 (fun z2 => ?_) (fun z2 => ?_)⟩ <;> conv => whnf
        · refine brI (fun z3 => ?_) (fun z3 => ?_) <;> conv => whnf
          · exact ⟨trivial, same _ _ _ _ _ _ _ J (fun w => by have := w.1.1.2.2.2.1; have := hTa.2.1; omega) hF⟩
          · refine brI (fun z4 => ?_) (fun z4 => ?_) <;> conv => whnf
            · exact ⟨trivial, same _ _ _ _ _ _ _ J (fun w => by have := w.1.1.2.2.2.2; have := hTb.2.1; omega) hF⟩
            · refine brI (fun z5 => ?_) (fun z5 => ?_) <;> conv => whnf
              · exact ⟨trivial, same _ _ _ _ _ _ _ J (fun w => w.1.1.2.2.1 z5) hF⟩
              · have hCC : swC L (a : Int) ((a + 1 + j : Nat) : Int) := ⟨z1, z2, z5, by omega, by omega⟩
                have hka : pP (tHo L (a : Int)) := hTa.2.1.resolve_left (by omega)
                have hkb : pP (tHo L ((a + 1 + j : Nat) : Int)) := hTb.2.1.resolve_left (by omega)
                rw [f.2.1]
                refine ⟨by omega, m232L (by omega) hX hm (fun J1 hF1 h26 h65 => ?_)⟩
                have hX1 := hX.mf hF1.mF
                conv => whnf
                refine anI (by omega) ?_
                conv => whnf
                refine anI (by omega) ?_
                conv => whnf
                rw [h65 _ hka, h65 _ hkb]
                refine ⟨by omega, m241 ha.1 ha12 ?_⟩
                conv => whnf
                refine anI (by omega) ?_
                conv => whnf
                refine ⟨by omega, m241 hb.1 hb12 ?_⟩
                conv => whnf
                refine anI (by omega) ?_
                conv => whnf
                have hX2 := (hX1.hand ha.1 ha12 (Or.inr hkb) (k := tHo L ((a + 1 + j : Nat) : Int))).hand hb.1 hb12 (Or.inr hka) (k := tHo L (a : Int))
                rw [hX2.f.2.1]
                refine ⟨by omega, m232L (by omega) hX2 hm (fun J2 hF2 h26' h65' => ?_)⟩
                conv => whnf
                refine ⟨by omega, m241 ha.1 ha12 ?_⟩
                conv => whnf
                refine anI (by omega) ?_
                conv => whnf
                refine ⟨by omega, m241 hb.1 hb12 ?_⟩
                conv => whnf
                refine anI (by omega) ?_
                conv => whnf
                have hF3 : mF I (upd_ (upd_ J2 54 (48 + 3 * (a : Int) + 1) (tHo L (a : Int))) 54 (48 + 3 * ((a + 1 + j : Nat) : Int) + 1) (tHo L ((a + 1 + j : Nat) : Int))) :=
                  mF.put2 (hF.tr hF1.mF) (by rw [hF1.2 54 (by decide)]; exact gA.2.1) (by rw [hF1.2 54 (by decide)]; exact gB.2.1) (by omega) hF2.mF
                have u65 : upd_ (upd_ J2 54 (48 + 3 * (a : Int) + 1) (tHo L (a : Int))) 54 (48 + 3 * ((a + 1 + j : Nat) : Int) + 1) (tHo L ((a + 1 + j : Nat) : Int)) 65 = J2 65 := by rw [up_c (by decide), up_c (by decide)]
                generalize hK : upd_ (upd_ J2 54 (48 + 3 * (a : Int) + 1) (tHo L (a : Int))) 54 (48 + 3 * ((a + 1 + j : Nat) : Int) + 1) (tHo L ((a + 1 + j : Nat) : Int)) = K at hF3 u65 ⊢
                have kA : K 65 (tHo L (a : Int)) = smA ln (swL L (a : Int) ((a + 1 + j : Nat) : Int)) (tHo L (a : Int)) m := by rw [u65, h65' _ hka]; rfl
                have kB : K 65 (tHo L ((a + 1 + j : Nat) : Int)) = smA ln (swL L (a : Int) ((a + 1 + j : Nat) : Int)) (tHo L ((a + 1 + j : Nat) : Int)) m := by rw [u65, h65' _ hkb]; rfl
                have hG := swG_iff (ln := ln) (L := L) (m := m) (a := (a : Int)) (b := ((a + 1 + j : Nat) : Int))
                have b1 := smA_bd (ln := ln) (m := m) hX2.1 hka
                have b2 := smA_bd (ln := ln) (m := m) hX2.1 hkb
                have b1 : -4866048 ≤ K 65 (tHo L (a : Int)) ∧ K 65 (tHo L (a : Int)) ≤ 4866048 := by rw [kA]; exact b1
                have b2 : -4866048 ≤ K 65 (tHo L ((a + 1 + j : Nat) : Int)) ∧ K 65 (tHo L ((a + 1 + j : Nat) : Int)) ≤ 4866048 := by rw [kB]; exact b2
                have hV : K 65 (tHo L (a : Int)) + K 65 (tHo L ((a + 1 + j : Nat) : Int)) = swV ln L m (a : Int) ((a + 1 + j : Nat) : Int) := by rw [kA, kB]; rfl
                rw [← kA, ← kB] at hG
                -- from 243 on
                have tail : ∀ r : Int, (r = 1 ∧ swG ln L m (a : Int) ((a + 1 + j : Nat) : Int) ∨ r = 0 ∧ ¬ swG ln L m (a : Int) ((a + 1 + j : Nat) : Int)) → Ev d 244 243 [some (rf 53), some (nt m), some (nt s.1), some (lg le), none, some (nt (a : Int)), some (nt ((a + 1 + j : Nat) : Int)), some (nt (tHo L (a : Int))), some (nt (tHo L ((a + 1 + j : Nat) : Int))), some (lg (smA ln L (tHo L (a : Int)) m)), none, some (lg (smA ln L (tHo L ((a + 1 + j : Nat) : Int)) m)), none, x13] [nt r] K Q' := by
                  intro r hr'
                  have new : ∀ (x7 x8 x9 x10 x11 x12 x13 : Option MV), swG ln L m (a : Int) ((a + 1 + j : Nat) : Int) → (s.1 = -2 ∨ swV ln L m (a : Int) ((a + 1 + j : Nat) : Int) < s.2) → Ev d 244 33 [some (rf 53), some (nt m), some (nt (iad (iml 20 (a : Int)) ((a + 1 + j : Nat) : Int))), some (lg (lad (K 65 (tHo L (a : Int))) (K 65 (tHo L ((a + 1 + j : Nat) : Int))))), none, some (nt (a : Int)), some (nt (iad ((a + 1 + j : Nat) : Int) 1)), x7, x8, x9, x10, x11, x12, x13] [] K Q' := fun x7 x8 x9 x10 x11 x12 x13 hg hc => by
                    rw [ei, iml_e (by omega), iad_e (by omega), lad_e (by omega), hV]
                    exact ih (j + 1) a s0 (20 * (a : Int) + ((a + 1 + j : Nat) : Int), swV ln L m (a : Int) ((a + 1 + j : Nat) : Int)) _ _ _ _ _ _ _ _ K Q' (by omega) hs0 (by rw [hn1, prS_t ⟨⟨hCC, hg⟩, hc⟩]) hF3 (fun _ => rfl) hn
                  refine Ev.go [33] (T := T_244) rfl rfl ?_
                  rcases hr' with ⟨rfl, hg⟩ | ⟨rfl, hg⟩ <;> conv => whnf
                  · refine brI (fun z6 => ?_) (fun z6 => ?_) <;> conv => whnf
                    · refine anI (by omega) ?_
                      conv => whnf
                      refine anI (by omega) ?_
                      conv => whnf
                      exact ⟨trivial, new _ _ _ _ _ _ _ hg (Or.inl (by omega))⟩
                    · refine anI (by omega) ?_
                      conv => whnf
                      refine anI (by omega) ?_
                      conv => whnf
                      have hle := h12 (by omega)
                      refine brI (fun z7 => ?_) (fun z7 => ?_) <;> conv => whnf
                      all_goals rw [lcm_lt, lad_e (by omega), hV, hle] at z7
                      · refine anI (by omega) ?_
                        conv => whnf
                        refine anI (by omega) ?_
                        conv => whnf
                        exact ⟨trivial, new _ _ _ _ _ _ _ hg (Or.inr z7)⟩
                      · exact ⟨trivial, same _ _ _ _ _ _ _ K (fun w => w.2.elim (fun w => by omega) z7) hF3⟩
                  · exact ⟨trivial, same _ _ _ _ _ _ _ K (fun w => hg w.1.2) hF3⟩
                refine anI (by omega) ?_
                conv => whnf
                refine brI (fun z6 => ?_) (fun z6 => ?_) <;> conv => whnf
                all_goals rw [lcm_gt] at z6
                · exact ⟨trivial, tail 0 (Or.inr ⟨rfl, fun w => by have := (hG.mp w).1; omega⟩)⟩
                · refine anI (by omega) ?_
                  conv => whnf
                  refine brI (fun z7 => ?_) (fun z7 => ?_) <;> conv => whnf
                  all_goals rw [lcm_gt] at z7
                  · exact ⟨trivial, tail 0 (Or.inr ⟨rfl, fun w => by have := (hG.mp w).2.1; omega⟩)⟩
                  · refine anI (by omega) ?_
                    conv => whnf
                    refine brI (fun z8 => ?_) (fun z8 => ?_) <;> conv => whnf
                    all_goals rw [lcm_lt] at z8
                    · exact ⟨trivial, tail 1 (Or.inl ⟨rfl, hG.mpr ⟨by omega, by omega, Or.inl z8⟩⟩)⟩
                    · refine anI (by omega) ?_
                      conv => whnf
                      refine brI (fun z9 => ?_) (fun z9 => ?_) <;> conv => whnf
                      all_goals rw [lcm_lt] at z9
                      · exact ⟨trivial, tail 1 (Or.inl ⟨rfl, hG.mpr ⟨by omega, by omega, Or.inr z9⟩⟩)⟩
                      · exact ⟨trivial, tail 0 (Or.inr ⟨rfl, fun w => (hG.mp w).2.2.elim z8 z9⟩)⟩
        · exact ⟨trivial, same _ _ _ _ _ _ _ J (fun w => z2 w.1.1.2.1) hF⟩
      · exact ⟨trivial, same _ _ _ _ _ _ _ J (fun w => z1 w.1.1.1) hF⟩
  have outer : ∀ (r a : Nat) (x6 x7 x8 x9 x10 x11 x12 x13 : Option MV) (s : Int × Int) (le : Int) (J : ME), a + r = (tSz L).toNat → s = prO (swK_ ln L m) (swV ln L m) (tSz L).toNat a → mF I J → (s.1 ≠ -2 → le = s.2) →
      Ev d 244 18 [some (rf 53), some (nt m), some (nt s.1), some (lg le), none, some (nt (a : Int)), x6, x7, x8, x9, x10, x11, x12, x13] [] J Q := by
    intro r
    induction r with
    | zero =>
      intro a x6 x7 x8 x9 x10 x11 x12 x13 s le J hr hs hF h12
      have f := (hC.mf hF).f
      refine Ev.go [] (T := T_244) rfl rfl ?_
      conv => whnf
      rw [f.1]
      refine brI (fun z => ?_) (fun z => ?_)
      all_goals first | (exfalso; omega) | skip
      conv => whnf
      have e : a = (tSz L).toNat := by omega
      rw [e] at hs
      subst hs
      exact ⟨trivial, h J hF⟩
    | succ r ih =>
      intro a x6 x7 x8 x9 x10 x11 x12 x13 s le J hr hs hF h12
      have f := (hC.mf hF).f
      have ei : iad (a : Int) 1 = ((a + 1 + 0 : Nat) : Int) := by rw [iad_e (by omega)]; rfl
      refine Ev.go [18, 33] (T := T_244) rfl rfl ?_
      conv => whnf
      rw [f.1]
      refine brI (fun z => ?_) (fun z => ?_)
      all_goals first | (exfalso; omega) | skip
      conv => whnf
      rw [ei]
      refine ⟨trivial, inner ((tSz L).toNat - (a + 1)) 0 a s s le _ _ _ _ _ _ _ J Q (by omega) (by rw [hs]; exact prO_p a) rfl hF h12 (fun s2 le2 y7 y8 y9 y10 y11 y12 y13 J2 hs2 hF2 h12' => ?_)⟩
      refine Ev.go [18] (T := T_244) rfl rfl ?_
      conv => whnf
      rw [ei]
      exact ⟨trivial, ih (a + 1) _ _ _ _ _ _ _ _ s2 le2 J2 (by omega) (by rw [hs2, hs]; rfl) hF2 h12'⟩
  exact outer _ 0 none none none none none none none none (-2, 0) 0 I (Nat.zero_add _) rfl mF.rfl' (fun z => absurd rfl z)
noncomputable def F13 (m : Int) (ln : lz_L) (L : LT) : Int := @ite _ (cdW L m) (Classical.propDecidable _) (prO (swK_ ln L m) (swV ln L m) (tSz L).toNat (tSz L).toNat).1 (-1)
theorem op13 {m : Int} : Op3 143 244 [nt m] nt := by
  have key : ∀ {ln L}, cdW L m → F13 m ln L = (prO (swK_ ln L m) (swV ln L m) (tSz L).toNat (tSz L).toNat).1 := fun hm => @if_pos _ (Classical.propDecidable _) hm _ _ _
  have key0 : ∀ {ln L}, ¬ cdW L m → F13 m ln L = -1 := fun hm => @if_neg _ (Classical.propDecidable _) hm _ _ _
  refine Op3.mk (F := F13 m) (fun ln L I Q hX h27 h => ?_) (fun ln L I Q hM h => ?_)
  · have f := hX.f
    have hO := hX.2.1
    have g := hO.f
    refine EvM.go [] (T := T_143) rfl rfl rfl rfl ?_
    conv => whnf
    refine ⟨by omega, x47 (by omega) (by omega) (by omega) (fun hm => ?_) (fun hm => ?_)⟩ <;> conv => whnf
    all_goals rw [f.2.1] at hm
    · refine ⟨by omega, x70 (by omega) hX hm (fun J hF hX2 => ?_)⟩
      conv => whnf
      have := h J (hF.sub (by decide)) hX2 (by rw [hF 27 (by decide)]; exact h27)
      rw [key hm] at this
      exact ⟨trivial, this⟩
    · have := h I Fr.rfl' hX h27
      rw [key0 hm] at this
      exact ⟨trivial, this⟩
  · have f := hM.f
    have hO := hM.1
    have g := hO.f
    refine EvM.go [18] (T := T_244) rfl rfl rfl rfl ?_
    conv => whnf
    refine ⟨by omega, m229 (by omega) (by omega) (by omega) (fun hm => ?_) (fun hm => ?_)⟩ <;> conv => whnf
    all_goals rw [f.2.1] at hm
    · refine ⟨trivial, m244_loop (by omega) hM hm (fun J hF => ?_)⟩
      have := h J hF
      rw [key hm] at this
      exact this
    · have := h I mF.rfl'
      rw [key0 hm] at this
      exact ⟨trivial, this⟩
