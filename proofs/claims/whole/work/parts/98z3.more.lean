/-! HOW LIKELY MORE than so much -/
noncomputable def abF (ln : lz_L) (L : LT) (k m x : Int) (i : Nat) : Nat := ctP (fun S => dwP L m S ∧ x < lsS ln L k S) i
theorem x125 {d : Nat} {ln : lz_L} {L : LT} {k m x : Int} {I : ME} {Q : Option MV → ME → Prop} (hd : 8 ≤ d) (hC : CX ln L I) (hk : pP k)
    (h : ∀ J, Fr [11, 12, 13, 16, 17, 18, 19] I J → CX ln L J → Q (some (nt (abF ln L k m x (twN L) : Int))) J) : EvM d 125 [rf 16, nt k, nt m, nt x] I Q := by
  have hO := hC.2.1
  have g := hO.f
  have hN := twN_bd hO
  have loop : ∀ (q i : Nat) (J : ME), i + q = twN L → Fr [11, 12, 13, 16, 17, 18, 19] I J → CX ln L J → Ev d 125 6 [some (rf 16), some (nt k), some (nt m), some (nt x), some (nt (abF ln L k m x i : Int)), some (nt (i : Int))] [] J Q := by
    intro q
    induction q with
    | zero =>
      intro i J hi hF hX
      have f := hX.f
      refine Ev.go [] (T := T_125) rfl rfl ?_
      conv => whnf
      refine ⟨by omega, x35 ?_⟩
      rw [f.1]
      conv => whnf
      rw [hN.2]
      refine brI (fun z => ?_) (fun z => ?_)
      all_goals first | (exfalso; omega) | skip
      conv => whnf
      have e : i = twN L := by omega
      subst e
      exact ⟨trivial, h J hF hX⟩
    | succ q ih =>
      intro i J hi hF hX
      have f := hX.f
      have ei : iad (i : Int) 1 = ((i + 1 : Nat) : Int) := by rw [iad_e (by omega)]; rfl
      have hc := ctP_le (fun S => dwP L m S ∧ x < lsS ln L k S) i
      have same : (¬ (dwP L m (i : Int) ∧ x < lsS ln L k (i : Int))) → ∀ J2, Fr [11, 12, 13, 16, 17, 18, 19] I J2 → CX ln L J2 → Ev d 125 6 [some (rf 16), some (nt k), some (nt m), some (nt x), some (nt (abF ln L k m x i : Int)), some (nt (iad (i : Int) 1))] [] J2 Q := fun hn J2 hF2 hX2 => by
        have e : abF ln L k m x (i + 1) = abF ln L k m x i := ctP_f (p := fun S => dwP L m S ∧ x < lsS ln L k S) hn
        rw [ei]
        have := ih (i + 1) J2 (by omega) hF2 hX2
        rw [e] at this
        exact this
      refine Ev.go [6] (T := T_125) rfl rfl ?_
      conv => whnf
      refine ⟨by omega, x35 ?_⟩
      rw [f.1]
      conv => whnf
      rw [hN.2]
      refine brI (fun z => ?_) (fun z => ?_)
      all_goals first | (exfalso; omega) | skip
      conv => whnf
      refine ⟨by omega, x49 (by omega) (by omega) (by omega) (fun hp => ?_) (fun hp => ?_)⟩ <;> conv => whnf
      all_goals rw [f.2.1] at hp
      · refine ⟨by omega, x123 (by omega) hX (dw_su hO (by omega) hp) hk (fun J2 hF2 hX2 _ => ?_)⟩
        have hF3 := hF.tr hF2
        conv => whnf
        refine brI (fun z1 => ?_) (fun z1 => ?_) <;> conv => whnf
        · have e : abF ln L k m x (i + 1) = abF ln L k m x i + 1 := ctP_t (p := fun S => dwP L m S ∧ x < lsS ln L k S) ⟨hp, by omega⟩
          have hc2 : abF ln L k m x i ≤ i := hc
          refine ⟨trivial, Ev.to ?_ rfl (ih (i + 1) J2 (by omega) hF3 hX2)⟩
          rw [e, ei, iad_e (by omega)]
          rfl
        · exact ⟨trivial, same (fun r => by omega) J2 hF3 hX2⟩
      · exact ⟨trivial, same (fun r => hp r.1) J hF hX⟩
  refine EvM.go [6] (T := T_125) rfl rfl rfl rfl ?_
  conv => whnf
  exact ⟨trivial, loop (twN L) 0 I (by omega) Fr.rfl' hC⟩
noncomputable def F9 (k mx p : Int) (ln : lz_L) (L : LT) : Int := if pP k ∧ 0 ≤ mx ∧ mx % 2000 ≤ 1998 ∧ cdW L (mx / 2000) ∧ 0 ≤ p ∧ p ≤ 1 then frI (abF ln L k (mx / 2000) (mx % 2000 - 999) (twN L) : Int) (wyI (pI (tIn L)) (mx / 2000)) p else NoF
theorem m239_loop {d : Nat} {ln : lz_L} {L : LT} {k m mx p : Int} {I : ME} {Q : Option MV → ME → Prop} (hd : 66 ≤ d) (hC : MX ln L I) (hk : pP k) (hm : cdW L m) (hx : 0 ≤ mx ∧ mx ≤ 2147483647) (hp : 0 ≤ p ∧ p ≤ 1)
    (h : ∀ J, drM I J → Q (some (lg (frI (abF ln L k m (mx % 2000 - 999) (twN L) : Int) (wyI (pI (tIn L)) m) p))) J) : Ev d 239 66 [some (rf 53), some (nt k), some (nt mx), some (nt p), some (nt m), some (lg 0), none, some (nt 0)] [] I Q := by
  have hO := hC.1
  have g := hO.f
  have hN := twN_bd hO
  have hpI := pI_bd (tIn L)
  have loop : ∀ (q i : Nat) (J : ME), i + q = twN L → drM I J → Ev d 239 66 [some (rf 53), some (nt k), some (nt mx), some (nt p), some (nt m), some (lg (abF ln L k m (mx % 2000 - 999) i : Int)), none, some (nt (i : Int))] [] J Q := by
    intro q
    induction q with
    | zero =>
      intro i J hi hF
      have f := (hC.dr hF).f
      refine Ev.go [] (T := T_239) rfl rfl ?_
      conv => whnf
      rw [f.1, hN.2]
      refine brI (fun z => ?_) (fun z => ?_)
      all_goals first | (exfalso; omega) | skip
      conv => whnf
      have e : i = twN L := by omega
      subst e
      have hc : abF ln L k m (mx % 2000 - 999) (twN L) ≤ twN L := ctP_le _ _
      rw [f.2.1]
      refine ⟨by omega, m189p (by omega) (by omega) ?_⟩
      conv => whnf
      refine ⟨by omega, m231 (by omega) (by omega) ?_⟩
      conv => whnf
      have hw := wyI_pos hpI.2 hm.1 hm.2
      have hw2 := wyI_bd (n := pI (tIn L)) (k := m) hpI.1 hpI.2
      refine ⟨by omega, m235 (by omega) (by omega) (by omega) hp ?_⟩
      conv => whnf
      exact ⟨trivial, h J hF⟩
    | succ q ih =>
      intro i J hi hF
      have hX := hC.dr hF
      have f := hX.f
      have ei : iad (i : Int) 1 = ((i + 1 : Nat) : Int) := by rw [iad_e (by omega)]; rfl
      have hc : abF ln L k m (mx % 2000 - 999) i ≤ i := ctP_le _ _
      have same : (¬ (dwP L m (i : Int) ∧ mx % 2000 - 999 < lsS ln L k (i : Int))) → ∀ J2, drM I J2 → Ev d 239 66 [some (rf 53), some (nt k), some (nt mx), some (nt p), some (nt m), some (lg (abF ln L k m (mx % 2000 - 999) i : Int)), none, some (nt (iad (i : Int) 1))] [] J2 Q := fun hn J2 hF2 => by
        have e : abF ln L k m (mx % 2000 - 999) (i + 1) = abF ln L k m (mx % 2000 - 999) i := ctP_f (p := fun S => dwP L m S ∧ mx % 2000 - 999 < lsS ln L k S) hn
        rw [ei]
        have := ih (i + 1) J2 (by omega) hF2
        rw [e] at this
        exact this
      refine Ev.go [66] (T := T_239) rfl rfl ?_
      conv => whnf
      rw [f.1, hN.2]
      refine brI (fun z => ?_) (fun z => ?_)
      all_goals first | (exfalso; omega) | skip
      conv => whnf
      refine ⟨by omega, m227 (fun z1 => ?_) (fun z1 => ?_)⟩ <;> conv => whnf
      all_goals rw [f.2.1] at z1
      · refine ⟨by omega, m189p (by omega) (by omega) ?_⟩
        conv => whnf
        refine brI (fun z2 => ?_) (fun z2 => ?_) <;> conv => whnf
        · have hp' : dwP L m (i : Int) := ⟨z1.2, by omega⟩
          rw [f.2.1]
          refine ⟨by omega, m226 (by omega) hX (suB.self hO) (dw_su hO (by omega) hp') (fun J2 hF2 hp2 => ?_)⟩
          have e63 := hp2 k hk
          rw [lsI_in] at e63
          have hF3 := hF.tr hF2
          conv => whnf
          refine anI (by omega) ?_
          conv => whnf
          refine nzI (by omega) ?_
          conv => whnf
          rw [irm_q (by omega) (by omega) (by omega), isb_e (by omega), e63]
          refine brI (fun z3 => ?_) (fun z3 => ?_) <;> conv => whnf
          · have e : abF ln L k m (mx % 2000 - 999) (i + 1) = abF ln L k m (mx % 2000 - 999) i + 1 := ctP_t (p := fun S => dwP L m S ∧ mx % 2000 - 999 < lsS ln L k S) ⟨hp', by omega⟩
            refine ⟨trivial, Ev.to ?_ rfl (ih (i + 1) J2 (by omega) hF3)⟩
            rw [e, ei, lad_e (by omega)]
            rfl
          · refine ⟨trivial, Ev.to ?_ rfl (same (fun r => by omega) J2 hF3)⟩
            rw [lad_e (by omega), Int.add_zero]
        · exact ⟨trivial, same (fun r => z2 (by omega)) J hF⟩
      · exact ⟨trivial, same (fun r => z1 ⟨by omega, r.1.1⟩) J hF⟩
  exact loop (twN L) 0 I (by omega) drM.rfl'
theorem op9 {k mx p : Int} (hmx : mx ≤ 2147483647) : Op3 139 239 [nt k, nt mx, nt p] lg := by
  refine Op3.mk (F := F9 k mx p) (fun ln L I Q hX h27 h => ?_) (fun ln L I Q hM h => ?_)
  · have f := hX.f
    have hO := hX.2.1
    have g := hO.f
    have hpI := pI_bd (tIn L)
    have no : ∀ J, Fr scC I J → CX ln L J → J 27 0 = 0 → (¬ (pP k ∧ 0 ≤ mx ∧ mx % 2000 ≤ 1998 ∧ cdW L (mx / 2000) ∧ 0 ≤ p ∧ p ≤ 1)) → Q (some (lg (-9223372036854775808))) J := fun J hF hX2 hJ hn => by
      have := h J hF hX2 hJ
      unfold F9 at this
      rw [if_neg hn] at this
      exact this
    refine EvM.go [] (T := T_139) rfl rfl rfl rfl ?_
    conv => whnf
    refine ⟨by omega, x175 (fun hk => ?_) (fun hk => ?_)⟩ <;> conv => whnf
    · refine brI (fun z => ?_) (fun z => ?_) <;> conv => whnf
      · exact ⟨trivial, no I Fr.rfl' hX h27 (fun r => by omega)⟩
      · refine nzI (by omega) ?_
        conv => whnf
        rw [irm_q (by omega) (by omega) (by omega)]
        refine brI (fun z1 => ?_) (fun z1 => ?_) <;> conv => whnf
        · exact ⟨trivial, no I Fr.rfl' hX h27 (fun r => by omega)⟩
        · refine nzI (by omega) ?_
          conv => whnf
          rw [idv_q (by omega) (by omega) (by omega)]
          refine ⟨by omega, x47 (by omega) (by omega) (by omega) (fun hm => ?_) (fun hm => ?_)⟩ <;> conv => whnf
          all_goals rw [f.2.1] at hm
          · refine nzI (by omega) ?_
            conv => whnf
            rw [idv_q (by omega) (by omega) (by omega)]
            refine nzI (by omega) ?_
            conv => whnf
            rw [irm_q (by omega) (by omega) (by omega), isb_e (by omega)]
            refine ⟨by omega, x125 (by omega) hX hk (fun J hF hX2 => ?_)⟩
            have f2 := hX2.f
            conv => whnf
            refine ⟨by omega, x48 (by omega) (by omega) (by omega) ?_⟩
            rw [f2.2.1]
            conv => whnf
            have hc : abF ln L k (mx / 2000) (mx % 2000 - 999) (twN L) ≤ twN L := ctP_le _ _
            have hN := twN_bd hO
            have hw := wyI_pos hpI.2 hm.1 hm.2
            have hw2 := wyI_bd (n := pI (tIn L)) (k := mx / 2000) hpI.1 hpI.2
            refine ⟨by omega, x184 (by omega) (by omega) (by omega) (fun hp => ?_) (fun hp => ?_)⟩ <;> conv => whnf
            · exact ⟨trivial, no J (hF.sub (by decide)) hX2 (by rw [hF 27 (by decide)]; exact h27) (fun r => hp ⟨r.2.2.2.2.1, r.2.2.2.2.2⟩)⟩
            · have := h J (hF.sub (by decide)) hX2 (by rw [hF 27 (by decide)]; exact h27)
              unfold F9 at this
              rw [if_pos ⟨hk, by omega, by omega, hm, hp⟩] at this
              exact ⟨trivial, this⟩
          · exact ⟨trivial, no I Fr.rfl' hX h27 (fun r => hm r.2.2.2.1)⟩
    · exact ⟨trivial, no I Fr.rfl' hX h27 (fun r => hk r.1)⟩
  · have f := hM.f
    have hO := hM.1
    have g := hO.f
    have no : (¬ (pP k ∧ 0 ≤ mx ∧ mx % 2000 ≤ 1998 ∧ cdW L (mx / 2000) ∧ 0 ≤ p ∧ p ≤ 1)) → Q (some (lg (-9223372036854775808))) I := fun hn => by
      have := h I ⟨fun _ _ => rfl, Fr.rfl'⟩
      unfold F9 at this
      rw [if_neg hn] at this
      exact this
    refine EvM.go [66] (T := T_239) rfl rfl rfl rfl ?_
    conv => whnf
    refine ⟨by omega, m195 (by omega) (fun hk => ?_) (fun hk => ?_)⟩ <;> conv => whnf
    · refine brI (fun z => ?_) (fun z => ?_) <;> conv => whnf
      · exact ⟨trivial, no (fun r => by omega)⟩
      · refine nzI (by omega) ?_
        conv => whnf
        rw [idv_q (by omega) (by omega) (by omega)]
        refine ⟨by omega, m229 (by omega) (by omega) (by omega) (fun hm => ?_) (fun hm => ?_)⟩ <;> conv => whnf
        all_goals rw [f.2.1] at hm
        · refine nzI (by omega) ?_
          conv => whnf
          rw [irm_q (by omega) (by omega) (by omega)]
          refine brI (fun z1 => ?_) (fun z1 => ?_) <;> conv => whnf
          · exact ⟨trivial, no (fun r => by omega)⟩
          · refine ⟨by omega, m236 (by omega) (fun hp => ?_) (fun hp => ?_)⟩ <;> conv => whnf
            · refine nzI (by omega) ?_
              conv => whnf
              rw [idv_q (by omega) (by omega) (by omega), f.2.1]
              refine ⟨by omega, m230 (by omega) (by omega) (by omega) ?_⟩
              rw [show (if mx / 2000 < pI (tIn L) then mx / 2000 else pI (tIn L)) = mx / 2000 by have := hm.2; split <;> omega]
              conv => whnf
              refine ⟨trivial, m239_loop (by omega) hM hk hm ⟨by omega, hmx⟩ hp (fun J hF => ?_)⟩
              have := h J hF.mF
              unfold F9 at this
              rw [if_pos ⟨hk, by omega, by omega, hm, hp⟩] at this
              exact this
            · exact ⟨trivial, no (fun r => hp r.2.2.2.2)⟩
        · exact ⟨trivial, no (fun r => hm r.2.2.2.1)⟩
    · exact ⟨trivial, no (fun r => hk r.1)⟩
