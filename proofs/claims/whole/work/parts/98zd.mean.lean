/-! MEAN: both alike; RID -/
theorem smL_bd {ln : lz_L} {L : LT} {m : Int} (hL : LTok L) : -29196288 ≤ smL_ ln L m ∧ smL_ ln L m ≤ 29196288 := by
  have := smF_6 (f := fun p => smA ln L (p : Int) m) (b := 4866048) (by omega) (fun p hp => smA_bd hL (by omega)) 6 (by omega)
  unfold smL_
  omega
theorem m232L {d : Nat} {ln : lz_L} {L : LT} {m : Int} {I : ME} {Q : Option MV → ME → Prop} (hd : 66 ≤ d) (hC : MX ln L I) (hm : cdW L m)
    (h : ∀ J, sF I J → J 53 26 = wyI (pI (tIn L)) m → (∀ p, pP p → J 65 p = smA ln L p m) → Q none J) : EvM d 232 [rf 53, nt (tIn L), nt m] I Q := by
  have e : mnI m (tIn L) = m := by unfold mnI; have := hm.2; split <;> omega
  refine m232 hd hC (suB.self hC.1) (fun J hF h26 h65 => ?_)
  rw [e] at h26 h65
  exact h J hF h26 h65
theorem m233L {d : Nat} {ln : lz_L} {L : LT} {m : Int} {I : ME} {Q : Option MV → ME → Prop} (hL : LTok L) (h65 : ∀ p, pP p → I 65 p = smA ln L p m) (h : Q (some (lg (smL_ ln L m))) I) : EvM d 233 [rf 53] I Q := by
  refine m233 (fun p hp => by rw [h65 p hp]; exact smA_bd hL hp) ?_
  have e : smF (fun p => I 65 (p : Int)) 6 = smL_ ln L m := smF_cg (fun p hp => h65 _ (by omega))
  rw [e]; exact h
noncomputable def F7 (k m p : Int) (ln : lz_L) (L : LT) : Int := if pH k ∧ cdW L m ∧ 0 ≤ p ∧ p ≤ 1 then frI (if k = -1 then smL_ ln L m else smA ln L k m) (wyI (pI (tIn L)) m) p else NoF
theorem op7 {k m p : Int} : Op3 137 237 [nt k, nt m, nt p] lg := by
  refine Op3.mk (F := F7 k m p) (fun ln L I Q hX h27 h => ?_) (fun ln L I Q hM h => ?_)
  · have f := hX.f
    have hO := hX.2.1
    have g := hO.f
    have hpI := pI_bd (tIn L)
    have no : ∀ J, Fr scC I J → CX ln L J → J 27 0 = 0 → (¬ (pH k ∧ cdW L m ∧ 0 ≤ p ∧ p ≤ 1)) → Q (some (lg (-9223372036854775808))) J := fun J hF hX2 hJ hn => by
      have := h J hF hX2 hJ
      unfold F7 at this
      rw [if_neg hn] at this
      exact this
    have tail : ∀ (J : ME) (V : Int), pH k → cdW L m → Fr [11, 12, 13, 20, 21, 22, 23] I J → CX ln L J → V = (if k = -1 then smL_ ln L m else smA ln L k m) → Ev 799 137 47 [some (rf 0), some (nt k), some (nt m), some (nt p), none] [nt V] J Q := by
      intro J V hk hm hF hX2 hV
      have f2 := hX2.f
      have hb : -29196288 ≤ V ∧ V ≤ 29196288 := by
        rw [hV]
        by_cases w : k = -1
        · rw [if_pos w]; exact smL_bd hO
        · rw [if_neg w]
          have := smA_bd (ln := ln) (m := m) hO (hk.resolve_left w)
          omega
      refine Ev.go [] (T := T_137) rfl rfl ?_
      conv => whnf
      refine ⟨by omega, x48 (by omega) (by omega) (by omega) ?_⟩
      rw [f2.2.1]
      conv => whnf
      have hw := wyI_pos hpI.2 hm.1 hm.2
      have hw2 := wyI_bd (n := pI (tIn L)) (k := m) hpI.1 hpI.2
      have h27' : J 27 0 = 0 := by rw [hF 27 (by decide)]; exact h27
      refine ⟨by omega, x184 (by omega) (by omega) (by omega) (fun hp => ?_) (fun hp => ?_)⟩ <;> conv => whnf
      · exact ⟨trivial, no J (hF.sub (by decide)) hX2 h27' (fun r => hp r.2.2)⟩
      · have := h J (hF.sub (by decide)) hX2 h27'
        unfold F7 at this
        rw [if_pos ⟨hk, hm, hp⟩, ← hV] at this
        exact ⟨trivial, this⟩
    refine EvM.go [47] (T := T_137) rfl rfl rfl rfl ?_
    conv => whnf
    refine ⟨by omega, x176 (by omega) (fun hk => ?_) (fun hk => ?_)⟩ <;> conv => whnf
    · refine ⟨by omega, x47 (by omega) (by omega) (by omega) (fun hm => ?_) (fun hm => ?_)⟩ <;> conv => whnf
      all_goals rw [f.2.1] at hm
      · refine brI (fun z => ?_) (fun z => ?_) <;> conv => whnf
        · refine ⟨by omega, x62 (by omega) hX (by omega) (fun J hF hX2 => ?_)⟩
          conv => whnf
          exact ⟨trivial, tail J _ hk hm hF hX2 (by rw [if_pos z])⟩
        · refine ⟨by omega, x63 (by omega) hX (hk.resolve_left z) (by omega) (fun J hF hX2 => ?_)⟩
          conv => whnf
          exact ⟨trivial, tail J _ hk hm hF hX2 (by rw [if_neg z])⟩
      · exact ⟨trivial, no I Fr.rfl' hX h27 (fun r => hm r.2.1)⟩
    · exact ⟨trivial, no I Fr.rfl' hX h27 (fun r => hk r.1)⟩
  · have f := hM.f
    have hO := hM.1
    have g := hO.f
    have hpI := pI_bd (tIn L)
    have no : (¬ (pH k ∧ cdW L m ∧ 0 ≤ p ∧ p ≤ 1)) → Q (some (lg (-9223372036854775808))) I := fun hn => by
      have := h I ⟨fun _ _ => rfl, Fr.rfl'⟩
      unfold F7 at this
      rw [if_neg hn] at this
      exact this
    have tail : ∀ (J : ME) (V : Int), pH k → cdW L m → 0 ≤ p ∧ p ≤ 1 → sF I J → J 53 26 = wyI (pI (tIn L)) m → V = (if k = -1 then smL_ ln L m else smA ln L k m) → Ev 799 237 58 [some (rf 53), some (nt k), some (nt m), some (nt p)] [lg V] J Q := by
      intro J V hk hm hp hF h26 hV
      have hb : -29196288 ≤ V ∧ V ≤ 29196288 := by
        rw [hV]
        by_cases w : k = -1
        · rw [if_pos w]; exact smL_bd hO
        · rw [if_neg w]
          have := smA_bd (ln := ln) (m := m) hO (hk.resolve_left w)
          omega
      have hw := wyI_pos hpI.2 hm.1 hm.2
      have hw2 := wyI_bd (n := pI (tIn L)) (k := m) hpI.1 hpI.2
      refine Ev.go [] (T := T_237) rfl rfl ?_
      conv => whnf
      rw [h26]
      refine ⟨by omega, m235 (by omega) (by omega) (by omega) hp ?_⟩
      conv => whnf
      have := h J hF.mF
      unfold F7 at this
      rw [if_pos ⟨hk, hm, hp⟩, ← hV] at this
      exact ⟨trivial, this⟩
    have mid : pH k → Ev 799 237 13 [some (rf 53), some (nt k), some (nt m), some (nt p)] [] I Q := by
      intro hk
      refine Ev.go [58] (T := T_237) rfl rfl ?_
      conv => whnf
      refine ⟨by omega, m229 (by omega) (by omega) (by omega) (fun hm => ?_) (fun hm => ?_)⟩ <;> conv => whnf
      all_goals rw [f.2.1] at hm
      · refine ⟨by omega, m236 (by omega) (fun hp => ?_) (fun hp => ?_)⟩ <;> conv => whnf
        · rw [f.2.1]
          refine ⟨by omega, m232L (by omega) hM hm (fun J hF h26 h65 => ?_)⟩
          conv => whnf
          refine brI (fun z => ?_) (fun z => ?_) <;> conv => whnf
          · have hk1 : k = -1 := by rcases hk with w | w <;> omega
            refine ⟨by omega, m233L hO h65 ?_⟩
            conv => whnf
            exact ⟨trivial, tail J _ hk hm hp hF h26 (by rw [if_pos hk1])⟩
          · have hk1 : pP k := hk.resolve_left (by omega)
            refine anI (by omega) ?_
            conv => whnf
            rw [h65 k hk1]
            exact ⟨trivial, tail J _ hk hm hp hF h26 (by rw [if_neg (by omega)])⟩
        · exact ⟨trivial, no (fun r => hp r.2.2)⟩
      · exact ⟨trivial, no (fun r => hm r.2.1)⟩
    refine EvM.go [13] (T := T_237) rfl rfl rfl rfl ?_
    conv => whnf
    refine brI (fun z => ?_) (fun z => ?_) <;> conv => whnf
    · exact ⟨trivial, mid (Or.inl z)⟩
    · refine ⟨by omega, m195 (by omega) (fun hk => ?_) (fun hk => ?_)⟩ <;> conv => whnf
      · exact ⟨trivial, mid (Or.inr hk)⟩
      · exact ⟨trivial, no (fun r => r.1.elim z hk)⟩
noncomputable def F11 (t m p : Int) (ln : lz_L) (L : LT) : Int := if (0 ≤ t ∧ t < tSz L) ∧ hasb (tIn L) t ∧ cdW L m ∧ 0 ≤ p ∧ p ≤ 1 then frI (if tHo L t = -1 then 0 else smA ln L (tHo L t) m - smA ln (Lho L t (-1)) (tHo L t) m) (wyI (pI (tIn L)) m) p else NoF
theorem x44L {d : Nat} {ln : lz_L} {L : LT} {t : Int} {I : ME} {Q : Option MV → ME → Prop} (hd : 1 ≤ d) (hC : CX ln L I) (ht : 0 ≤ t ∧ t < tSz L) (h : Q (some (nt (tHo L t))) I) : EvM d 44 [rf 1, nt t] I Q := by
  have f := hC.f
  have g := hC.2.1.f
  refine x44 hd (by omega) (fun _ => by rw [f.2.2.2.2.2.1]; exact h) (fun z => absurd (show tkC I t by unfold tkC; omega) z)
theorem x37L {d : Nat} {ln : lz_L} {L : LT} {t : Int} {I : ME} {Q : Option MV → ME → Prop} (hd : 1 ≤ d) (hC : CX ln L I) (h0 : (0 ≤ t ∧ t < tSz L) ∧ hasb (tIn L) t → Q (some (nt 1)) I) (h1 : ¬ ((0 ≤ t ∧ t < tSz L) ∧ hasb (tIn L) t) → Q (some (nt 0)) I) : EvM d 37 [rf 1, nt t] I Q := by
  have f := hC.f
  refine x37 hd (fun z => h0 ?_) (fun z => h1 (fun w => z ?_))
  · unfold inC tkC at z
    rw [f.1, f.2.1] at z
    exact z
  · unfold inC tkC
    rw [f.1, f.2.1]
    exact w
theorem op11 {t m p : Int} : Op3 141 242 [nt t, nt m, nt p] lg := by
  refine Op3.mk (F := F11 t m p) (fun ln L I Q hX h27 h => ?_) (fun ln L I Q hM h => ?_)
  · have f := hX.f
    have hO := hX.2.1
    have g := hO.f
    have hpI := pI_bd (tIn L)
    have no : ∀ J, Fr scC I J → CX ln L J → J 27 0 = 0 → (¬ ((0 ≤ t ∧ t < tSz L) ∧ hasb (tIn L) t ∧ cdW L m ∧ 0 ≤ p ∧ p ≤ 1)) → Q (some (lg (-9223372036854775808))) J := fun J hF hX2 hJ hn => by
      have := h J hF hX2 hJ
      unfold F11 at this
      rw [if_neg hn] at this
      exact this
    refine EvM.go [] (T := T_141) rfl rfl rfl rfl ?_
    conv => whnf
    refine ⟨by omega, x37L (by omega) hX (fun ht => ?_) (fun ht => ?_)⟩ <;> conv => whnf
    · refine ⟨by omega, x47 (by omega) (by omega) (by omega) (fun hm => ?_) (fun hm => ?_)⟩ <;> conv => whnf
      all_goals rw [f.2.1] at hm
      · have hTt := hO.t ht.1.1 (by omega)
        -- the relief
        have key : ∀ Q' : Option MV → ME → Prop, (∀ J V, Fr [11, 12, 13, 20, 21, 22, 23] I J → CX ln L J → V = (if tHo L t = -1 then 0 else smA ln L (tHo L t) m - smA ln (Lho L t (-1)) (tHo L t) m) → Q' (some (nt V)) J) → EvM 798 68 [rf 24, nt t, nt m] I Q' := by
          intro Q' hq
          refine EvM.go [] (T := T_68) rfl rfl rfl rfl ?_
          conv => whnf
          refine ⟨by omega, x44L (by omega) hX ht.1 ?_⟩
          conv => whnf
          refine brI (fun z => ?_) (fun z => ?_) <;> conv => whnf
          · exact ⟨trivial, hq I 0 Fr.rfl' hX (by rw [if_pos z])⟩
          · have hk : pP (tHo L t) := hTt.2.1.resolve_left z
            refine ⟨by omega, x63 (by omega) hX hk (by omega) (fun J hF hX2 => ?_)⟩
            conv => whnf
            refine ⟨by omega, x45L (by omega) hX2 ht.1 (Or.inl rfl) (fun hX3 => ?_)⟩
            conv => whnf
            refine ⟨by omega, x63 (by omega) hX3 hk (by omega) (fun J2 hF2 hX4 => ?_)⟩
            conv => whnf
            refine ⟨by omega, x45L (by omega) hX4 ht.1 hTt.2.1 (fun hX5 => ?_)⟩
            rw [Lho_bk rfl] at hX5
            conv => whnf
            have b1 := smA_bd (ln := ln) (m := m) hO hk
            have b2 := smA_bd (ln := ln) (m := m) hX3.2.1 hk
            rw [isb_e (by omega)]
            have hF3 : Fr [4, 11, 12, 13, 20, 21, 22, 23] I (upd_ J2 4 t (tHo L t)) := fr_up ((fr_up (hF.sub (by decide)) (by decide)).tr (hF2.sub (by decide))) (by decide)
            exact ⟨trivial, hq _ _ (Fr.back hF3 (by rw [hX5.f.2.2.2.2.2.1, f.2.2.2.2.2.1])) hX5 (by rw [if_neg z])⟩
        refine ⟨by omega, key _ (fun J V hF hX2 hV => ?_)⟩
        conv => whnf
        have f2 := hX2.f
        have hb : -9732096 ≤ V ∧ V ≤ 9732096 := by
          rw [hV]
          by_cases w : tHo L t = -1
          · rw [if_pos w]; omega
          · rw [if_neg w]
            have b1 := smA_bd (ln := ln) (m := m) hO (hTt.2.1.resolve_left w)
            have b2 := smA_bd (ln := ln) (m := m) (Lho.ok hO ht.1.1 (by omega) (Or.inl rfl)) (hTt.2.1.resolve_left w) (L := Lho L t (-1))
            omega
        refine ⟨by omega, x48 (by omega) (by omega) (by omega) ?_⟩
        rw [f2.2.1]
        conv => whnf
        have hw := wyI_pos hpI.2 hm.1 hm.2
        have hw2 := wyI_bd (n := pI (tIn L)) (k := m) hpI.1 hpI.2
        have h27' : J 27 0 = 0 := by rw [hF 27 (by decide)]; exact h27
        refine ⟨by omega, x184 (by omega) (by omega) (by omega) (fun hp => ?_) (fun hp => ?_)⟩ <;> conv => whnf
        · exact ⟨trivial, no J (hF.sub (by decide)) hX2 h27' (fun r => hp r.2.2.2)⟩
        · have := h J (hF.sub (by decide)) hX2 h27'
          unfold F11 at this
          rw [if_pos ⟨ht.1, ht.2, hm, hp⟩, ← hV] at this
          exact ⟨trivial, this⟩
      · exact ⟨trivial, no I Fr.rfl' hX h27 (fun r => hm r.2.2.1)⟩
    · exact ⟨trivial, no I Fr.rfl' hX h27 (fun r => ht ⟨r.1, r.2.1⟩)⟩
  · have f := hM.f
    have hO := hM.1
    have g := hO.f
    have hpI := pI_bd (tIn L)
    have no : (¬ ((0 ≤ t ∧ t < tSz L) ∧ hasb (tIn L) t ∧ cdW L m ∧ 0 ≤ p ∧ p ≤ 1)) → Q (some (lg (-9223372036854775808))) I := fun hn => by
      have := h I ⟨fun _ _ => rfl, Fr.rfl'⟩
      unfold F11 at this
      rw [if_neg hn] at this
      exact this
    refine EvM.go [] (T := T_242) rfl rfl rfl rfl ?_
    conv => whnf
    refine ⟨by omega, m194 (by omega) (by omega) (by omega) (fun ht => ?_) (fun ht => ?_)⟩ <;> conv => whnf
    all_goals unfold tkM at ht
    all_goals rw [f.1] at ht
    · refine ⟨by omega, m188 (fun hin => ?_) (fun hin => ?_)⟩ <;> conv => whnf
      all_goals rw [f.2.1] at hin
      · refine ⟨by omega, m229 (by omega) (by omega) (by omega) (fun hm => ?_) (fun hm => ?_)⟩ <;> conv => whnf
        all_goals rw [f.2.1] at hm
        · refine ⟨by omega, m236 (by omega) (fun hp => ?_) (fun hp => ?_)⟩ <;> conv => whnf
          · have ht12 : t < 12 := by omega
            have gT := hM.t ht.1 ht12
            have hTt := hO.t ht.1 ht12
            have hw := wyI_pos hpI.2 hm.1 hm.2
            have hw2 := wyI_bd (n := pI (tIn L)) (k := m) hpI.1 hpI.2
            refine ⟨by omega, m198 ht.1 ht12 ?_⟩
            rw [gT.2.1]
            conv => whnf
            have key : ∀ J, mF I J → Q (some (lg (F11 t m p ln L))) J := fun J hF => h J hF
            unfold F11 at key
            rw [if_pos ⟨ht, hin, hm, hp⟩] at key
            refine brI (fun z => ?_) (fun z => ?_) <;> conv => whnf
            · have e1 : tHo L t = -1 := by rcases hTt.2.1 with w | w <;> omega
              have := key I ⟨fun _ _ => rfl, Fr.rfl'⟩
              rw [if_pos e1, frI_0 hw hp] at this
              exact ⟨trivial, this⟩
            · have hne : ¬ tHo L t = -1 := by omega
              have hk : pP (tHo L t) := hTt.2.1.resolve_left hne
              rw [if_neg hne] at key
              rw [f.2.1]
              refine ⟨by omega, m232L (by omega) hM hm (fun J hF h26 h65 => ?_)⟩
              have hM2 := hM.mf hF.mF
              have f2 := hM2.f
              conv => whnf
              refine anI (by omega) ?_
              conv => whnf
              refine ⟨by omega, m241 ht.1 ht12 ?_⟩
              conv => whnf
              refine anI (by omega) ?_
              conv => whnf
              rw [show upd_ J 54 (48 + 3 * t + 1) (-1) 53 = J 53 from up_c (by decide), f2.2.1]
              have hM3 := hM2.hand ht.1 ht12 (Or.inl rfl) (k := -1)
              rw [show tIn L = tIn (Lho L t (-1)) from rfl]
              refine ⟨by omega, m232L (by omega) hM3 hm (fun J2 hF2 h26' h65' => ?_)⟩
              conv => whnf
              refine ⟨by omega, m241 ht.1 ht12 ?_⟩
              conv => whnf
              refine anI (by omega) ?_
              conv => whnf
              refine anI (by omega) ?_
              conv => whnf
              have u1 : upd_ J2 54 (48 + 3 * t + 1) (tHo L t) 65 = J2 65 := up_c (by decide)
              have u2 : upd_ J2 54 (48 + 3 * t + 1) (tHo L t) 53 = J2 53 := up_c (by decide)
              rw [u1, u2, h26', h65' _ hk, h65 _ hk]
              have b1 := smA_bd (ln := ln) (m := m) hO hk
              have b2 := smA_bd (ln := ln) (m := m) hM3.1 hk
              rw [lsb_e (by omega)]
              rw [show pI (tIn (Lho L t (-1))) = pI (tIn L) from rfl]
              refine ⟨by omega, m235 (by omega) (by omega) (by omega) hp ?_⟩
              conv => whnf
              refine ⟨trivial, key _ (hF.mF.tr (mF.put hF2.mF ?_))⟩
              rw [hF.2 54 (by decide), gT.2.1]
          · exact ⟨trivial, no (fun r => hp r.2.2.2)⟩
        · exact ⟨trivial, no (fun r => hm r.2.2.1)⟩
      · exact ⟨trivial, no (fun r => hin r.2.1)⟩
    · exact ⟨trivial, no (fun r => ht r.1)⟩
