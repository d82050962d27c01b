/-! THE WORST: the model; both alike -/
theorem suB.self {L : LT} (hO : LTok L) : suB (tIn L) (tIn L) := ⟨⟨hO.f.2.1.1, hO.f.2.1.2⟩, fun u _ _ q => q⟩
theorem m238_loop {d : Nat} {ln : lz_L} {L : LT} {k m w W : Int} {I : ME} {Q : Option MV → ME → Prop} (hd : 66 ≤ d) (hC : MX ln L I) (hk : pP k) (hm : cdW L m) (hw : 0 ≤ w ∧ w ≤ 3) (hW : W = if w < 2 then 1 else 0)
    (h : ∀ J, drM I J → Q (some (nt (if w % 2 = 0 then lsS ln L k (utF ln L k m W (twN L)) else utF ln L k m W (twN L)))) J) : Ev d 238 51 [some (rf 53), some (nt k), some (nt m), some (nt w), some (nt m), some (nt (-2000000000)), some (nt 0), some (nt 0), none] [] I Q := by
  have hO := hC.1
  have g := hO.f
  have hN := twN_bd hO
  have hls := fun S : Int => lsS_bd (ln := ln) (S := S) hO hk
  have loop : ∀ (q i : Nat) (x : Option MV) (u v : Int) (J : ME), i + q = twN L → drM I J → (utF ln L k m W i < 0 → u = -2000000000 ∧ v = 0) → (0 ≤ utF ln L k m W i → u = lsS ln L k (utF ln L k m W i) ∧ v = utF ln L k m W i) → Ev d 238 51 [some (rf 53), some (nt k), some (nt m), some (nt w), some (nt m), some (nt u), some (nt v), some (nt (i : Int)), x] [] J Q := by
    intro q
    induction q with
    | zero =>
      intro i x u v J hi hF hu0 hu
      have f := (hC.dr hF).f
      refine Ev.go [] (T := T_238) rfl rfl ?_
      conv => whnf
      rw [f.1, hN.2]
      refine brI (fun z => ?_) (fun z => ?_)
      all_goals first | (exfalso; omega) | skip
      conv => whnf
      have e : i = twN L := by omega
      subst e
      have hin := utF_in (ln := ln) (k := k) (w := W) hO hm
      have hu := hu hin.1
      refine nzI (by omega) ?_
      conv => whnf
      rw [irm_q (by omega) (by omega) (by omega)]
      have hJ := h J hF
      refine brI (fun z => ?_) (fun z => ?_) <;> conv => whnf
      · rw [if_pos z] at hJ; rw [hu.1]; exact ⟨trivial, hJ⟩
      · rw [if_neg z] at hJ; rw [hu.2]; exact ⟨trivial, hJ⟩
    | succ q ih =>
      intro i x u v J hi hF hu0 hu
      have hX := hC.dr hF
      have f := hX.f
      have ei : iad (i : Int) 1 = ((i + 1 : Nat) : Int) := by rw [iad_e (by omega)]; rfl
      have same : ∀ y, (¬ (dwP L m (i : Int) ∧ (utF ln L k m W i < 0 ∨ (W = 1 ∧ lsS ln L k (utF ln L k m W i) < lsS ln L k (i : Int)) ∨ (W ≠ 1 ∧ lsS ln L k (i : Int) < lsS ln L k (utF ln L k m W i))))) → ∀ J2, drM I J2 → Ev d 238 51 [some (rf 53), some (nt k), some (nt m), some (nt w), some (nt m), some (nt u), some (nt v), some (nt (iad (i : Int) 1)), y] [] J2 Q := fun y hn J2 hF2 => by
        have e : utF ln L k m W (i + 1) = utF ln L k m W i := by conv => lhs; unfold utF
                                                                 rw [if_neg hn]
        rw [ei]
        exact ih (i + 1) y u v J2 (by omega) hF2 (by rw [e]; exact hu0) (by rw [e]; exact hu)
      have new : ∀ y, (dwP L m (i : Int) ∧ (utF ln L k m W i < 0 ∨ (W = 1 ∧ lsS ln L k (utF ln L k m W i) < lsS ln L k (i : Int)) ∨ (W ≠ 1 ∧ lsS ln L k (i : Int) < lsS ln L k (utF ln L k m W i)))) → ∀ J2, drM I J2 → Ev d 238 51 [some (rf 53), some (nt k), some (nt m), some (nt w), some (nt m), some (nt (lsS ln L k (i : Int))), some (nt (i : Int)), some (nt (iad (i : Int) 1)), y] [] J2 Q := fun y hn J2 hF2 => by
        have e : utF ln L k m W (i + 1) = (i : Int) := by conv => lhs; unfold utF
                                                          rw [if_pos hn]
        rw [ei]
        exact ih (i + 1) y (lsS ln L k (i : Int)) (i : Int) J2 (by omega) hF2 (fun z => by rw [e] at z; omega) (by rw [e]; exact fun _ => ⟨rfl, rfl⟩)
      refine Ev.go [51] (T := T_238) rfl rfl ?_
      conv => whnf
      rw [f.1, hN.2]
      refine brI (fun z => ?_) (fun z => ?_)
      all_goals first | (exfalso; omega) | skip
      conv => whnf
      refine ⟨by omega, m227 (fun z1 => ?_) (fun z1 => ?_)⟩ <;> conv => whnf
      all_goals rw [f.2.1] at z1
      · refine ⟨by omega, m189p (by omega) (by omega) ?_⟩
        conv => whnf
        refine brI (fun z2 => ?_) (fun z2 => ?_) <;> conv => whnf
        · have hp : dwP L m (i : Int) := ⟨z1.2, by omega⟩
          rw [f.2.1]
          refine ⟨by omega, m226 (by omega) hX (suB.self hO) (dw_su hO (by omega) hp) (fun J2 hF2 hp2 => ?_)⟩
          have e63 := hp2 k hk
          rw [lsI_in] at e63
          have hF3 := hF.tr hF2
          conv => whnf
          have hl := hls (i : Int)
          have hl2 := hls (utF ln L k m W i)
          have fin : ∀ y, (dwP L m (i : Int) ∧ (utF ln L k m W i < 0 ∨ (W = 1 ∧ lsS ln L k (utF ln L k m W i) < lsS ln L k (i : Int)) ∨ (W ≠ 1 ∧ lsS ln L k (i : Int) < lsS ln L k (utF ln L k m W i)))) → Ev d 238 51 [some (rf 53), some (nt k), some (nt m), some (nt w), some (nt m), some (nt (J2 63 k)), some (nt (i : Int)), some (nt (iad (i : Int) 1)), y] [] J2 Q := fun y hn => by
            rw [e63]; exact new y hn J2 hF3
          refine brI (fun z3 => ?_) (fun z3 => ?_) <;> conv => whnf
          · refine anI (by omega) ?_
            conv => whnf
            refine ⟨trivial, fin _ ⟨hp, Or.inl ?_⟩⟩
            refine Int.not_le.mp (fun r => ?_)
            have := (hu r).1
            omega
          · have hr : 0 ≤ utF ln L k m W i := Int.not_lt.mp (fun r => z3 (hu0 r).1)
            have hu1 := hu hr
            rcases (show W = 1 ∧ w < 2 ∨ W = 0 ∧ ¬ w < 2 by rw [hW]; by_cases r : w < 2 <;> simp [r]) with ⟨hW1, hw1⟩ | ⟨hW1, hw1⟩
            · refine brI (fun _ => ?_) (fun z4 => by exfalso; omega)
              conv => whnf
              refine anI (by omega) ?_
              conv => whnf
              refine brI (fun z5 => ?_) (fun z5 => ?_) <;> conv => whnf
              all_goals first
                | exact ⟨trivial, same _ (by omega) J2 hF3⟩
                | (refine anI (by omega) ?_
                   conv => whnf
                   exact ⟨trivial, fin _ ⟨hp, by omega⟩⟩)
            · refine brI (fun z4 => by exfalso; omega) (fun _ => ?_)
              conv => whnf
              refine anI (by omega) ?_
              conv => whnf
              refine brI (fun z5 => ?_) (fun z5 => ?_) <;> conv => whnf
              all_goals first
                | exact ⟨trivial, same _ (by omega) J2 hF3⟩
                | (refine anI (by omega) ?_
                   conv => whnf
                   exact ⟨trivial, fin _ ⟨hp, by omega⟩⟩)
        · exact ⟨trivial, same _ (fun r => z2 (by omega)) J hF⟩
      · exact ⟨trivial, same _ (fun r => z1 ⟨by omega, r.1.1⟩) J hF⟩
  exact loop (twN L) 0 none _ _ I (by omega) drM.rfl' (fun _ => ⟨rfl, rfl⟩) (fun z => by have : (0 : Int) ≤ -2 := z; omega)
noncomputable def F8 (k m w : Int) (ln : lz_L) (L : LT) : Int := if pP k ∧ cdW L m ∧ 0 ≤ w ∧ w ≤ 3 then (if w % 2 = 0 then lsS ln L k (utF ln L k m (if w < 2 then 1 else 0) (twN L)) else utF ln L k m (if w < 2 then 1 else 0) (twN L)) else -2000000000
theorem m238 {d : Nat} {ln : lz_L} {L : LT} {k m w : Int} {I : ME} {Q : Option MV → ME → Prop} (hd : 66 ≤ d) (hC : MX ln L I) (h : ∀ J, drM I J → Q (some (nt (F8 k m w ln L))) J) : EvM d 238 [rf 53, nt k, nt m, nt w] I Q := by
  have hO := hC.1
  have f := hC.f
  have g := hO.f
  have no : (¬ (pP k ∧ cdW L m ∧ 0 ≤ w ∧ w ≤ 3)) → Q (some (nt (-2000000000))) I := fun hn => by
    have := h I drM.rfl'
    unfold F8 at this
    rw [if_neg hn] at this
    exact this
  refine EvM.go [51] (T := T_238) rfl rfl rfl rfl ?_
  conv => whnf
  refine ⟨by omega, m195 (by omega) (fun hk => ?_) (fun hk => ?_)⟩ <;> conv => whnf
  · refine ⟨by omega, m229 (by omega) (by omega) (by omega) (fun hm => ?_) (fun hm => ?_)⟩ <;> conv => whnf
    all_goals rw [f.2.1] at hm
    · refine ⟨by omega, m187 (fun hw => ?_) (fun hw => ?_)⟩ <;> conv => whnf
      · rw [f.2.1]
        refine ⟨by omega, m230 (by omega) (by omega) (by omega) ?_⟩
        rw [show (if m < pI (tIn L) then m else pI (tIn L)) = m by have := hm.2; split <;> omega]
        conv => whnf
        refine ⟨trivial, m238_loop hd hC hk hm hw rfl (fun J hF => ?_)⟩
        have := h J hF
        unfold F8 at this
        rw [if_pos ⟨hk, hm, hw⟩] at this
        exact this
      · exact ⟨trivial, no (fun r => hw r.2.2)⟩
    · exact ⟨trivial, no (fun r => hm r.2.1)⟩
  · exact ⟨trivial, no (fun r => hk r.1)⟩
theorem op8 {k m w : Int} : Op3 138 238 [nt k, nt m, nt w] nt := by
  refine Op3.mk (F := F8 k m w) (fun ln L I Q hX h27 h => ?_) (fun ln L I Q hM h => m238 (by omega) hM (fun J hF => h J hF.mF))
  have f := hX.f
  have hO := hX.2.1
  have g := hO.f
  have no : (¬ (pP k ∧ cdW L m ∧ 0 ≤ w ∧ w ≤ 3)) → Q (some (nt (-2000000000))) I := fun hn => by
    have := h I Fr.rfl' hX h27
    unfold F8 at this
    rw [if_neg hn] at this
    exact this
  have body : ∀ W : Int, W = (if w < 2 then 1 else 0) → pP k → cdW L m → 0 ≤ w ∧ w ≤ 3 → Ev 799 138 46 [some (rf 0), some (nt k), some (nt m), some (nt w), none] [nt W, nt m, nt k, rf 16] I Q := by
    intro W hW hk hm hw
    have hin := utF_in (ln := ln) (k := k) (w := W) hO hm
    have key : ∀ J, Fr [11, 12, 13, 16, 17, 18, 19] I J → CX ln L J → Q (some (nt (if w % 2 = 0 then lsS ln L k (utF ln L k m W (twN L)) else utF ln L k m W (twN L)))) J := fun J hF hX2 => by
      have := h J (hF.sub (by decide)) hX2 (by rw [hF 27 (by decide)]; exact h27)
      unfold F8 at this
      rw [if_pos ⟨hk, hm, hw⟩, ← hW] at this
      exact this
    refine Ev.go [] (T := T_138) rfl rfl ?_
    conv => whnf
    refine ⟨by omega, x124 (by omega) hX hk (by rw [hW]; split <;> omega) (fun J hF hX2 => ?_)⟩
    conv => whnf
    refine nzI (by omega) ?_
    conv => whnf
    rw [irm_q (by omega) (by omega) (by omega)]
    refine brI (fun z => ?_) (fun z => ?_) <;> conv => whnf
    · have := key J hF hX2
      rw [if_neg (by omega)] at this
      exact ⟨trivial, this⟩
    · refine ⟨by omega, x123 (by omega) hX2 (areIn_L hO ⟨by omega, by omega⟩ hin.2.2.1) hk (fun J2 hF2 hX3 _ => ?_)⟩
      conv => whnf
      have := key J2 (hF.tr hF2) hX3
      rw [if_pos (by omega)] at this
      exact ⟨trivial, this⟩
  refine EvM.go [46] (T := T_138) rfl rfl rfl rfl ?_
  conv => whnf
  refine ⟨by omega, x175 (fun hk => ?_) (fun hk => ?_)⟩ <;> conv => whnf
  · refine ⟨by omega, x47 (by omega) (by omega) (by omega) (fun hm => ?_) (fun hm => ?_)⟩ <;> conv => whnf
    all_goals rw [f.2.1] at hm
    · refine brI (fun z => ?_) (fun z => ?_) <;> conv => whnf
      · exact ⟨trivial, no (fun r => by omega)⟩
      · refine brI (fun z1 => ?_) (fun z1 => ?_) <;> conv => whnf
        · exact ⟨trivial, no (fun r => by omega)⟩
        · refine brI (fun z2 => ?_) (fun z2 => ?_) <;> conv => whnf
          · exact ⟨trivial, body 1 (by rw [if_pos (by omega)]) hk hm (by omega)⟩
          · exact ⟨trivial, body 0 (by rw [if_neg (by omega)]) hk hm (by omega)⟩
    · exact ⟨trivial, no (fun r => hm r.2.1)⟩
  · exact ⟨trivial, no (fun r => hk r.1)⟩
