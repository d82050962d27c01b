/-! THE WORST of all draws of m -/
abbrev dwP (L : LT) (m S : Int) : Prop := ian S (ixr (tIn L) (-1)) = 0 ∧ pI S = m
abbrev cdW (L : LT) (m : Int) : Prop := 0 ≤ m ∧ m ≤ pI (tIn L)
def twN (L : LT) : Nat := 2 ^ (tSz L).toNat
theorem twN_bd {L : LT} (hL : LTok L) : twN L ≤ 4096 ∧ isl 1 (tSz L) = (twN L : Int) := by
  have g := hL.f
  have e := isl_nat (k := (tSz L).toNat) (by omega)
  rw [show (((tSz L).toNat : Nat) : Int) = tSz L by omega] at e
  refine ⟨?_, e⟩
  have : 2 ^ (tSz L).toNat ≤ 2 ^ 12 := Nat.pow_le_pow_right (by decide) (by omega)
  unfold twN
  omega
theorem dw_su {L : LT} (hL : LTok L) {m : Int} {i : Nat} (hi : i < 4096) (h : dwP L m (i : Int)) : suB (i : Int) (tIn L) := areIn_L hL ⟨by omega, by omega⟩ h.1
theorem pcn_iv (s m : Nat) : ∀ k, m ≤ pcn k s → ∃ j, j ≤ k ∧ pcn j s = m
  | 0, h => ⟨0, Nat.le_refl 0, by unfold pcn at h ⊢; omega⟩
  | k + 1, h => by
    by_cases q : m ≤ pcn k s
    · obtain ⟨j, a, b⟩ := pcn_iv s m k q
      exact ⟨j, by omega, b⟩
    · refine ⟨k + 1, Nat.le_refl _, ?_⟩
      unfold pcn at h ⊢
      cases hb : s.testBit k with
      | false => rw [hb] at h; exact absurd h q
      | true => rw [hb] at h; show pcn k s + 1 = m; have h : m ≤ pcn k s + 1 := h; omega
theorem dw_ex {L : LT} (hL : LTok L) {m : Int} (h : cdW L m) : ∃ S : Nat, S < twN L ∧ dwP L m (S : Int) := by
  have g := hL.f
  obtain ⟨j, h1, h2⟩ := pcn_iv (tIn L).toNat m.toNat 12 (by have := h.2; unfold pI at this; have := h.1; omega)
  have hle : (tIn L).toNat % 2 ^ j ≤ (tIn L).toNat := Nat.mod_le _ _
  refine ⟨(tIn L).toNat % 2 ^ j, ?_, ?_, ?_⟩
  · have := set_lt g.2.1.1 g.2.1.2 g.1.1 g.1.2 (fun u u0 u1 => hL.top u0 u1)
    have e : ((2 ^ (tSz L).toNat : Nat) : Int) = 2 ^ (tSz L).toNat := by rw [Int.natCast_pow]; rfl
    unfold twN
    omega
  · rw [areIn_iff (by omega) (by omega) g.2.1.1 g.2.1.2]
    intro u u0 u1 hu
    rw [hb_iff (by omega) (by omega) u0 (by omega), Int.toNat_natCast, Nat.testBit_mod_two_pow, Bool.and_eq_true] at hu
    rw [hb_iff g.2.1.1 (by omega) u0 (by omega)]
    exact hu.2
  · unfold pI
    rw [Int.toNat_natCast, pcn_top (n := 12) (m := j) h1 (fun i a b => by rw [Nat.testBit_mod_two_pow, decide_eq_false (by omega)]; rfl), pcn_congr (t := (tIn L).toNat) (fun i hi => by rw [Nat.testBit_mod_two_pow, decide_eq_true (by omega)]; rfl), h2]
    have := h.1; omega
noncomputable def utF (ln : lz_L) (L : LT) (k m w : Int) : Nat → Int
  | 0 => -2
  | i + 1 => if dwP L m (i : Int) ∧ (utF ln L k m w i < 0 ∨ (w = 1 ∧ lsS ln L k (utF ln L k m w i) < lsS ln L k (i : Int)) ∨ (w ≠ 1 ∧ lsS ln L k (i : Int) < lsS ln L k (utF ln L k m w i))) then (i : Int) else utF ln L k m w i
theorem utF_bd {ln : lz_L} {L : LT} {k m w : Int} : ∀ i : Nat, utF ln L k m w i = -2 ∨ (0 ≤ utF ln L k m w i ∧ utF ln L k m w i < i ∧ dwP L m (utF ln L k m w i))
  | 0 => Or.inl rfl
  | i + 1 => by
    have ih := utF_bd (ln := ln) (L := L) (k := k) (m := m) (w := w) i
    unfold utF
    split
    · rename_i q
      exact Or.inr ⟨by omega, by omega, q.1⟩
    · rcases ih with q | q
      · exact Or.inl q
      · exact Or.inr ⟨q.1, by omega, q.2.2⟩
theorem utF_mo {ln : lz_L} {L : LT} {k m w : Int} {i : Nat} (h : 0 ≤ utF ln L k m w i) : 0 ≤ utF ln L k m w (i + 1) := by
  unfold utF
  split
  · omega
  · exact h
theorem utF_ex {ln : lz_L} {L : LT} {k m w : Int} {S : Nat} (h : dwP L m (S : Int)) : ∀ j : Nat, 0 ≤ utF ln L k m w (S + 1 + j)
  | 0 => by
    show 0 ≤ utF ln L k m w (S + 1)
    unfold utF
    split
    · omega
    · rename_i q
      refine Int.not_lt.mp (fun z => q ⟨h, Or.inl z⟩)
  | j + 1 => utF_mo (utF_ex h j)
theorem utF_in {ln : lz_L} {L : LT} {k m w : Int} (hL : LTok L) (h : cdW L m) : 0 ≤ utF ln L k m w (twN L) ∧ utF ln L k m w (twN L) < 4096 ∧ dwP L m (utF ln L k m w (twN L)) := by
  obtain ⟨S, h1, h2⟩ := dw_ex hL h
  have a := utF_ex (ln := ln) (k := k) (w := w) h2 (twN L - (S + 1))
  rw [show S + 1 + (twN L - (S + 1)) = twN L by omega] at a
  have b := (twN_bd hL).1
  rcases utF_bd (ln := ln) (L := L) (k := k) (m := m) (w := w) (twN L) with q | q
  · omega
  · exact ⟨q.1, by omega, q.2.2⟩
theorem x49 {d : Nat} {s m : Int} {I : ME} {Q : Option MV → ME → Prop} (hd : 1 ≤ d) (h0 : 0 ≤ s) (h1 : s < 4096) (ky : (ian s (ixr (I 1 6) (-1)) = 0 ∧ pI s = m) → Q (some (nt 1)) I) (kn : ¬ (ian s (ixr (I 1 6) (-1)) = 0 ∧ pI s = m) → Q (some (nt 0)) I) : EvM d 49 [rf 1, nt s, nt m] I Q := by
  refine EvM.go [] (T := T_49) rfl rfl rfl rfl ?_
  conv => whnf
  refine ⟨by omega, x38 (fun z => ?_) (fun z => ?_)⟩ <;> conv => whnf
  · refine ⟨by omega, x295p h0 h1 ?_⟩
    conv => whnf
    refine brI (fun q => ?_) (fun q => ?_) <;> conv => whnf
    · exact ⟨trivial, ky ⟨z, by omega⟩⟩
    · exact ⟨trivial, kn (fun r => q (by omega))⟩
  · exact ⟨trivial, kn (fun r => z r.1)⟩
theorem x124 {d : Nat} {ln : lz_L} {L : LT} {k m w : Int} {I : ME} {Q : Option MV → ME → Prop} (hd : 8 ≤ d) (hC : CX ln L I) (hk : pP k) (hw : w = 0 ∨ w = 1)
    (h : ∀ J, Fr [11, 12, 13, 16, 17, 18, 19] I J → CX ln L J → Q (some (nt (utF ln L k m w (twN L)))) J) : EvM d 124 [rf 16, nt k, nt m, nt w] I Q := by
  have hO := hC.2.1
  have g := hO.f
  have hN := twN_bd hO
  have loop : ∀ (q i : Nat) (x : Option MV) (u : Int) (J : ME), i + q = twN L → Fr [11, 12, 13, 16, 17, 18, 19] I J → CX ln L J → (0 ≤ utF ln L k m w i → u = lsS ln L k (utF ln L k m w i)) → Ev d 124 10 [some (rf 16), some (nt k), some (nt m), some (nt w), some (nt u), some (nt (utF ln L k m w i)), some (nt (i : Int)), x] [] J Q := by
    intro q
    induction q with
    | zero =>
      intro i x u J hi hF hX hu
      have f := hX.f
      refine Ev.go [] (T := T_124) rfl rfl ?_
      conv => whnf
      refine ⟨by omega, x35 ?_⟩
      rw [f.1]
      conv => whnf
      rw [hN.2]
      refine brI (fun z => ?_) (fun z => ?_)
      all_goals first | (exfalso; omega) | skip
      conv => whnf
      have e : i = twN L := by omega
      subst e
      exact ⟨trivial, h J hF hX⟩
    | succ q ih =>
      intro i x u J hi hF hX hu
      have f := hX.f
      have ei : iad (i : Int) 1 = ((i + 1 : Nat) : Int) := by rw [iad_e (by omega)]; rfl
      have same : ∀ y, (¬ (dwP L m (i : Int) ∧ (utF ln L k m w i < 0 ∨ (w = 1 ∧ lsS ln L k (utF ln L k m w i) < lsS ln L k (i : Int)) ∨ (w ≠ 1 ∧ lsS ln L k (i : Int) < lsS ln L k (utF ln L k m w i))))) → ∀ J2, Fr [11, 12, 13, 16, 17, 18, 19] I J2 → CX ln L J2 → Ev d 124 10 [some (rf 16), some (nt k), some (nt m), some (nt w), some (nt u), some (nt (utF ln L k m w i)), some (nt (iad (i : Int) 1)), y] [] J2 Q := fun y hn J2 hF2 hX2 => by
        have e : utF ln L k m w (i + 1) = utF ln L k m w i := by conv => lhs; unfold utF
                                                                 rw [if_neg hn]
        rw [ei]
        have := ih (i + 1) y u J2 (by omega) hF2 hX2 (by rw [e]; exact hu)
        rw [e] at this
        exact this
      have new : ∀ y, (dwP L m (i : Int) ∧ (utF ln L k m w i < 0 ∨ (w = 1 ∧ lsS ln L k (utF ln L k m w i) < lsS ln L k (i : Int)) ∨ (w ≠ 1 ∧ lsS ln L k (i : Int) < lsS ln L k (utF ln L k m w i)))) → ∀ J2, Fr [11, 12, 13, 16, 17, 18, 19] I J2 → CX ln L J2 → Ev d 124 10 [some (rf 16), some (nt k), some (nt m), some (nt w), some (nt (lsS ln L k (i : Int))), some (nt (i : Int)), some (nt (iad (i : Int) 1)), y] [] J2 Q := fun y hn J2 hF2 hX2 => by
        have e : utF ln L k m w (i + 1) = (i : Int) := by conv => lhs; unfold utF
                                                          rw [if_pos hn]
        rw [ei]
        have := ih (i + 1) y (lsS ln L k (i : Int)) J2 (by omega) hF2 hX2 (by rw [e]; exact fun _ => rfl)
        rw [e] at this
        exact this
      refine Ev.go [10] (T := T_124) rfl rfl ?_
      conv => whnf
      refine ⟨by omega, x35 ?_⟩
      rw [f.1]
      conv => whnf
      rw [hN.2]
      refine brI (fun z => ?_) (fun z => ?_)
      all_goals first | (exfalso; omega) | skip
      conv => whnf
      refine ⟨by omega, x49 (by omega) (by omega) (by omega) (fun hp => ?_) (fun hp => ?_)⟩ <;> conv => whnf
      all_goals rw [f.2.1] at hp
      · refine ⟨by omega, x123 (by omega) hX (dw_su hO (by omega) hp) hk (fun J2 hF2 hX2 _ => ?_)⟩
        have hF3 := hF.tr hF2
        conv => whnf
        refine brI (fun z1 => ?_) (fun z1 => ?_) <;> conv => whnf
        · exact ⟨trivial, new _ ⟨hp, Or.inl (by omega)⟩ J2 hF3 hX2⟩
        · have hu := hu (by omega)
          rcases hw with rfl | rfl <;> conv => whnf
          · refine brI (fun z2 => ?_) (fun z2 => ?_) <;> conv => whnf
            all_goals first
              | exact ⟨trivial, same _ (by omega) J2 hF3 hX2⟩
              | exact ⟨trivial, new _ ⟨hp, by omega⟩ J2 hF3 hX2⟩
          · refine brI (fun z2 => ?_) (fun z2 => ?_) <;> conv => whnf
            all_goals first
              | exact ⟨trivial, same _ (by omega) J2 hF3 hX2⟩
              | exact ⟨trivial, new _ ⟨hp, by omega⟩ J2 hF3 hX2⟩
      · exact ⟨trivial, same _ (fun r => hp r.1) J hF hX⟩
  refine EvM.go [10] (T := T_124) rfl rfl rfl rfl ?_
  conv => whnf
  exact ⟨trivial, loop (twN L) 0 none 0 I (by omega) Fr.rfl' hC (fun z => by have : (0 : Int) ≤ -2 := z; omega)⟩
