/-! YEARS by draws -/
def yrN (L : LT) (m : Int) : Nat := (if m < pI (tIn L) then m else pI (tIn L)).toNat
noncomputable def yrP (ln : lz_L) (L : LT) (z m : Int) : Int → Int × Int := sqP ln L (yrG L z) (yrN L m)
noncomputable def ysL (ln : lz_L) (L : LT) (z m one : Int) : Int := if one = -1 then smF (fun p => (yrP ln L z m (p : Int)).2) 6 else (yrP ln L z m one).2
noncomputable def ysF (ln : lz_L) (L : LT) (m one seed : Int) : Nat → Int × Int
  | 0 => (seed, 0)
  | y + 1 => ((yrI L (ysF ln L m one seed y).1 (yrN L m)).2, (ysF ln L m one seed y).2 + ysL ln L (ysF ln L m one seed y).1 m one)
theorem yr_t {L : LT} (hL : LTok L) {z : Int} {i : Nat} (hi : (i : Int) < pI (tIn L)) : (0 ≤ yrG L z (i : Int) ∧ yrG L z (i : Int) < tSz L) ∧ hasb (sqI L (yrG L z) i) (yrG L z (i : Int)) := yr_ok hL (yr_up hL i (by omega)) hi
theorem yr_bd {ln : lz_L} {L : LT} (hL : LTok L) {z : Int} {i : Nat} (hi : (i : Int) ≤ pI (tIn L)) : pBd (sqP ln L (yrG L z) i) (99 * (i : Int)) := by
  have g := hL.f
  refine sqP_bd hL i (fun j hj => ?_)
  have := (yr_t hL (z := z) (i := j) (by omega)).1
  omega
theorem yrN_b {L : LT} {m : Int} (hm : 0 ≤ m) : (yrN L m : Int) = (if m < pI (tIn L) then m else pI (tIn L)) := by
  have := pI_bd (tIn L)
  unfold yrN
  split <;> omega
theorem yrP_bd {ln : lz_L} {L : LT} (hL : LTok L) {z m : Int} (hm : 0 ≤ m) {p : Int} (hp : pP p) : -1188 ≤ (yrP ln L z m p).2 ∧ (yrP ln L z m p).2 ≤ 1188 := by
  have hb := pI_bd (tIn L)
  have hn := yrN_b (L := L) hm
  have hle : (yrN L m : Int) ≤ pI (tIn L) := by rw [hn]; split <;> omega
  have := (yr_bd (ln := ln) hL (z := z) hle p hp).2
  unfold yrP
  omega
theorem ysL_bd {ln : lz_L} {L : LT} (hL : LTok L) {z m one : Int} (hm : 0 ≤ m) (ho : pH one) : -7128 ≤ ysL ln L z m one ∧ ysL ln L z m one ≤ 7128 := by
  unfold ysL
  by_cases h : one = -1
  · rw [if_pos h]
    have := smF_6 (f := fun p => (yrP ln L z m (p : Int)).2) (b := 1188) (by omega) (fun p hp => yrP_bd hL hm (by omega)) 6 (by omega)
    omega
  · rw [if_neg h]
    have := yrP_bd (ln := ln) (z := z) hL hm (ho.resolve_left h)
    omega
theorem ysF_bd {ln : lz_L} {L : LT} (hL : LTok L) {seed m one : Int} (hm : 0 ≤ m) (ho : pH one) : ∀ y : Nat, -(7128 * (y : Int)) ≤ (ysF ln L m one seed y).2 ∧ (ysF ln L m one seed y).2 ≤ 7128 * (y : Int)
  | 0 => by show -(7128 * ((0 : Nat) : Int)) ≤ 0 ∧ 0 ≤ 7128 * ((0 : Nat) : Int); omega
  | y + 1 => by
    have ih := ysF_bd (ln := ln) hL (seed := seed) hm ho y
    have := ysL_bd (ln := ln) (z := (ysF ln L m one seed y).1) hL hm ho
    show -(7128 * ((y + 1 : Nat) : Int)) ≤ (ysF ln L m one seed y).2 + ysL ln L (ysF ln L m one seed y).1 m one ∧ (ysF ln L m one seed y).2 + ysL ln L (ysF ln L m one seed y).1 m one ≤ 7128 * ((y + 1 : Nat) : Int)
    omega
theorem pI_nz {s : Int} (h0 : 0 ≤ s) (h1 : s < 4096) : s = 0 ↔ pI s = 0 := by
  constructor
  · intro h; rw [h]; exact pI_0
  · intro h
    refine Classical.byContradiction (fun w => ?_)
    have := pcn_nz (s := s.toNat) (by omega) (by omega)
    unfold pI at h
    omega
theorem x119 {d : Nat} {I : ME} {Q : Option MV → ME → Prop} (hb : ∀ p, pP p → -1188 ≤ I 19 p ∧ I 19 p ≤ 1188) (h : Q (some (nt (smF (fun p => I 19 (p : Int)) 6))) I) : EvM d 119 [rf 16] I Q := by
  have hb6 := smF_6 (f := fun p => I 19 (p : Int)) (b := 1188) (by omega) (fun p hp => hb _ (by omega))
  have loop : ∀ (r k : Nat), k + r = 6 → Ev d 119 4 [some (rf 16), some (nt (smF (fun p => I 19 (p : Int)) k)), some (nt (k : Int))] [] I Q := by
    intro r
    induction r with
    | zero =>
      intro k hr
      refine Ev.go [] (T := T_119) rfl rfl ?_
      conv => whnf
      refine brI (fun z => ?_) (fun z => ?_)
      all_goals first | (exfalso; omega) | skip
      conv => whnf
      have e : k = 6 := by omega
      subst e
      exact ⟨trivial, h⟩
    | succ r ih =>
      intro k hr
      have ei : iad (k : Int) 1 = ((k + 1 : Nat) : Int) := by rw [iad_e (by omega)]; rfl
      refine Ev.go [4] (T := T_119) rfl rfl ?_
      conv => whnf
      refine brI (fun z => ?_) (fun z => ?_)
      all_goals first | (exfalso; omega) | skip
      conv => whnf
      refine anI (by omega) ?_
      conv => whnf
      have b1 := hb6 k (by omega)
      have b2 := hb (k : Int) (by omega)
      rw [ei, iad_e (by omega)]
      exact ⟨trivial, ih (k + 1) (by omega)⟩
  refine EvM.go [4] (T := T_119) rfl rfl rfl rfl ?_
  conv => whnf
  exact ⟨trivial, loop 6 0 rfl⟩
theorem x127 {d : Nat} {ln : lz_L} {L : LT} {seed ys m one : Int} {I : ME} {Q : Option MV → ME → Prop} (hd : 7 ≤ d) (hC : CX ln L I) (hy : 0 ≤ ys ∧ ys ≤ 20) (hm : 0 ≤ m ∧ m ≤ 12) (ho : pH one)
    (h : ∀ J, Fr [11, 12, 13, 16, 17, 18, 19] I J → CX ln L J → Q (some (nt (ysF ln L m one seed ys.toNat).2)) J) : EvM d 127 [rf 16, nt seed, nt ys, nt m, nt one] I Q := by
  have hO := hC.2.1
  have gg := hO.f
  have hpI := pI_bd (tIn L)
  have hnb := yrN_b (L := L) hm.1
  have inner : ∀ (r i : Nat) (z0 all yr : Int) (J : ME) (Q' : Option MV → ME → Prop), i + r = yrN L m → Fr [11, 12, 13, 16, 17, 18, 19] I J → TSc ln L J (sqI L (yrG L z0) i) (tDr L + (i : Int)) (sqP ln L (yrG L z0) i) →
      (∀ (k : Int) (J : ME), Fr [11, 12, 13, 16, 17, 18, 19] I J → CX ln L J → (∀ p, pP p → J 19 p = (yrP ln L z0 m p).2) → Ev d 127 58 [some (rf 16), some (nt seed), some (nt ys), some (nt m), some (nt one), some (nt (yrI L z0 (yrN L m)).2), some (nt all), some (nt yr), some (nt k)] [] J Q') →
      Ev d 127 22 [some (rf 16), some (nt seed), some (nt ys), some (nt m), some (nt one), some (nt (yrI L z0 i).2), some (nt all), some (nt yr), some (nt (i : Int))] [] J Q' := by
    intro r
    induction r with
    | zero =>
      intro i z0 all yr J Q' hi hF hT hn
      have e : i = yrN L m := by omega
      have hle : (i : Int) ≤ pI (tIn L) := by rw [e, hnb]; split <;> omega
      have hup := yr_up hO (z := z0) i hle
      have hfin := fun k => hn k J hF hT.1 (fun p q => by have := (hT.2.2.2 p q).1; unfold yrP; rw [← e, ← this])
      rw [← e] at hfin
      refine Ev.go [58] (T := T_127) rfl rfl ?_
      conv => whnf
      refine brI (fun z => ?_) (fun z => ?_) <;> conv => whnf
      · rw [hT.2.1]
        refine brI (fun z2 => ?_) (fun z2 => ?_) <;> conv => whnf
        · exact ⟨trivial, hfin _⟩
        · exfalso
          have h2 := hup.2
          have : pI (sqI L (yrG L z0) i) = 0 := by
            rw [e, hnb] at z
            rw [e, hnb] at h2
            rw [e]
            split at z <;> split at h2 <;> omega
          exact z2 ((pI_nz hup.1.1.1 hup.1.1.2).mpr this)
      · exact ⟨trivial, hfin _⟩
    | succ r ih =>
      intro i z0 all yr J Q' hi hF hT hn
      have hlt : (i : Int) < pI (tIn L) ∧ (i : Int) < m := by
        have : (i : Int) < (yrN L m : Int) := by omega
        rw [hnb] at this
        split at this <;> omega
      have hup := yr_up hO (z := z0) i (by omega)
      have hok := yr_t hO (z := z0) hlt.1
      have hb := yr_bd (ln := ln) hO (z := z0) (i := i) (by omega)
      have h2 := hup.2
      have hpp : 0 < pI (sqI L (yrG L z0) i) := by omega
      have hne : sqI L (yrG L z0) i ≠ 0 := fun w => by rw [w, pI_0] at hpp; omega
      have ei : iad (i : Int) 1 = ((i + 1 : Nat) : Int) := by rw [iad_e (by omega)]; rfl
      have eg : yrG L z0 (i : Int) = pkF (sqI L (yrG L z0) i) (nxz (yrI L z0 i).2) := by rw [yr_sq]; rfl
      refine Ev.go [22, 58] (T := T_127) rfl rfl ?_
      conv => whnf
      refine brI (fun z => ?_) (fun z => ?_)
      all_goals first | (exfalso; omega) | skip
      conv => whnf
      rw [hT.2.1]
      refine brI (fun z2 => absurd z2 hne) (fun z2 => ?_)
      conv => whnf
      refine ⟨by omega, x186 ?_⟩
      conv => whnf
      refine ⟨by omega, x128 (by omega) hT.2.1 hup.1.1.1 hup.1.1.2 hpp ?_⟩
      rw [← eg]
      conv => whnf
      refine ⟨by omega, x121 (by omega) hT hup.1 hb (by omega) (by omega) hok.1 hok.2 (fun J2 hF2 hT2 => ?_)⟩
      conv => whnf
      rw [ei]
      refine ⟨trivial, ih (i + 1) z0 all yr J2 Q' (by omega) (hF.tr hF2) ?_ hn⟩
      rw [show tDr L + ((i + 1 : Nat) : Int) = tDr L + (i : Int) + 1 by omega]
      exact hT2
  have outer : ∀ (r y : Nat) (x : Option MV) (J : ME), y + r = ys.toNat → Fr [11, 12, 13, 16, 17, 18, 19] I J → CX ln L J → Ev d 127 9 [some (rf 16), some (nt seed), some (nt ys), some (nt m), some (nt one), some (nt (ysF ln L m one seed y).1), some (nt (ysF ln L m one seed y).2), some (nt (y : Int)), x] [] J Q := by
    intro r
    induction r with
    | zero =>
      intro y x J hy' hF hX
      refine Ev.go [] (T := T_127) rfl rfl ?_
      conv => whnf
      refine brI (fun z => ?_) (fun z => ?_)
      all_goals first | (exfalso; omega) | skip
      conv => whnf
      have e : y = ys.toNat := by omega
      subst e
      exact ⟨trivial, h J hF hX⟩
    | succ r ih =>
      intro y x J hy' hF hX
      have ei : iad (y : Int) 1 = ((y + 1 : Nat) : Int) := by rw [iad_e (by omega)]; rfl
      have b1 := ysF_bd (ln := ln) hO (seed := seed) hm.1 ho y
      have b2 := ysL_bd (ln := ln) (z := (ysF ln L m one seed y).1) hO hm.1 ho
      refine Ev.go [22] (T := T_127) rfl rfl ?_
      conv => whnf
      refine brI (fun z => ?_) (fun z => ?_)
      all_goals first | (exfalso; omega) | skip
      conv => whnf
      refine ⟨by omega, x117T (by omega) hX (fun J1 hF1 hT1 => ?_)⟩
      conv => whnf
      refine ⟨trivial, inner (yrN L m) 0 (ysF ln L m one seed y).1 (ysF ln L m one seed y).2 (y : Int) J1 Q (Nat.zero_add _) (hF.tr (hF1.sub (by decide))) (by rw [show tDr L + ((0 : Nat) : Int) = tDr L by omega]; exact hT1) (fun k J2 hF2 hX2 h19 => ?_)⟩
      have nx : ∀ V, V = ysL ln L (ysF ln L m one seed y).1 m one → Ev d 127 9 [some (rf 16), some (nt seed), some (nt ys), some (nt m), some (nt one), some (nt (yrI L (ysF ln L m one seed y).1 (yrN L m)).2), some (nt (iad (ysF ln L m one seed y).2 V)), some (nt (iad (y : Int) 1)), some (nt k)] [] J2 Q := fun V hV => by
        rw [hV, ei, iad_e (by omega)]
        exact ih (y + 1) _ J2 (by omega) hF2 hX2
      refine Ev.go [9] (T := T_127) rfl rfl ?_
      conv => whnf
      refine brI (fun z1 => ?_) (fun z1 => ?_) <;> conv => whnf
      · refine ⟨by omega, x119 (fun p hp => by rw [h19 p hp]; exact yrP_bd hO hm.1 hp) ?_⟩
        conv => whnf
        refine ⟨trivial, nx _ ?_⟩
        unfold ysL
        rw [if_pos z1]
        exact smF_cg (fun p hp => h19 _ (by omega))
      · have hk := ho.resolve_left z1
        refine ⟨by omega, x118 hk ?_ (by omega)⟩
        conv => whnf
        refine ⟨trivial, nx _ ?_⟩
        unfold ysL
        rw [if_neg z1]
        exact h19 one hk
  refine EvM.go [9] (T := T_127) rfl rfl rfl rfl ?_
  conv => whnf
  exact ⟨trivial, outer ys.toNat 0 none I (Nat.zero_add _) Fr.rfl' hC⟩
