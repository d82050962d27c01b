/-! YEARS by draws: the model; both alike -/
theorem zF.mF {I J : ME} (h : zF I J) : mF I J := ⟨fun j hj => h.1 j (by omega), h.2.sub (by decide)⟩
theorem TSm.z {ln : lz_L} {L : LT} {I J : ME} {s d : Int} {P : Int → Int × Int} (h : TSm ln L I s d P) (hz : zF I J) : TSm ln L J s d P := by
  obtain ⟨a, b, c, e⟩ := h
  exact ⟨a.mf hz.mF, by rw [hz.1 20 (by decide)]; exact b, by rw [hz.1 21 (by decide)]; exact c, fun p q => by rw [hz.2 62 (by decide), hz.2 63 (by decide)]; exact e p q⟩
noncomputable def F25 (seed nm one : Int) (ln : lz_L) (L : LT) : Int := if 0 ≤ nm ∧ 1 ≤ nm / 100 ∧ nm / 100 ≤ 20 ∧ 1 ≤ nm % 100 ∧ nm % 100 ≤ 12 ∧ pH one then (ysF ln L (nm % 100) one seed (nm / 100).toNat).2 else -2000000000
theorem smF_pick {f : Int → Int} {p : Int} (hp : pP p) : smF (fun q => if p < 0 ∨ p = (q : Int) then f (q : Int) else 0) 6 = f p := by
  have h : p = 0 ∨ p = 1 ∨ p = 2 ∨ p = 3 ∨ p = 4 ∨ p = 5 := by omega
  rcases h with rfl | rfl | rfl | rfl | rfl | rfl <;> simp [smF]
theorem m266_loop {d : Nat} {ln : lz_L} {L : LT} {seed nm one : Int} {I : ME} {Q : Option MV → ME → Prop} (hd : 66 ≤ d) (hC : MX ln L I) (hnm : 0 ≤ nm ∧ nm ≤ 2147483647) (hy : 1 ≤ nm / 100 ∧ nm / 100 ≤ 20) (hm : 1 ≤ nm % 100 ∧ nm % 100 ≤ 12) (ho : pH one) (hz : I 53 31 = seed)
    (h : ∀ J, mF I J → Q (some (nt (ysF ln L (nm % 100) one seed (nm / 100).toNat).2)) J) : Ev d 266 61 [some (rf 53), some (nt seed), some (nt nm), some (nt one), some (nt 0), some (nt 0), none] [] I Q := by
  have hO := hC.1
  have gg := hO.f
  have hpI := pI_bd (tIn L)
  have hm0 : 0 ≤ nm % 100 := by omega
  have hnb := yrN_b (L := L) hm0
  have hid : idv nm 100 = nm / 100 := idv_q hnm.1 hnm.2 (by omega)
  have him : irm nm 100 = nm % 100 := irm_q hnm.1 hnm.2 (by omega)
  generalize hmm : nm % 100 = m at *
  generalize hyy : nm / 100 = ys at *
  have sumL : ∀ (r k : Nat) (z0 all yr : Int) (J : ME) (Q' : Option MV → ME → Prop), k + r = 6 → -200000 ≤ all ∧ all ≤ 200000 → (∀ p, pP p → J 63 p = (yrP ln L z0 m p).2) →
      Ev d 266 151 [some (rf 53), some (nt seed), some (nt nm), some (nt one), some (nt (all + smF (fun q => if one < 0 ∨ one = (q : Int) then (yrP ln L z0 m (q : Int)).2 else 0) 6)), some (nt yr), some (nt ((6 : Nat) : Int))] [] J Q' →
      Ev d 266 112 [some (rf 53), some (nt seed), some (nt nm), some (nt one), some (nt (all + smF (fun q => if one < 0 ∨ one = (q : Int) then (yrP ln L z0 m (q : Int)).2 else 0) k)), some (nt yr), some (nt (k : Int))] [] J Q' := by
    intro r
    induction r with
    | zero =>
      intro k z0 all yr J Q' hk ha h63 hn
      refine Ev.go [151] (T := T_266) rfl rfl ?_
      conv => whnf
      refine brI (fun z => ?_) (fun z => ?_)
      all_goals first | (exfalso; omega) | skip
      conv => whnf
      have e : k = 6 := by omega
      subst e
      exact ⟨trivial, hn⟩
    | succ r ih =>
      intro k z0 all yr J Q' hk ha h63 hn
      have hp : pP (k : Int) := by omega
      have ei : iad (k : Int) 1 = ((k + 1 : Nat) : Int) := by rw [iad_e (by omega)]; rfl
      have hb1 := yrP_bd (ln := ln) (z := z0) hO hm0 hp
      have hb6 := smF_6 (f := fun q => if one < 0 ∨ one = (q : Int) then (yrP ln L z0 m (q : Int)).2 else 0) (b := 1188) (by omega) (fun p hp => by
        have := yrP_bd (ln := ln) (z := z0) hO hm0 (p := (p : Int)) (by omega)
        show -1188 ≤ (if one < 0 ∨ one = (p : Int) then (yrP ln L z0 m (p : Int)).2 else 0) ∧ (if one < 0 ∨ one = (p : Int) then (yrP ln L z0 m (p : Int)).2 else 0) ≤ 1188
        split <;> omega) k (by omega)
      have yes : one < 0 ∨ one = (k : Int) → Ev d 266 112 [some (rf 53), some (nt seed), some (nt nm), some (nt one), some (nt (iad (all + smF (fun q => if one < 0 ∨ one = (q : Int) then (yrP ln L z0 m (q : Int)).2 else 0) k) (J 63 (k : Int)))), some (nt yr), some (nt (iad (k : Int) 1))] [] J Q' := fun hc => by
        rw [h63 _ hp, ei, iad_e (by omega)]
        refine Ev.to ?_ rfl (ih (k + 1) z0 all yr J Q' (by omega) ha h63 hn)
        show [some (rf 53), some (nt seed), some (nt nm), some (nt one), some (nt _), some (nt yr), some (nt _)] = [some (rf 53), some (nt seed), some (nt nm), some (nt one), some (nt (all + (smF _ k + (if one < 0 ∨ one = (k : Int) then (yrP ln L z0 m (k : Int)).2 else 0)))), some (nt yr), some (nt _)]
        rw [if_pos hc, Int.add_assoc]
      have no : ¬ (one < 0 ∨ one = (k : Int)) → Ev d 266 112 [some (rf 53), some (nt seed), some (nt nm), some (nt one), some (nt (iad (all + smF (fun q => if one < 0 ∨ one = (q : Int) then (yrP ln L z0 m (q : Int)).2 else 0) k) 0)), some (nt yr), some (nt (iad (k : Int) 1))] [] J Q' := fun hc => by
        rw [ei, iad_e (by omega)]
        refine Ev.to ?_ rfl (ih (k + 1) z0 all yr J Q' (by omega) ha h63 hn)
        show [some (rf 53), some (nt seed), some (nt nm), some (nt one), some (nt _), some (nt yr), some (nt _)] = [some (rf 53), some (nt seed), some (nt nm), some (nt one), some (nt (all + (smF _ k + (if one < 0 ∨ one = (k : Int) then (yrP ln L z0 m (k : Int)).2 else 0)))), some (nt yr), some (nt _)]
        rw [if_neg hc, Int.add_zero, Int.add_zero]
      refine Ev.go [112] (T := T_266) rfl rfl ?_
      conv => whnf
      refine brI (fun z => ?_) (fun z => ?_)
      all_goals first | (exfalso; omega) | skip
      conv => whnf
      refine brI (fun z1 => ?_) (fun z1 => ?_) <;> conv => whnf
      · refine anI (by omega) ?_
        conv => whnf
        exact ⟨trivial, yes (Or.inl z1)⟩
      · refine brI (fun z2 => ?_) (fun z2 => ?_) <;> conv => whnf
        · refine anI (by omega) ?_
          conv => whnf
          exact ⟨trivial, yes (Or.inr z2)⟩
        · exact ⟨trivial, no (fun w => w.elim z1 z2)⟩
  have inner : ∀ (r i : Nat) (z0 all yr : Int) (J : ME) (Q' : Option MV → ME → Prop), i + r = yrN L m → mF I J → J 53 31 = (yrI L z0 i).2 → TSm ln L J (sqI L (yrG L z0) i) (tDr L + (i : Int)) (sqP ln L (yrG L z0) i) →
      (∀ (k : Int) (J : ME), mF I J → J 53 31 = (yrI L z0 (yrN L m)).2 → (∀ p, pP p → J 63 p = (yrP ln L z0 m p).2) → Ev d 266 109 [some (rf 53), some (nt seed), some (nt nm), some (nt one), some (nt all), some (nt yr), some (nt k)] [] J Q') →
      Ev d 266 77 [some (rf 53), some (nt seed), some (nt nm), some (nt one), some (nt all), some (nt yr), some (nt (i : Int))] [] J Q' := by
    intro r
    induction r with
    | zero =>
      intro i z0 all yr J Q' hi hF hz31 hT hn
      have e : i = yrN L m := by omega
      have hle : (i : Int) ≤ pI (tIn L) := by rw [e, hnb]; split <;> omega
      have hup := yr_up hO (z := z0) i hle
      have hfin := fun k => hn k J hF (by rw [← e]; exact hz31) (fun p q => by have := hT.2.2.2 p q; unfold yrP; rw [← e, ← this])
      refine Ev.go [109] (T := T_266) rfl rfl ?_
      conv => whnf
      refine nzI (by omega) ?_
      conv => whnf
      rw [him]
      refine brI (fun z => ?_) (fun z => ?_) <;> conv => whnf
      · rw [hT.2.1]
        refine brI (fun z2 => ?_) (fun z2 => ?_) <;> conv => whnf
        · exact ⟨trivial, hfin _⟩
        · exfalso
          have h2 := hup.2
          have : pI (sqI L (yrG L z0) i) = 0 := by
            rw [e, hnb] at z
            rw [e, hnb] at h2
            rw [e]
            split at z <;> split at h2 <;> omega
          exact z2 ((pI_nz hup.1.1.1 hup.1.1.2).mpr this)
      · exact ⟨trivial, hfin _⟩
    | succ r ih =>
      intro i z0 all yr J Q' hi hF hz31 hT hn
      have hlt : (i : Int) < pI (tIn L) ∧ (i : Int) < m := by
        have : (i : Int) < (yrN L m : Int) := by omega
        rw [hnb] at this
        split at this <;> omega
      have hup := yr_up hO (z := z0) i (by omega)
      have hok := yr_t hO (z := z0) hlt.1
      have hb := yr_bd (ln := ln) hO (z := z0) (i := i) (by omega)
      have h2 := hup.2
      have hpp : 0 < pI (sqI L (yrG L z0) i) := by omega
      have hne : sqI L (yrG L z0) i ≠ 0 := fun w => by rw [w, pI_0] at hpp; omega
      have ei : iad (i : Int) 1 = ((i + 1 : Nat) : Int) := by rw [iad_e (by omega)]; rfl
      have eg : yrG L z0 (i : Int) = pkF (sqI L (yrG L z0) i) (nxz (yrI L z0 i).2) := by rw [yr_sq]; rfl
      refine Ev.go [77, 109] (T := T_266) rfl rfl ?_
      conv => whnf
      refine nzI (by omega) ?_
      conv => whnf
      rw [him]
      refine brI (fun z => ?_) (fun z => ?_)
      all_goals first | (exfalso; omega) | skip
      conv => whnf
      rw [hT.2.1]
      refine brI (fun z2 => absurd z2 hne) (fun z2 => ?_)
      conv => whnf
      refine ⟨by omega, m265 (by omega) hT.2.1 hup.1.1.1 hup.1.1.2 hpp (fun J1 hF1 hz1 => ?_)⟩
      rw [hz31, ← eg]
      rw [hz31] at hz1
      conv => whnf
      refine ⟨by omega, m260 (by omega) (hT.z hF1) hup.1 hb (by omega) (by omega) (fun _ J2 hF2 hT2 => ?_) (fun w => absurd hok w)⟩
      conv => whnf
      rw [ei]
      refine ⟨trivial, ih (i + 1) z0 all yr J2 Q' (by omega) ((hF.tr hF1.mF).tr hF2.mF) ?_ ?_ hn⟩
      · rw [hF2.1 31 (by omega), hz1]; rfl
      · rw [show tDr L + ((i + 1 : Nat) : Int) = tDr L + (i : Int) + 1 by omega]
        exact hT2
  have outer : ∀ (r y : Nat) (x : Option MV) (J : ME), y + r = ys.toNat → mF I J → J 53 31 = (ysF ln L m one seed y).1 → Ev d 266 61 [some (rf 53), some (nt seed), some (nt nm), some (nt one), some (nt (ysF ln L m one seed y).2), some (nt (y : Int)), x] [] J Q := by
    intro r
    induction r with
    | zero =>
      intro y x J hy' hF hz31
      refine Ev.go [] (T := T_266) rfl rfl ?_
      conv => whnf
      refine nzI (by omega) ?_
      conv => whnf
      rw [hid]
      refine brI (fun z => ?_) (fun z => ?_)
      all_goals first | (exfalso; omega) | skip
      conv => whnf
      have e : y = ys.toNat := by omega
      subst e
      exact ⟨trivial, h J hF⟩
    | succ r ih =>
      intro y x J hy' hF hz31
      have hX := hC.mf hF
      have ei : iad (y : Int) 1 = ((y + 1 : Nat) : Int) := by rw [iad_e (by omega)]; rfl
      have b1 := ysF_bd (ln := ln) hO (seed := seed) hm0 ho y
      refine Ev.go [77] (T := T_266) rfl rfl ?_
      conv => whnf
      refine nzI (by omega) ?_
      conv => whnf
      rw [hid]
      refine brI (fun z => ?_) (fun z => ?_)
      all_goals first | (exfalso; omega) | skip
      conv => whnf
      refine ⟨by omega, m222T hX (fun J1 hF1 hT1 => ?_)⟩
      conv => whnf
      refine ⟨trivial, inner (yrN L m) 0 (ysF ln L m one seed y).1 (ysF ln L m one seed y).2 (y : Int) J1 Q (Nat.zero_add _) (hF.tr hF1.mF) (by rw [hF1.1 31 (by omega)]; exact hz31) (by rw [show tDr L + ((0 : Nat) : Int) = tDr L by omega]; exact hT1) (fun k J2 hF2 hz2 h63 => ?_)⟩
      refine Ev.go [112] (T := T_266) rfl rfl ?_
      conv => whnf
      refine ⟨trivial, Ev.to ?_ rfl (sumL 6 0 (ysF ln L m one seed y).1 (ysF ln L m one seed y).2 (y : Int) J2 Q rfl (by omega) h63 ?_)⟩
      · show _ = [some (rf 53), some (nt seed), some (nt nm), some (nt one), some (nt ((ysF ln L m one seed y).2 + 0)), some (nt (y : Int)), some (nt ((0 : Nat) : Int))]
        rw [Int.add_zero]
        rfl
      · refine Ev.go [61] (T := T_266) rfl rfl ?_
        conv => whnf
        rw [ei]
        have e2 : smF (fun q => if one < 0 ∨ one = (q : Int) then (yrP ln L (ysF ln L m one seed y).1 m (q : Int)).2 else 0) 6 = ysL ln L (ysF ln L m one seed y).1 m one := by
          unfold ysL
          by_cases w : one = -1
          · rw [if_pos w]
            exact smF_cg (fun q hq => if_pos (Or.inl (by omega)))
          · rw [if_neg w]
            exact smF_pick (f := fun p => (yrP ln L (ysF ln L m one seed y).1 m p).2) (ho.resolve_left w)
        rw [e2]
        exact ⟨trivial, ih (y + 1) _ J2 (by omega) hF2 hz2⟩
  exact outer ys.toNat 0 none I (Nat.zero_add _) mF.rfl' hz
theorem idv_neg {a : Int} (h : -2147483648 ≤ a) (h2 : a < 0) : idv a 100 ≤ 0 := by
  by_cases e : a = -2147483648
  · rw [e]; decide
  · rw [idv_n h2 (by omega) ⟨by omega, by omega⟩]
    have := Int.ediv_nonneg (show 0 ≤ -a by omega) (show (0 : Int) ≤ 100 by omega)
    omega
theorem op25 {seed nm one : Int} (hnm : -2147483648 ≤ nm ∧ nm ≤ 2147483647) : Op3 155 266 [nt seed, nt nm, nt one] nt := by
  refine Op3.mk (F := F25 seed nm one) (fun ln L I Q hX h27 h => ?_) (fun ln L I Q hM h => ?_)
  · have hO := hX.2.1
    have no : (¬ (0 ≤ nm ∧ 1 ≤ nm / 100 ∧ nm / 100 ≤ 20 ∧ 1 ≤ nm % 100 ∧ nm % 100 ≤ 12 ∧ pH one)) → Q (some (nt (-2000000000))) I := fun hn => by
      have := h I Fr.rfl' hX h27
      unfold F25 at this
      rw [if_neg hn] at this
      exact this
    refine EvM.go [] (T := T_155) rfl rfl rfl rfl ?_
    conv => whnf
    refine nzI (by omega) ?_
    conv => whnf
    refine nzI (by omega) ?_
    conv => whnf
    by_cases hn : nm < 0
    · have := idv_neg hnm.1 hn
      refine brI (fun z => ?_) (fun z => ?_)
      all_goals first | (exfalso; omega) | skip
      conv => whnf
      exact ⟨trivial, no (fun r => by omega)⟩
    · rw [idv_q (by omega) (by omega) (by omega), irm_q (by omega) (by omega) (by omega)]
      refine brI (fun z => ?_) (fun z => ?_) <;> conv => whnf
      · exact ⟨trivial, no (fun r => by omega)⟩
      · refine brI (fun z1 => ?_) (fun z1 => ?_) <;> conv => whnf
        · exact ⟨trivial, no (fun r => by omega)⟩
        · refine brI (fun z2 => ?_) (fun z2 => ?_) <;> conv => whnf
          · exact ⟨trivial, no (fun r => by omega)⟩
          · refine brI (fun z3 => ?_) (fun z3 => ?_) <;> conv => whnf
            · exact ⟨trivial, no (fun r => by omega)⟩
            · refine ⟨by omega, x176 (by omega) (fun z4 => ?_) (fun z4 => ?_)⟩ <;> conv => whnf
              · refine ⟨by omega, x127 (by omega) hX (by omega) (by omega) z4 (fun J hF hX2 => ?_)⟩
                conv => whnf
                have := h J (hF.sub (by decide)) hX2 (by rw [hF 27 (by decide)]; exact h27)
                unfold F25 at this
                rw [if_pos ⟨by omega, by omega, by omega, by omega, by omega, z4⟩] at this
                exact ⟨trivial, this⟩
              · exact ⟨trivial, no (fun r => z4 r.2.2.2.2.2)⟩
  · have hO := hM.1
    have no : (¬ (0 ≤ nm ∧ 1 ≤ nm / 100 ∧ nm / 100 ≤ 20 ∧ 1 ≤ nm % 100 ∧ nm % 100 ≤ 12 ∧ pH one)) → Q (some (nt (-2000000000))) I := fun hn => by
      have := h I mF.rfl'
      unfold F25 at this
      rw [if_neg hn] at this
      exact this
    have mid : 0 ≤ nm → (1 ≤ nm / 100 ∧ nm / 100 ≤ 20) → (1 ≤ nm % 100 ∧ nm % 100 ≤ 12) → pH one → Ev 799 266 50 [some (rf 53), some (nt seed), some (nt nm), some (nt one), none, none, none] [] I Q := fun h0 hy hm ho => by
      refine Ev.go [61] (T := T_266) rfl rfl ?_
      conv => whnf
      have hz : zF I (upd_ I 53 31 seed) := ⟨fun j hj => up_ne hj, fr_up Fr.rfl' (by decide)⟩
      refine ⟨trivial, m266_loop (by omega) (hM.mf hz.mF) ⟨h0, hnm.2⟩ hy hm ho (by rw [up_eq]) (fun J hF => ?_)⟩
      have := h J (hz.mF.tr hF)
      unfold F25 at this
      rw [if_pos ⟨h0, hy.1, hy.2, hm.1, hm.2, ho⟩] at this
      exact this
    refine EvM.go [50] (T := T_266) rfl rfl rfl rfl ?_
    conv => whnf
    refine brI (fun z => ?_) (fun z => ?_) <;> conv => whnf
    · exact ⟨trivial, no (fun r => by omega)⟩
    · refine nzI (by omega) ?_
      conv => whnf
      rw [idv_q (by omega) (by omega) (by omega)]
      refine ⟨by omega, m187 (fun z1 => ?_) (fun z1 => ?_)⟩ <;> conv => whnf
      · refine nzI (by omega) ?_
        conv => whnf
        rw [irm_q (by omega) (by omega) (by omega)]
        refine ⟨by omega, m187 (fun z2 => ?_) (fun z2 => ?_)⟩ <;> conv => whnf
        · refine brI (fun z3 => ?_) (fun z3 => ?_) <;> conv => whnf
          · exact ⟨trivial, mid (by omega) z1 z2 (Or.inl z3)⟩
          · refine ⟨by omega, m195 (by omega) (fun z4 => ?_) (fun z4 => ?_)⟩ <;> conv => whnf
            · exact ⟨trivial, mid (by omega) z1 z2 (Or.inr z4)⟩
            · exact ⟨trivial, no (fun r => r.2.2.2.2.2.elim z3 z4)⟩
        · exact ⟨trivial, no (fun r => z2 ⟨r.2.2.2.1, r.2.2.2.2.1⟩)⟩
      · exact ⟨trivial, no (fun r => z1 ⟨r.2.1, r.2.2.1⟩)⟩
