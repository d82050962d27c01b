/-! MEANS: one ticket more among those drawn -/
theorem iro_st {s b q : Int} (hq : 0 ≤ q ∧ q ≤ 8) (h0 : 0 ≤ s) (h1 : s < 2 ^ q.toNat) (hb : b = 0 ∨ ∃ e, b = isl 1 e ∧ 0 ≤ e ∧ e < q) : 0 ≤ iro s b ∧ iro s b < 2 ^ q.toNat := by
  have hs := st_bd hq
  rcases hb with rfl | ⟨e, rfl, e0, e1⟩
  · rw [iro_z h0 (by omega)]; omega
  · have i8 := iro_8 (s := s) (t := e) ⟨h0, by omega⟩ ⟨e0, by omega⟩
    refine ⟨i8.1.1, ?_⟩
    refine set_lt i8.1.1 (by omega) hq.1 (by omega) (fun u u0 u1 => ?_)
    rw [i8.2 u (by omega) (by omega)]
    have : ¬ hasb s u := by
      rw [hb_iff h0 (by omega) (by omega) (by omega), Nat.testBit_lt_two_pow]
      · simp
      · have e2 : ((2 ^ q.toNat : Nat) : Int) = 2 ^ q.toNat := by rw [Int.natCast_pow]; rfl
        exact Nat.lt_of_lt_of_le (show s.toNat < 2 ^ q.toNat by omega) (Nat.pow_le_pow_right (by decide) (by omega))
    omega
theorem bit_ok {L : LT} {k i : Int} {B e : gF} {q : Int} (hL : LTok L) (hB : BOK L k B e q) (h0 : 0 ≤ i) (h1 : i < tSz L) (hin : hasb (tIn L) i) : bitL L k B i = 0 ∨ ∃ e', bitL L k B i = isl 1 e' ∧ 0 ≤ e' ∧ e' < q := by
  have g := hL.f
  unfold bitL
  by_cases h : thr L k i
  · rw [if_pos h]
    have := hB.2.1 _ (hL.t h0 (by omega)).1 (hB.2.2.2 i h0 h1 hin h)
    exact Or.inr ⟨_, this.1, this.2.1, this.2.2.1⟩
  · rw [if_neg h]; exact Or.inl rfl
theorem x65 {d : Nat} {ln : lz_L} {L : LT} {one j : Int} {i : Nat} {B e : gF} {q : Int} {I : ME} {Q : Option MV → ME → Prop} (hd : 5 ≤ d) (hC : CX ln L I) (hk : pP one) (hi : i < (tSz L).toNat) (hin : hasb (tIn L) (i : Int)) (hj : 0 ≤ j ∧ j ≤ 11)
    (hB : BOK L one B e q) (h23 : I 23 = B) (h5 : I 20 5 = 2 ^ q.toNat) (h6 : I 20 6 = hlL L one)
    (hR : ∀ s, 0 ≤ s → s < 2 ^ q.toNat → (I 21 (j * 2 ^ q.toNat + s) = gU L one B (fun _ => 1) i j s ∧ I 22 (j * 2 ^ q.toNat + s) = gU L one B (lsN ln L one) i j s) ∧ (I 21 ((j + 1) * 2 ^ q.toNat + s) = gU L one B (fun _ => 1) i (j + 1) s ∧ I 22 ((j + 1) * 2 ^ q.toNat + s) = gU L one B (lsN ln L one) i (j + 1) s))
    (h : ∀ J, Fr [11, 12, 13, 21, 22] I J → CX ln L J → (∀ s, 0 ≤ s → s < 2 ^ q.toNat → J 21 ((j + 1) * 2 ^ q.toNat + s) = gU L one B (fun _ => 1) (i + 1) (j + 1) s ∧ J 22 ((j + 1) * 2 ^ q.toNat + s) = gU L one B (lsN ln L one) (i + 1) (j + 1) s) → (∀ p, p < (j + 1) * 2 ^ q.toNat ∨ (j + 1) * 2 ^ q.toNat + 2 ^ q.toNat ≤ p → J 21 p = I 21 p ∧ J 22 p = I 22 p) → Q none J) :
    EvM d 65 [rf 20, nt one, nt (i : Int), nt j] I Q := by
  have hO := hC.2.1
  have g := hO.f
  have hq := hB.1
  have hs := st_bd hq
  have f := hC.f
  have hT := (hO.t (t := (i : Int)) (by omega) (by omega)).1
  have hbit := bit_ok hO hB (by omega) (by omega) hin
  have hi12 : i ≤ 12 := by omega
  have hi0 : (i : Int) < tSz L := by omega
  generalize hst : (2 : Int) ^ q.toNat = st at *
  have eb : (j + 1) * st = j * st + st := by rw [Int.add_mul, Int.one_mul]
  have ba : 0 ≤ j * st ∧ j * st ≤ 2816 := by
    refine ⟨Int.mul_nonneg (by omega) (by omega), ?_⟩
    have := Int.mul_le_mul (a := j) (b := st) (c := 11) (d := 256) (by omega) (by omega) (by omega) (by omega)
    omega
  have lo8 := pI_8 (hO.lo hk)
  have hl12 := hlL_bd hO one
  -- the walk over the states
  have loop : ∀ (r s : Nat) (x y w : Option MV) (J : ME), (s : Int) + r = st → Fr [11, 12, 13, 21, 22] I J → CX ln L J →
      (∀ t, 0 ≤ t → t < st → J 21 ((j + 1) * st + t) = gU L one B (fun _ => 1) i (j + 1) t + gP L one B (fun _ => 1) i j s t ∧ J 22 ((j + 1) * st + t) = gU L one B (lsN ln L one) i (j + 1) t + gP L one B (fun D => lsN ln L one (2 ^ i + D)) i j s t) →
      (∀ p, p < (j + 1) * st ∨ (j + 1) * st + st ≤ p → J 21 p = I 21 p ∧ J 22 p = I 22 p) →
      Ev d 65 51 [some (rf 20), some (nt one), some (nt (i : Int)), some (nt j), some (nt (tTh L (i : Int))), some (nt (bitL L one B (i : Int))), some (nt (pI (tLo L one))), some (nt (s : Int)), x, y, w] [] J Q := by
    intro r
    induction r with
    | zero =>
      intro s x y w J hr hF hX hN hP
      have j5 : J 20 5 = st := by rw [hF 20 (by decide)]; exact h5
      refine Ev.go [] (T := T_65) rfl rfl ?_
      conv => whnf
      rw [j5]
      refine brI (fun z => ?_) (fun z => ?_)
      all_goals first | (exfalso; omega) | skip
      conv => whnf
      refine ⟨trivial, h J hF hX (fun t t0 t1 => ?_) hP⟩
      have := hN t t0 t1
      rw [gU_top hO hk hB hi, gU_top hO hk hB hi, if_pos hin, if_pos hin, show j + 1 - 1 = j by omega, hst]
      rw [show (s : Int) = st by omega] at this
      exact this
    | succ r ih =>
      intro s x y w J hr hF hX hN hP
      have fj := hX.f
      have j5 : J 20 5 = st := by rw [hF 20 (by decide)]; exact h5
      have j6 : J 20 6 = hlL L one := by rw [hF 20 (by decide)]; exact h6
      have ei : iad (s : Int) 1 = ((s + 1 : Nat) : Int) := by rw [iad_e (by omega)]; rfl
      have hto := iro_st (q := q) (s := (s : Int)) hq (by omega) (by rw [hst]; omega) hbit
      rw [hst] at hto
      have hrow := hR (s : Int) (by omega) (by omega)
      have jrow := hP (j * st + (s : Int)) (Or.inl (by omega))
      have hto2 := hN _ hto.1 hto.2
      -- bounds
      have b1 := gU_bd (L := L) (k := one) (B := B) (f := fun _ => 1) (b := 1) (i := i) hi12 (by omega) (fun D hD => by show -1 ≤ (1 : Int) ∧ (1 : Int) ≤ 1; omega) j (s : Int)
      have b2 := gU_bd (L := L) (k := one) (B := B) (f := lsN ln L one) (b := 1188) (i := i) hi12 (by omega) (fun D hD => lsN_bd hO hk D) j (s : Int)
      have b3 := gU_bd (L := L) (k := one) (B := B) (f := fun _ => 1) (b := 1) (i := i) hi12 (by omega) (fun D hD => by show -1 ≤ (1 : Int) ∧ (1 : Int) ≤ 1; omega) (j + 1) (iro (s : Int) (bitL L one B (i : Int)))
      have b4 := gU_bd (L := L) (k := one) (B := B) (f := lsN ln L one) (b := 1188) (i := i) hi12 (by omega) (fun D hD => lsN_bd hO hk D) (j + 1) (iro (s : Int) (bitL L one B (i : Int)))
      have b5 := gP_bd (L := L) (k := one) (B := B) (f := fun _ => 1) (b := 1) (i := i) hi12 (by omega) (fun D hD => by show -1 ≤ (1 : Int) ∧ (1 : Int) ≤ 1; omega) j (s : Int) (iro (s : Int) (bitL L one B (i : Int)))
      have b6 := gP_bd (L := L) (k := one) (B := B) (f := fun D => lsN ln L one (2 ^ i + D)) (b := 1188) (i := i) hi12 (by omega) (fun D hD => lsN_bd hO hk _) j (s : Int) (iro (s : Int) (bitL L one B (i : Int)))
      refine Ev.go [51, 160] (T := T_65) rfl rfl ?_
      conv => whnf
      rw [j5]
      refine brI (fun z => ?_) (fun z => ?_)
      all_goals first | (exfalso; omega) | skip
      conv => whnf
      rw [j5, iml_e (by omega), iad_e (a := j * st) (by omega), iad_e (a := j) (by omega), iml_e (by omega), iad_e (a := (j + 1) * st) (by omega)]
      refine anI (by omega) ?_
      conv => whnf
      rw [jrow.1, hrow.1.1]
      -- the next state from new tables
      have next : ∀ (x y w : Option MV) (K : ME), Fr [11, 12, 13, 21, 22] I K → CX ln L K →
          (∀ t, t ≠ iro (s : Int) (bitL L one B (i : Int)) → K 21 ((j + 1) * st + t) = J 21 ((j + 1) * st + t) ∧ K 22 ((j + 1) * st + t) = J 22 ((j + 1) * st + t)) →
          K 21 ((j + 1) * st + iro (s : Int) (bitL L one B (i : Int))) = J 21 ((j + 1) * st + iro (s : Int) (bitL L one B (i : Int))) + gU L one B (fun _ => 1) i j (s : Int) →
          K 22 ((j + 1) * st + iro (s : Int) (bitL L one B (i : Int))) = J 22 ((j + 1) * st + iro (s : Int) (bitL L one B (i : Int))) + gU L one B (fun D => lsN ln L one (2 ^ i + D)) i j (s : Int) →
          (∀ p, p < (j + 1) * st ∨ (j + 1) * st + st ≤ p → K 21 p = J 21 p ∧ K 22 p = J 22 p) →
          Ev d 65 51 [some (rf 20), some (nt one), some (nt (i : Int)), some (nt j), some (nt (tTh L (i : Int))), some (nt (bitL L one B (i : Int))), some (nt (pI (tLo L one))), some (nt (iad (s : Int) 1)), x, y, w] [] K Q := by
        intro x y w K hF2 hX2 k1 k2 k3 k4
        rw [ei]
        refine ih (s + 1) x y w K (by omega) hF2 hX2 (fun t t0 t1 => ?_) (fun p hp => ⟨(k4 p hp).1.trans (hP p hp).1, (k4 p hp).2.trans (hP p hp).2⟩)
        rw [show ((s + 1 : Nat) : Int) = (s : Int) + 1 from rfl, gP_s, gP_s]
        have hNt := hN t t0 t1
        by_cases w : t = iro (s : Int) (bitL L one B (i : Int))
        · rw [if_pos w.symm, if_pos w.symm]
          rw [w] at hNt ⊢
          rw [k2, k3, hNt.1, hNt.2]
          exact ⟨Int.add_assoc _ _ _, Int.add_assoc _ _ _⟩
        · rw [if_neg (fun z => w z.symm), if_neg (fun z => w z.symm), Int.add_zero, Int.add_zero, (k1 t w).1, (k1 t w).2]
          exact hNt
      refine brI (fun z1 => ?_) (fun z1 => ?_) <;> conv => whnf
      · refine ⟨trivial, next _ _ _ J hF hX (fun t _ => ⟨rfl, rfl⟩) ?_ ?_ (fun p _ => ⟨rfl, rfl⟩)⟩
        · rw [z1, Int.add_zero]
        · rw [gU_z z1, Int.add_zero]
      · obtain ⟨D, hD, hPd⟩ := gU_ex z1
        have hsg := sg_in (ln := ln) (h := hlL L one) hO hk hB (Nat.le_of_lt hi) hD hPd.1
        rw [hPd.2.2] at hsg
        have hmk := pI_8 hsg.2.2.2.2
        have hps := pI_8 hsg.2.2.1.1
        have hjd : j ≤ pI (tIn L) := by
          rw [← hPd.2.1]
          have hp12 := p12 (i := i) hi12
          have ha := hPd.1
          rw [areIn_iff (by omega) (by omega) g.2.1.1 g.2.1.2] at ha
          exact pI_mono (by omega) (by omega) g.2.1.1 g.2.1.2 ha
        -- from 160 on: both tables take what lies there
        have tail : ∀ (K : ME) (w : Option MV) (V : Int), Fr [11, 12, 13, 21, 22] I K → CX ln L K → K 21 = J 21 → K 22 = upd_ J 22 ((j + 1) * st + iro (s : Int) (bitL L one B (i : Int))) V 22 → -2000000000 ≤ V ∧ V ≤ 2000000000 → V + gU L one B (lsN ln L one) i j (s : Int) = J 22 ((j + 1) * st + iro (s : Int) (bitL L one B (i : Int))) + gU L one B (fun D => lsN ln L one (2 ^ i + D)) i j (s : Int) →
            Ev d 65 160 [some (rf 20), some (nt one), some (nt (i : Int)), some (nt j), some (nt (tTh L (i : Int))), some (nt (bitL L one B (i : Int))), some (nt (pI (tLo L one))), some (nt (s : Int)), some (nt (j * st + (s : Int))), some (nt ((j + 1) * st + iro (s : Int) (bitL L one B (i : Int)))), w] [] K Q := by
          intro K w V hF2 hX2 e21 e22 hV hVe
          refine Ev.go [51] (T := T_65) rfl rfl ?_
          conv => whnf
          refine anI (by omega) ?_
          conv => whnf
          refine anI (by omega) ?_
          conv => whnf
          refine anI (by omega) ?_
          conv => whnf
          refine anI (by omega) ?_
          conv => whnf
          refine anI (by omega) ?_
          conv => whnf
          refine anI (by omega) ?_
          conv => whnf
          rw [e21, jrow.1, hrow.1.1]
          have eK : ∀ c v : Int, upd_ K 21 c v 22 = K 22 := fun c v => up_c (by decide)
          rw [eK, e22, up_eq, up_ne (show j * st + (s : Int) ≠ (j + 1) * st + iro (s : Int) (bitL L one B (i : Int)) by omega), jrow.2, hrow.1.2]
          rw [hto2.1]
          refine ⟨trivial, next _ _ _ _ (fr_up (fr_up hF2 (by decide)) (by decide)) (hX2.fr (fun c hc => by rw [up_c (by omega), up_c (by omega)])) (fun t ht => ?_) ?_ ?_ (fun p hp => ?_)⟩
          · rw [up_c (by decide), up_ne (by omega), up_ne (by omega), e21, eK, e22, up_ne (by omega)]
            exact ⟨rfl, rfl⟩
          · rw [up_c (by decide), up_eq, hto2.1, iad_e (by omega)]
          · rw [up_eq, iad_e (by omega)]
            exact hVe
          · rw [up_c (by decide), up_ne (by omega), up_ne (by omega), e21, eK, e22, up_ne (by omega)]
            exact ⟨rfl, rfl⟩
        refine brI (fun z2 => ?_) (fun z2 => ?_) <;> conv => whnf
        · refine ⟨trivial, tail J _ (J 22 ((j + 1) * st + iro (s : Int) (bitL L one B (i : Int)))) hF hX rfl ?_ (by omega) ?_⟩
          · rw [up_id rfl]
          · rw [gU_by hO hk hB hi hin]
            unfold byS
            rw [if_neg (fun z => z z2), Int.zero_mul, Int.add_zero]
        · refine ⟨by omega, x295p (by omega) (by omega) ?_⟩
          conv => whnf
          rw [iad_e (a := pI (tLo L one)) (by omega), j6, show J 1 7 = tDr L by omega, iad_e (a := tDr L) (by omega)]
          refine ⟨by omega, x30 (by omega) hX.2.2.1 rfl ⟨hX.2.2.2.1.1, hX.2.2.2.1.2.1, hX.2.2.2.1.2.2⟩ hX.2.2.2.2 hk hT hl12 (by have := hsg.2.1; omega) (by omega) (fun K hF2 hK => ?_)⟩
          conv => whnf
          have hX2 : CX ln L K := hX.keep (fun c h1 h2 => hF2 c (by simp; omega)) hK
          have e21 : K 21 = J 21 := hF2 21 (by decide)
          have e22 : K 22 = J 22 := hF2 22 (by decide)
          refine anI (by omega) ?_
          conv => whnf
          refine anI (by omega) ?_
          conv => whnf
          refine anI (by omega) ?_
          conv => whnf
          rw [e21, jrow.1, hrow.1.1, e22, fj.2.2.2.1]
          have hlc := lz_cl_bd (lz_val (lz_nms (tLv L (8 * one + tTh L (i : Int))) (hlL L one) (pI (tLo L one) + pI (s : Int)) (tTh L (i : Int)) one (tDr L + j)) ln)
          have hll : lz_loss ln (tLv L) one (tTh L (i : Int)) (hlL L one) (pI (tLo L one) + pI (s : Int)) (tDr L + j) = lz_cl (lz_val (lz_nms (tLv L (8 * one + tTh L (i : Int))) (hlL L one) (pI (tLo L one) + pI (s : Int)) (tTh L (i : Int)) one (tDr L + j)) ln) := rfl
          have hb : byS ln L (hlL L one) one B i (s : Int) j = lz_loss ln (tLv L) one (tTh L (i : Int)) (hlL L one) (pI (tLo L one) + pI (s : Int)) (tDr L + j) := by
            unfold byS
            rw [if_pos z2]
          rw [← hll, ← hb] at hlc
          rw [← hb]
          have hmul : -(99 * 4096) ≤ byS ln L (hlL L one) one B i (s : Int) j * gU L one B (fun _ => 1) i j (s : Int) ∧ byS ln L (hlL L one) one B i (s : Int) j * gU L one B (fun _ => 1) i j (s : Int) ≤ 99 * 4096 := by
            have h0 : (byS ln L (hlL L one) one B i (s : Int) j * gU L one B (fun _ => 1) i j (s : Int)).natAbs ≤ 99 * 4096 := by
              rw [Int.natAbs_mul]
              exact Nat.mul_le_mul (by omega) (by omega)
            omega
          rw [iml_e (by omega), iad_e (by omega)]
          refine ⟨trivial, tail _ _ (J 22 ((j + 1) * st + iro (s : Int) (bitL L one B (i : Int))) + byS ln L (hlL L one) one B i (s : Int) j * gU L one B (fun _ => 1) i j (s : Int)) (fr_up (hF.tr (hF2.sub (by decide))) (by decide)) (hX2.fr (fun c hc => up_c (by omega))) ?_ ?_ ?_ ?_⟩
          · rw [up_c (by decide)]; exact e21
          · rw [up_g, up_g, e22]
          · omega
          · rw [gU_by hO hk hB hi hin]; omega
  have start : ∀ (bt : Int), bt = bitL L one B (i : Int) → Ev d 65 33 [some (rf 20), some (nt one), some (nt (i : Int)), some (nt j), some (nt (tTh L (i : Int))), none, none, none, none, none, none] [nt bt] I Q := by
    intro bt hbt
    subst hbt
    refine Ev.go [51] (T := T_65) rfl rfl ?_
    conv => whnf
    refine ⟨by omega, x51 (by omega) (fun _ => ?_) (fun z => absurd hk z)⟩
    rw [f.2.2.2.2.2.2.2]
    conv => whnf
    have hlo := hO.lo hk
    refine ⟨by omega, x295p (by omega) (by omega) ?_⟩
    conv => whnf
    refine ⟨trivial, loop st.toNat 0 none none none I (by omega) Fr.rfl' hC (fun t t0 t1 => ?_) (fun p _ => ⟨rfl, rfl⟩)⟩
    rw [show ((0 : Nat) : Int) = 0 from rfl, gP_0 hO hk hB (Nat.le_of_lt hi), gP_0 hO hk hB (Nat.le_of_lt hi), Int.add_zero, Int.add_zero]
    exact (hR t t0 t1).2
  refine EvM.go [33] (T := T_65) rfl rfl rfl rfl ?_
  conv => whnf
  refine ⟨by omega, x42L (by omega) hC (by omega) ?_⟩
  conv => whnf
  refine ⟨by omega, x53L (by omega) hC hk (by omega) (fun z => ?_) (fun z => ?_)⟩ <;> conv => whnf
  · refine anI hT ?_
    conv => whnf
    refine ⟨trivial, start _ ?_⟩
    unfold bitL
    rw [if_pos z.2, ← h23]
  · refine ⟨trivial, start _ ?_⟩
    unfold bitL
    rw [if_neg (fun w => z ⟨hin, w⟩)]
