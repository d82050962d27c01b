/-! THE FAIREST way: the class; both alike -/
theorem x78 {d : Nat} {ln : lz_L} {L : LT} {m : Int} {P w : Nat} {I : ME} {Q : Option MV → ME → Prop} (hd : 2 ≤ d) (hL : LTok L) (hP : 0 < P) (hP3 : P ≤ 3) (h6 : mnT L ≤ 6) (hw : w ≤ 100000) (h30 : ∀ s k : Int, 0 ≤ s → s < ((2 ^ mnT L : Nat) : Int) → 0 ≤ k → k < P → I 30 (64 * k + s) = shV ln L m k s)
    (h : ∀ J, Fr [32] I J → Q (some (nt (fwW ln L m P (w : Int)))) J) : EvM d 78 [rf 24, nt (w : Int), nt (P : Int), nt ((mnT L : Nat) : Int)] I Q := by
  have g := hL.f
  have h64 := p6 h6
  -- sets of shares, made from the last digit on
  have okS : ∀ J : ME, (∀ k : Int, 0 ≤ k → k < P → (0 ≤ J 32 k ∧ J 32 k < 64) ∧ ∀ j : Nat, j < 12 → (hasb (J 32 k) (j : Int) ↔ j < mnT L ∧ ((dgt P (mnT L) w j : Nat) : Int) = k)) →
      ∀ k : Int, 0 ≤ k → k < P → (0 ≤ J 32 k ∧ J 32 k < ((2 ^ mnT L : Nat) : Int)) ∧ shV ln L m k (J 32 k) = smA ln (wyL L P w) k m := by
    intro J hJ k k0 k1
    obtain ⟨hb, hx⟩ := hJ k k0 k1
    refine ⟨⟨hb.1, ?_⟩, ?_⟩
    · have := set_lt (s := J 32 k) (n := ((mnT L : Nat) : Int)) hb.1 (by omega) (by omega) (by omega) (fun u u0 u1 q => by
        have := (hx u.toNat (by omega)).mp (by rw [show ((u.toNat : Nat) : Int) = u by omega]; exact q)
        omega)
      rw [Int.toNat_natCast] at this
      have e : ((2 ^ mnT L : Nat) : Int) = 2 ^ mnT L := by rw [Int.natCast_pow]; rfl
      omega
    · unfold shV wyL
      refine smA_ow hL (fun u hu => ?_)
      rw [shH_t hu, wyH_t hu]
      have hlt := rkT_lt (L := L) (u := u.toNat) (v := (tSz L).toNat) (by rw [show ((u.toNat : Nat) : Int) = u by omega]; exact hu.2) (by omega)
      have hx2 := hx (rkT L u.toNat) (by have e3 : mnT L = rkT L (tSz L).toNat := rfl; omega)
      constructor
      · intro q
        by_cases q2 : hasb (J 32 k) ((rkT L u.toNat : Nat) : Int)
        · exact (hx2.mp q2).2
        · rw [if_neg q2] at q; omega
      · intro q
        rw [if_pos (hx2.mpr ⟨hlt, q⟩)]
  have great : ∀ (r k : Nat) (rest : Int) (J : ME), 1 ≤ k → k + r = P → Fr [32] I J → (∀ k : Int, 0 ≤ k → k < P → (0 ≤ J 32 k ∧ J 32 k < ((2 ^ mnT L : Nat) : Int)) ∧ shV ln L m k (J 32 k) = smA ln (wyL L P w) k m) →
      Ev d 78 77 [some (rf 24), some (nt (w : Int)), some (nt (P : Int)), some (nt ((mnT L : Nat) : Int)), some (nt rest), some (nt (mxK (fun k => smA ln (wyL L P w) k m) (k - 1))), some (nt (k : Int))] [] J Q := by
    intro r
    induction r with
    | zero =>
      intro k rest J hk1 hr hF hok
      refine Ev.go [] (T := T_78) rfl rfl ?_
      conv => whnf
      refine brI (fun z => by exfalso; omega) (fun z => ?_)
      conv => whnf
      have e : k = P := by omega
      have := h J hF
      have ef : fwW ln L m P (w : Int) = mxK (fun k => smA ln (wyL L P w) k m) (P - 1) := rfl
      rw [ef] at this
      rw [e]
      exact ⟨trivial, this⟩
    | succ r ih =>
      intro k rest J hk1 hr hF hok
      have ek : iad (k : Int) 1 = ((k + 1 : Nat) : Int) := by rw [iad_e (by omega)]; rfl
      have hk := hok (k : Int) (by omega) (by omega)
      have em : mxK (fun k => smA ln (wyL L P w) k m) (k + 1 - 1) = imx (mxK (fun k => smA ln (wyL L P w) k m) (k - 1)) (smA ln (wyL L P w) (k : Int) m) := by
        obtain ⟨k', rfl⟩ : ∃ k', k = k' + 1 := ⟨k - 1, by omega⟩
        rfl
      have nx := ih (k + 1) rest J (by omega) (by omega) hF hok
      rw [em] at nx
      refine Ev.go [77] (T := T_78) rfl rfl ?_
      conv => whnf
      refine brI (fun z => ?_) (fun z => by exfalso; omega)
      conv => whnf
      refine anI (by omega) ?_
      conv => whnf
      rw [ix64 (by omega) (by omega)]
      refine anI (by omega) ?_
      conv => whnf
      refine ltI (by omega) ?_
      conv => whnf
      rw [hF 30 (by decide), h30 _ _ hk.1.1 hk.1.2 (by omega) (by omega), hk.2, ek]
      exact ⟨trivial, nx⟩
  have digs : ∀ (r : Nat) (i : Int) (rest : Nat) (J : ME), i + 1 = r → r ≤ mnT L → rest ≤ 100000 → Fr [32] I J → (∀ j : Nat, j < r → dgt P (mnT L) w j = dgt P r rest j) →
      (∀ k : Int, 0 ≤ k → k < P → (0 ≤ J 32 k ∧ J 32 k < 64) ∧ ∀ j : Nat, j < 12 → (hasb (J 32 k) (j : Int) ↔ r ≤ j ∧ j < mnT L ∧ ((dgt P (mnT L) w j : Nat) : Int) = k)) →
      Ev d 78 28 [some (rf 24), some (nt (w : Int)), some (nt (P : Int)), some (nt ((mnT L : Nat) : Int)), some (nt (rest : Int)), some (nt i), none] [] J Q := by
    intro r
    induction r with
    | zero =>
      intro i rest J hi hr hrest hF hd' hs
      refine Ev.go [77] (T := T_78) rfl rfl ?_
      conv => whnf
      refine brI (fun z => ?_) (fun z => by exfalso; omega)
      conv => whnf
      have hok := okS J (fun k k0 k1 => ⟨(hs k k0 k1).1, fun j hj => by rw [(hs k k0 k1).2 j hj]; exact ⟨fun q => q.2, fun q => ⟨Nat.zero_le _, q⟩⟩⟩)
      have hk := hok 0 (by omega) (by omega)
      refine anI (by omega) ?_
      conv => whnf
      refine anI (by omega) ?_
      conv => whnf
      have e0 := h30 (J 32 0) 0 hk.1.1 hk.1.2 (by omega) (by omega)
      rw [show 64 * (0 : Int) + J 32 0 = J 32 0 by omega] at e0
      rw [hF 30 (by decide), e0, hk.2]
      exact ⟨trivial, great (P - 1) 1 _ J (Nat.le_refl _) (by omega) hF hok⟩
    | succ r ih =>
      intro i rest J hi hr hrest hF hd' hs
      have ei : i = (r : Int) := by omega
      have hm := Nat.mod_lt rest hP
      have hdm : rest / P ≤ rest := Nat.div_le_self _ _
      have hkk := hs ((rest % P : Nat) : Int) (by omega) (by omega)
      have eir : irm (rest : Int) (P : Int) = ((rest % P : Nat) : Int) := by rw [irm_q (by omega) (by omega) (by omega)]; rfl
      have eid : idv (rest : Int) (P : Int) = ((rest / P : Nat) : Int) := by rw [idv_q (by omega) (by omega) (by omega)]; rfl
      have ed : dgt P (mnT L) w r = rest % P := by rw [hd' r (by omega)]; exact if_pos rfl
      refine Ev.go [28] (T := T_78) rfl rfl ?_
      conv => whnf
      refine brI (fun z => by exfalso; omega) (fun z => ?_)
      conv => whnf
      subst ei
      refine nzI (by omega) ?_
      conv => whnf
      rw [eir]
      refine anI (by omega) ?_
      conv => whnf
      refine anI (by omega) ?_
      conv => whnf
      refine nzI (by omega) ?_
      conv => whnf
      rw [eid, show iad (r : Int) (-1) = (r : Int) - 1 by rw [iad_e (by omega)]; omega]
      have hr6 : pT (r : Int) := ⟨by omega, by omega⟩
      have i8 := iro_8 (s := J 32 ((rest % P : Nat) : Int)) (t := (r : Int)) ⟨hkk.1.1, by omega⟩ hr6
      have hlt64 : iro (J 32 ((rest % P : Nat) : Int)) (isl 1 (r : Int)) < 64 := by
        refine set_lt (n := 6) i8.1.1 (by omega) (by omega) (by omega) (fun u u0 u1 q => ?_)
        rcases (i8.2 u (by omega) (by omega)).mp q with q | q
        · have := (hkk.2 u.toNat (by omega)).mp (by rw [show ((u.toNat : Nat) : Int) = u by omega]; exact q)
          omega
        · omega
      refine ⟨trivial, ih ((r : Int) - 1) (rest / P) _ (by omega) (by omega) (by omega) (fr_up hF (by decide)) (fun j hj => ?_) (fun k k0 k1 => ?_)⟩
      · rw [hd' j (by omega)]
        exact if_neg (by omega)
      · rw [up_any]
        by_cases e : k = ((rest % P : Nat) : Int)
        · rw [if_pos e]
          refine ⟨⟨i8.1.1, hlt64⟩, fun j hj => ?_⟩
          rw [i8.2 (j : Int) (by omega) (by omega), hkk.2 j hj]
          constructor
          · rintro (⟨a, b, c⟩ | a)
            · exact ⟨by omega, b, by rw [e]; exact c⟩
            · have : j = r := by omega
              subst this
              exact ⟨Nat.le_refl _, by omega, by rw [ed, e]⟩
          · rintro ⟨a, b, c⟩
            by_cases w2 : j = r
            · exact Or.inr (by omega)
            · exact Or.inl ⟨by omega, b, by rw [← e]; exact c⟩
        · rw [if_neg e]
          refine ⟨(hs k k0 k1).1, fun j hj => ?_⟩
          rw [(hs k k0 k1).2 j hj]
          constructor
          · rintro ⟨a, b, c⟩; exact ⟨by omega, b, c⟩
          · rintro ⟨a, b, c⟩
            refine ⟨?_, b, c⟩
            have : j ≠ r := fun z => e (by rw [z, ed] at c; exact c.symm)
            omega
  refine EvM.go [28] (T := T_78) rfl rfl rfl rfl ?_
  conv => whnf
  refine brI (fun z => by exfalso; omega) (fun z => ?_)
  conv => whnf
  refine brI (fun z => by exfalso; omega) (fun z => ?_)
  conv => whnf
  refine ⟨by omega, x309_32 ?_⟩
  conv => whnf
  rw [isb_e (by omega)]
  refine ⟨trivial, digs (mnT L) _ w _ (by omega) (Nat.le_refl _) hw (fr_fi Fr.rfl' (by decide)) (fun j _ => rfl) (fun k k0 k1 => ?_)⟩
  have e : fil I 32 0 3 0 32 k = 0 := by
    rw [fil_g]
    unfold flr
    rw [if_pos (by omega)]
  rw [e]
  exact ⟨by omega, fun j hj => ⟨fun q => absurd q (hb_0 (by omega) (by omega)), fun q => by exfalso; omega⟩⟩
def fbC : List Nat := [11, 12, 13, 20, 21, 22, 23, 24, 28, 29, 30, 31, 32]
theorem pow729 {P k : Nat} (hP3 : P ≤ 3) (hk : k ≤ 6) : P ^ k ≤ 729 := Nat.le_trans (Nat.pow_le_pow_left hP3 k) (Nat.le_trans (Nat.pow_le_pow_right (n := 3) (by decide) hk) (by decide))
theorem x74 {d : Nat} {ln : lz_L} {L : LT} {m : Int} {P : Nat} {I : ME} {Q : Option MV → ME → Prop} (hd : 9 ≤ d) (hC : CX ln L I) (hm : cdW L m) (hP : 0 < P) (hP3 : P ≤ 3) (h6 : pI (tIn L) ≤ 6)
    (h : ∀ J, Fr fbC I J → CX ln L J → J 24 12 = fwW ln L m P (bsW ln L m P) → (∀ u : Int, isT L u → J 31 u = wyH L P (bsW ln L m P).toNat u) → Q none J) : EvM d 74 [rf 24, nt (P : Int), nt m] I Q := by
  have hO := hC.2.1
  have g := hO.f
  have hmn := mnT_pI hO
  have hmn6 : mnT L ≤ 6 := by omega
  have hpos : 0 < P ^ mnT L := Nat.pow_pos hP
  have hbw := bsW_b (ln := ln) (L := L) (m := m) hP
  have h729 := pow729 (P := P) hP3 hmn6
  have tell : ∀ (r : Nat) (i : Int) (rest : Nat) (all best : Int) (J : ME), i + 1 = r → r ≤ mnT L → rest ≤ 100000 → Fr fbC I J → CX ln L J → nmT L J → J 24 12 = fwW ln L m P (bsW ln L m P) → (∀ j : Nat, j < r → dgt P (mnT L) (bsW ln L m P).toNat j = dgt P r rest j) → (∀ u : Nat, isT L (u : Int) → r ≤ rkT L u → J 31 (u : Int) = wyH L P (bsW ln L m P).toNat (u : Int)) →
      Ev d 74 112 [some (rf 24), some (nt (P : Int)), some (nt m), some (nt ((mnT L : Nat) : Int)), some (nt all), some (nt best), some (nt (rest : Int)), some (nt i)] [] J Q := by
    intro r
    induction r with
    | zero =>
      intro i rest all best J hi hr hrest hF hX hn h12 hdg hu
      refine Ev.go [] (T := T_74) rfl rfl ?_
      conv => whnf
      refine brI (fun z => ?_) (fun z => by exfalso; omega)
      conv => whnf
      refine ⟨trivial, h J hF hX h12 (fun u hu' => ?_)⟩
      have := hu u.toNat (by rw [show ((u.toNat : Nat) : Int) = u by omega]; exact hu') (Nat.zero_le _)
      rw [show ((u.toNat : Nat) : Int) = u by omega] at this
      exact this
    | succ r ih =>
      intro i rest all best J hi hr hrest hF hX hn h12 hdg hu
      have ei : i = (r : Int) := by omega
      have hm' := Nat.mod_lt rest hP
      have hdm : rest / P ≤ rest := Nat.div_le_self _ _
      obtain ⟨t, ht, hrk, e28⟩ := nmT_i hn (show r < mnT L by omega)
      have eir : irm (rest : Int) (P : Int) = ((rest % P : Nat) : Int) := by rw [irm_q (by omega) (by omega) (by omega)]; rfl
      have eid : idv (rest : Int) (P : Int) = ((rest / P : Nat) : Int) := by rw [idv_q (by omega) (by omega) (by omega)]; rfl
      have ed : dgt P (mnT L) (bsW ln L m P).toNat r = rest % P := by rw [hdg r (by omega)]; exact if_pos rfl
      have ht12 := ht.1
      refine Ev.go [112] (T := T_74) rfl rfl ?_
      conv => whnf
      refine brI (fun z => by exfalso; omega) (fun z => ?_)
      conv => whnf
      subst ei
      refine anI (by omega) ?_
      conv => whnf
      rw [e28]
      refine nzI (by omega) ?_
      conv => whnf
      rw [eir]
      refine anI (by omega) ?_
      conv => whnf
      refine nzI (by omega) ?_
      conv => whnf
      rw [eid, show iad (r : Int) (-1) = (r : Int) - 1 by rw [iad_e (by omega)]; omega]
      refine ⟨trivial, ih ((r : Int) - 1) (rest / P) all best _ (by omega) (by omega) (by omega) (fr_up hF (by decide)) (hX.fr (fun c hc => up_c (by omega))) (fun u hiu => by rw [up_c (by decide)]; exact hn u hiu) (by rw [up_c (by decide)]; exact h12) (fun j hj => ?_) (fun u hiu hle => ?_)⟩
      · rw [hdg j (by omega)]
        exact if_neg (by omega)
      · rw [up_any]
        by_cases e : u = t
        · rw [if_pos (by rw [e]), e, wyH_t ht, Int.toNat_natCast, hrk, ed]
        · have : rkT L u ≠ r := fun z => e (rkT_inj hiu.2 ht.2 (by omega))
          rw [if_neg (by omega)]
          exact hu u hiu (by omega)
  have best : ∀ (r w : Nat) (x7 : Option MV) (J : ME), w + r = P ^ mnT L → Fr fbC I J → CX ln L J → nmT L J → (∀ s k : Int, 0 ≤ s → s < ((2 ^ mnT L : Nat) : Int) → 0 ≤ k → k < P → J 30 (64 * k + s) = shV ln L m k s) → (1 ≤ w → J 24 12 = fwW ln L m P (amF (fwW ln L m P) w)) →
      Ev d 74 54 [some (rf 24), some (nt (P : Int)), some (nt m), some (nt ((mnT L : Nat) : Int)), some (nt ((P ^ mnT L : Nat) : Int)), some (nt (cvT (amF (fwW ln L m P) w))), some (nt (w : Int)), x7] [] J Q := by
    intro r
    induction r with
    | zero =>
      intro w x7 J hr hF hX hn h30 h12
      have e : w = P ^ mnT L := by omega
      have hcv : cvT (amF (fwW ln L m P) w) = (((bsW ln L m P).toNat : Nat) : Int) := by
        rw [e]
        have : amF (fwW ln L m P) (P ^ mnT L) = bsW ln L m P := rfl
        rw [this]
        unfold cvT
        rw [if_neg (by omega)]
        omega
      rw [hcv]
      refine Ev.go [112] (T := T_74) rfl rfl ?_
      conv => whnf
      refine brI (fun z => by exfalso; omega) (fun z => ?_)
      conv => whnf
      rw [isb_e (by omega)]
      refine ⟨trivial, tell (mnT L) _ (bsW ln L m P).toNat _ _ J (by omega) (Nat.le_refl _) (by omega) hF hX hn ?_ (fun j _ => rfl) (fun u hiu hle => ?_)⟩
      · have := h12 (by omega)
        rw [e] at this
        exact this
      · have := rkT_lt (L := L) (u := u) (v := (tSz L).toNat) hiu.2 (by have := hiu.1.2; omega)
        have e3 : mnT L = rkT L (tSz L).toNat := rfl
        omega
    | succ r ih =>
      intro w x7 J hr hF hX hn h30 h12
      have ew : iad (w : Int) 1 = ((w + 1 : Nat) : Int) := by rw [iad_e (by omega)]; rfl
      have hab := amF_bd (f := fwW ln L m P) w
      refine Ev.go [54] (T := T_74) rfl rfl ?_
      conv => whnf
      refine brI (fun z => ?_) (fun z => by exfalso; omega)
      conv => whnf
      refine ⟨by omega, x78 (by omega) hO hP hP3 hmn6 (by omega) h30 (fun J2 hF2 => ?_)⟩
      conv => whnf
      have hX2 : CX ln L J2 := hX.fr (fun c hc => hF2 c (by simp; omega))
      have hn2 : nmT L J2 := fun u hiu => by rw [hF2 28 (by decide)]; exact hn u hiu
      have e24 : J2 24 = J 24 := hF2 24 (by decide)
      have e30 : J2 30 = J 30 := hF2 30 (by decide)
      have new : ∀ x7, (amF (fwW ln L m P) w = -1 ∨ fwW ln L m P (w : Int) < fwW ln L m P (amF (fwW ln L m P) w)) → Ev d 74 54 [some (rf 24), some (nt (P : Int)), some (nt m), some (nt ((mnT L : Nat) : Int)), some (nt ((P ^ mnT L : Nat) : Int)), some (nt (w : Int)), some (nt (iad (w : Int) 1)), x7] [] (upd_ J2 24 12 (fwW ln L m P (w : Int))) Q := fun x7 hc => by
        have e : amF (fwW ln L m P) (w + 1) = (w : Int) := if_pos hc
        have ec : cvT (amF (fwW ln L m P) (w + 1)) = (w : Int) := by rw [e]; unfold cvT; rw [if_neg (by omega)]
        have := ih (w + 1) x7 (upd_ J2 24 12 (fwW ln L m P (w : Int))) (by omega) (fr_up (hF.tr (hF2.sub (by decide))) (by decide)) (hX2.fr (fun c hc => up_c (by omega))) (fun u hiu => by rw [up_c (by decide)]; exact hn2 u hiu) (fun s k a b c e => by rw [up_c (by decide), e30]; exact h30 s k a b c e) (fun _ => by rw [up_eq, e])
        rw [ec] at this
        rw [ew]
        exact this
      refine brI (fun z1 => ?_) (fun z1 => ?_) <;> conv => whnf
      · exact ⟨trivial, new _ (Or.inl (by unfold cvT at z1; split at z1 <;> omega))⟩
      · have hne : amF (fwW ln L m P) w ≠ -1 := fun q => z1 (by rw [q]; rfl)
        have hl := h12 (by have := hab.1; have := hab.2.1; omega)
        rw [e24, hl]
        refine brI (fun z2 => ?_) (fun z2 => ?_) <;> conv => whnf
        · exact ⟨trivial, new _ (Or.inr z2)⟩
        · have e : amF (fwW ln L m P) (w + 1) = amF (fwW ln L m P) w := if_neg (fun q => q.elim hne z2)
          have := ih (w + 1) (some (nt (fwW ln L m P (w : Int)))) J2 (by omega) (hF.tr (hF2.sub (by decide))) hX2 hn2 (fun s k a b c e => by rw [e30]; exact h30 s k a b c e) (fun _ => by rw [e24, e]; exact hl)
          rw [e] at this
          rw [ew]
          exact ⟨trivial, this⟩
  have pows : ∀ (r i : Nat) (x6 x7 : Option MV) (J : ME), i + r = mnT L → Fr fbC I J → CX ln L J → nmT L J → (∀ s k : Int, 0 ≤ s → s < ((2 ^ mnT L : Nat) : Int) → 0 ≤ k → k < P → J 30 (64 * k + s) = shV ln L m k s) →
      Ev d 74 29 [some (rf 24), some (nt (P : Int)), some (nt m), some (nt ((mnT L : Nat) : Int)), some (nt ((P ^ i : Nat) : Int)), some (nt (i : Int)), x6, x7] [] J Q := by
    intro r
    induction r with
    | zero =>
      intro i x6 x7 J hr hF hX hn h30
      refine Ev.go [54] (T := T_74) rfl rfl ?_
      conv => whnf
      refine brI (fun z => by exfalso; omega) (fun z => ?_)
      conv => whnf
      have e : i = mnT L := by omega
      rw [e]
      exact ⟨trivial, best _ 0 _ J (Nat.zero_add _) hF hX hn h30 (fun q => by omega)⟩
    | succ r ih =>
      intro i x6 x7 J hr hF hX hn h30
      have ei : iad (i : Int) 1 = ((i + 1 : Nat) : Int) := by rw [iad_e (by omega)]; rfl
      have hp := pow729 (P := P) (k := i + 1) hP3 (by omega)
      have epw : ((P ^ i : Nat) : Int) * (P : Int) = ((P ^ (i + 1) : Nat) : Int) := by rw [Nat.pow_succ]; rfl
      refine Ev.go [29] (T := T_74) rfl rfl ?_
      conv => whnf
      refine brI (fun z => ?_) (fun z => by exfalso; omega)
      conv => whnf
      rw [iml_e (by omega), epw, ei]
      exact ⟨trivial, ih (i + 1) x6 x7 J (by omega) hF hX hn h30⟩
  refine EvM.go [29] (T := T_74) rfl rfl rfl rfl ?_
  conv => whnf
  refine brI (fun z => by exfalso; omega) (fun z => ?_)
  conv => whnf
  refine brI (fun z => by exfalso; omega) (fun z => ?_)
  conv => whnf
  refine ⟨by omega, x76 (by omega) hC h6 (fun J1 hF1 hn1 => ?_)⟩
  conv => whnf
  have hX1 : CX ln L J1 := hC.fr (fun c hc => hF1 c (by simp; omega))
  refine ⟨by omega, x77 (by omega) hX1 hm hP hP3 h6 hn1 (fun J2 hF2 hX2 h30 => ?_)⟩
  conv => whnf
  exact ⟨trivial, pows _ 0 none none J2 (Nat.zero_add _) ((hF1.sub (by decide)).tr (hF2.sub (by decide))) hX2 (fun u hiu => by rw [hF2 28 (by decide)]; exact hn1 u hiu) h30⟩
theorem x75 {d : Nat} {t : Int} {I : ME} {Q : Option MV → ME → Prop} (hd : 1 ≤ d) (ht : tkC I t) (h12 : t < 12) (h : Q (some (nt (I 31 t))) I) : EvM d 75 [rf 24, nt t] I Q := by
  unfold tkC at ht
  refine EvM.go [] (T := T_75) rfl rfl rfl rfl ?_
  conv => whnf
  refine ⟨by omega, x36 (fun _ => ?_) (fun q => absurd ht q)⟩
  conv => whnf
  refine anI (by omega) ?_
  conv => whnf
  exact ⟨trivial, h⟩
theorem irm_neg {a : Int} (h : -2147483648 ≤ a) (h2 : a < 0) : irm a 10 ≤ 0 := by
  by_cases e : a = -2147483648
  · rw [e]; decide
  · rw [irm_n h2 (by omega) ⟨by omega, by omega⟩]
    have := Int.emod_nonneg (-a) (show (10 : Int) ≠ 0 by omega)
    omega
theorem op15 {mp w : Int} (hmp : -2147483648 ≤ mp ∧ mp ≤ 2147483647) : Op3 145 248 [nt mp, nt w] lg := by
  refine Op3.mk (F := F15 mp w) (fun ln L I Q hX h27 h => ?_) (fun ln L I Q hM h => m248 (by omega) hmp.2 hM h)
  have f := hX.f
  have hO := hX.2.1
  have g := hO.f
  have hpI := pI_bd (tIn L)
  have no : (¬ (0 ≤ mp ∧ cdW L (mp / 10) ∧ 1 ≤ mp % 10 ∧ mp % 10 ≤ 3 ∧ -2 ≤ w ∧ w < tSz L)) → Q (some (lg (-9223372036854775808))) I := fun hn => by
    have := h I Fr.rfl' hX h27
    unfold F15 at this
    rw [if_neg hn] at this
    exact this
  refine EvM.go [89] (T := T_145) rfl rfl rfl rfl ?_
  conv => whnf
  refine nzI (by omega) ?_
  conv => whnf
  refine nzI (by omega) ?_
  conv => whnf
  by_cases hn : mp < 0
  · have := irm_neg hmp.1 hn
    refine brI (fun z => ?_) (fun z => by exfalso; omega)
    conv => whnf
    exact ⟨trivial, no (fun r => by omega)⟩
  · rw [idv_q (by omega) (by omega) (by omega), irm_q (by omega) (by omega) (by omega)]
    refine brI (fun z => ?_) (fun z => ?_) <;> conv => whnf
    · exact ⟨trivial, no (fun r => by omega)⟩
    · refine brI (fun z1 => ?_) (fun z1 => ?_) <;> conv => whnf
      · exact ⟨trivial, no (fun r => by omega)⟩
      · refine ⟨by omega, x47 (by omega) (by omega) (by omega) (fun hm => ?_) (fun hm => ?_)⟩ <;> conv => whnf
        all_goals rw [f.2.1] at hm
        · refine brI (fun z2 => ?_) (fun z2 => ?_) <;> conv => whnf
          · exact ⟨trivial, no (fun r => by omega)⟩
          · refine ⟨by omega, x35 ?_⟩
            rw [f.1]
            conv => whnf
            refine brI (fun z3 => ?_) (fun z3 => ?_) <;> conv => whnf
            · have hJ := h
              unfold F15 at hJ
              rw [if_pos ⟨by omega, hm, by omega, by omega, by omega, z3⟩] at hJ
              refine ⟨by omega, x39 (by omega) (by omega) (by omega) ?_⟩
              rw [f.2.1]
              conv => whnf
              refine brI (fun z4 => ?_) (fun z4 => ?_) <;> conv => whnf
              · have := hJ I Fr.rfl' hX h27
                rw [if_pos z4] at this
                exact ⟨trivial, this⟩
              · rw [if_neg z4] at hJ
                have eP : mp % 10 = (((mp % 10).toNat : Nat) : Int) := by omega
                have hbw := bsW_b (ln := ln) (L := L) (m := mp / 10) (P := (mp % 10).toNat) (by omega)
                have last : (0 ≤ w → hasb (tIn L) w) → Ev 799 145 89 [some (rf 0), some (nt mp), some (nt w), some (nt (mp % 10)), some (nt (mp / 10))] [] I Q := fun hin => by
                  refine Ev.go [] (T := T_145) rfl rfl ?_
                  conv => whnf
                  rw [eP]
                  refine ⟨by omega, x74 (P := (mp % 10).toNat) (by omega) hX hm (by omega) (by omega) (by omega) (fun J hF hX2 h12 h31 => ?_)⟩
                  conv => whnf
                  have f2 := hX2.f
                  have hJ2 := hJ J (hF.sub (by decide)) hX2 (by rw [hF 27 (by decide)]; exact h27)
                  refine brI (fun z5 => ?_) (fun z5 => ?_) <;> conv => whnf
                  · rw [if_neg (by omega)] at hJ2
                    refine ⟨by omega, x67 ?_⟩
                    rw [h12]
                    conv => whnf
                    refine ⟨by omega, x48 (by omega) (by omega) (by omega) ?_⟩
                    rw [f2.2.1]
                    conv => whnf
                    rw [iad_e (by omega)]
                    have hw0 := wyI_pos hpI.2 hm.1 hm.2
                    have hw2 := wyI_bd (n := pI (tIn L)) (k := mp / 10) hpI.1 hpI.2
                    have hfb := fwW_bd (ln := ln) (m := mp / 10) hO (P := (mp % 10).toNat) (by omega) (by omega) (bsW ln L (mp / 10) (mp % 10).toNat)
                    refine ⟨by omega, x184 (by omega) (by omega) (by omega) (fun q => absurd (show 0 ≤ w + 2 ∧ w + 2 ≤ 1 by omega) q) (fun _ => ?_)⟩
                    conv => whnf
                    exact ⟨trivial, hJ2⟩
                  · have hw0 : 0 ≤ w := by omega
                    rw [if_pos hw0, if_pos (hin hw0)] at hJ2
                    have hiT : isT L w := ⟨⟨hw0, z3⟩, hin hw0⟩
                    refine ⟨by omega, x75 (by omega) (show tkC J w by unfold tkC; omega) (by omega) ?_⟩
                    rw [h31 w hiT]
                    conv => whnf
                    exact ⟨trivial, hJ2⟩
                refine brI (fun z5 => ?_) (fun z5 => ?_) <;> conv => whnf
                · exact ⟨trivial, last (fun q => by omega)⟩
                · refine ⟨by omega, x37L (by omega) hX (fun z6 => ?_) (fun z6 => ?_)⟩ <;> conv => whnf
                  · exact ⟨trivial, last (fun _ => z6.2)⟩
                  · have := hJ I Fr.rfl' hX h27
                    rw [if_pos (by omega), if_neg (fun q => z6 ⟨⟨by omega, z3⟩, q⟩)] at this
                    exact ⟨trivial, this⟩
            · exact ⟨trivial, no (fun r => z3 r.2.2.2.2.2)⟩
        · exact ⟨trivial, no (fun r => hm r.2.1)⟩
