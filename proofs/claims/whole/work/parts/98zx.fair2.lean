/-! THE FAIREST way: the model goes through them all -/
def gwR (n : Int) (I J : ME) : Prop := (∀ j, j < 14 ∨ 31 < j → J 53 j = I 53 j) ∧ Fr [53, 54, 61, 62, 63, 64, 65, 67] I J ∧ ∀ a, (∀ u, 0 ≤ u → u < n → a ≠ 48 + 3 * u + 1) → J 54 a = I 54 a
theorem gwR.tr {n : Int} {I J K : ME} (h : gwR n I J) (h2 : gwR n J K) : gwR n I K := ⟨fun j hj => (h2.1 j hj).trans (h.1 j hj), h.2.1.tr h2.2.1, fun a ha => (h2.2.2 a ha).trans (h.2.2 a ha)⟩
theorem sF.gw {n : Int} {I J : ME} (h : sF I J) : gwR n I J := ⟨fun j hj => h.1 j (by omega), h.2.sub (by decide), fun a _ => by rw [h.2 54 (by decide)]⟩
noncomputable def bwS (ln : lz_L) (L : LT) (m : Int) (P W : Nat) (J : ME) : Prop := (W = 0 ∧ J 53 29 = -9223372036854775808) ∨ (0 < W ∧ J 53 29 = fwW ln L m P (amF (fwW ln L m P) W) ∧ J 53 26 = wyI (pI (tIn L)) m ∧ ∀ u : Int, 0 ≤ u → u < tSz L → J 67 u = wyH L P (amF (fwW ln L m P) W).toNat u)
theorem m247_leaf {d : Nat} {ln : lz_L} {L : LT} {m : Int} {P v t : Nat} {I : ME} {Q : Option MV → ME → Prop} (hd : 67 ≤ d) (hL : LTok L) (hm : cdW L m) (hP : 0 < P) (hP3 : P ≤ 3) (hC : MX ln (wyL L P v) I) (ht : (t : Int) = tSz L) (hb : bwS ln L m P v I)
    (h : ∀ J, gwR (tSz L) I J → J 54 = I 54 → MX ln (wyL L P v) J → bwS ln L m P (v + 1) J → Q none J) : EvM d 247 [rf 53, nt (t : Int), nt m, nt (P : Int)] I Q := by
  have g := hL.f
  have f := hC.f
  have hw2 := fwW_bd (ln := ln) (m := m) hL hP hP3 (v : Int)
  have hfv : fwW ln L m P (v : Int) = mxK (fun k => smA ln (wyL L P v) k m) (P - 1) := rfl
  have hO := hC.1
  -- the holders are laid down
  have copy : ∀ (r k : Nat) (lo : Int) (J : ME), k + r = (tSz L).toNat → gwR (tSz L) I J → J 54 = I 54 → MX ln (wyL L P v) J → J 53 29 = fwW ln L m P (v : Int) → J 53 26 = wyI (pI (tIn L)) m → amF (fwW ln L m P) (v + 1) = (v : Int) → (∀ u : Int, 0 ≤ u → u < k → J 67 u = wyH L P v u) →
      Ev d 247 97 [some (rf 53), some (nt (t : Int)), some (nt m), some (nt (P : Int)), some (lg lo), none, some (nt (k : Int))] [] J Q := by
    intro r
    induction r with
    | zero =>
      intro k lo J hr hF h54 hM h29 h26 ham hu
      refine Ev.go [] (T := T_247) rfl rfl ?_
      conv => whnf
      rw [hM.f.1]
      refine brI (fun z => by exfalso; have z' : (k : Int) < tSz L := z; omega) (fun z => ?_)
      conv => whnf
      refine ⟨trivial, h J hF h54 hM (Or.inr ⟨by omega, ?_, h26, fun u u0 u1 => ?_⟩)⟩
      · rw [ham]; exact h29
      · rw [ham, Int.toNat_natCast]; exact hu u u0 (by omega)
    | succ r ih =>
      intro k lo J hr hF h54 hM h29 h26 ham hu
      have ei : iad (k : Int) 1 = ((k + 1 : Nat) : Int) := by rw [iad_e (by omega)]; rfl
      refine Ev.go [97] (T := T_247) rfl rfl ?_
      conv => whnf
      rw [hM.f.1]
      refine brI (fun z => ?_) (fun z => absurd (show (k : Int) < tSz L by omega) z)
      conv => whnf
      refine ⟨by omega, m198 (by omega) (by omega) ?_⟩
      rw [(hM.t (t := (k : Int)) (by omega) (by omega)).2.1]
      conv => whnf
      refine anI (by omega) ?_
      conv => whnf
      rw [ei]
      refine ⟨trivial, ih (k + 1) lo _ (by omega) ?_ (by rw [up_c (by decide)]; exact h54) ?_ (by rw [up_c (by decide)]; exact h29) (by rw [up_c (by decide)]; exact h26) ham (fun u u0 u1 => ?_)⟩
      · refine hF.tr ⟨fun j hj => by rw [up_c (by decide)], fr_up Fr.rfl' (by decide), fun a _ => by rw [up_c (by decide)]⟩
      · exact hM.keep (by rw [up_c (by decide)]) (by rw [up_c (by decide)]) (by rw [up_c (by decide)]) (by rw [up_c (by decide)]) (up_c (by decide)) (up_c (by decide)) (up_c (by decide))
      · rw [up_any]
        by_cases w : u = (k : Int)
        · rw [if_pos w, w]; rfl
        · rw [if_neg w]; exact hu u u0 (by omega)
  -- the greatest
  have tail : ∀ (x : Int) (J : ME), gwR (tSz L) I J → J 54 = I 54 → MX ln (wyL L P v) J → J 53 26 = wyI (pI (tIn L)) m → J 53 29 = I 53 29 → J 67 = I 67 →
      Ev d 247 67 [some (rf 53), some (nt (t : Int)), some (nt m), some (nt (P : Int)), some (lg (fwW ln L m P (v : Int))), none, some (nt x)] [] J Q := by
    intro x J hF h54 hM h26 h29 h67
    have new : amF (fwW ln L m P) (v + 1) = (v : Int) → ∀ x, Ev d 247 88 [some (rf 53), some (nt (t : Int)), some (nt m), some (nt (P : Int)), some (lg (fwW ln L m P (v : Int))), none, some (nt x)] [] J Q := fun ham x => by
      refine Ev.go [97] (T := T_247) rfl rfl ?_
      conv => whnf
      refine ⟨trivial, copy _ 0 _ _ (Nat.zero_add _) ?_ (by rw [up_c (by decide)]; exact h54) ?_ (by rw [up_eq]) (by rw [up_ne (by decide)]; exact h26) ham (fun u u0 u1 => by exfalso; omega)⟩
      · refine hF.tr ⟨fun j hj => up_ne (by omega), fr_up Fr.rfl' (by decide), fun a _ => by rw [up_c (by decide)]⟩
      · exact hM.keep (up_ne (by decide)) (up_ne (by decide)) (up_ne (by decide)) (up_ne (by decide)) (up_c (by decide)) (up_c (by decide)) (up_c (by decide))
    refine Ev.go [88] (T := T_247) rfl rfl ?_
    conv => whnf
    rcases hb with ⟨hv, hn⟩ | ⟨hv, h1, h2, h3⟩
    · refine brI (fun z => ?_) (fun z => ?_)
      all_goals first | (exfalso; exact z (lcm_0.mpr (h29.trans hn))) | skip
      conv => whnf
      refine ⟨trivial, new ?_ _⟩
      subst hv
      exact if_pos (Or.inl rfl)
    · have hab := amF_bd (f := fwW ln L m P) v
      have hb2 := fwW_bd (ln := ln) (m := m) hL hP hP3 (amF (fwW ln L m P) v)
      refine brI (fun z => ?_) (fun z => ?_)
      all_goals rw [lcm_0, h29, h1] at z
      all_goals first | (exfalso; omega) | skip
      conv => whnf
      refine brI (fun z2 => ?_) (fun z2 => ?_)
      all_goals rw [lcm_lt, h29, h1] at z2
      all_goals conv => whnf
      · exact ⟨trivial, new (if_pos (Or.inr z2)) _⟩
      · have e : amF (fwW ln L m P) (v + 1) = amF (fwW ln L m P) v := if_neg (fun w => w.elim (fun w => by have := hab.2.2 (by omega); omega) z2)
        refine ⟨trivial, h J hF h54 hM (Or.inr ⟨by omega, ?_, h26, fun u u0 u1 => ?_⟩)⟩
        · rw [e, h29]; exact h1
        · rw [e, h67]; exact h3 u u0 u1
  have great : ∀ (r k : Nat) (J : ME), 1 ≤ k → k + r = P → gwR (tSz L) I J → J 54 = I 54 → MX ln (wyL L P v) J → J 53 26 = wyI (pI (tIn L)) m → J 53 29 = I 53 29 → J 67 = I 67 → (∀ p, pP p → J 65 p = smA ln (wyL L P v) p m) →
      Ev d 247 28 [some (rf 53), some (nt (t : Int)), some (nt m), some (nt (P : Int)), some (lg (mxK (fun k => smA ln (wyL L P v) k m) (k - 1))), none, some (nt (k : Int))] [] J Q := by
    intro r
    induction r with
    | zero =>
      intro k J hk1 hr hF h54 hM h26 h29 h67 h65
      refine Ev.go [67] (T := T_247) rfl rfl ?_
      conv => whnf
      refine brI (fun z => ?_) (fun z => ?_)
      all_goals first | (exfalso; omega) | skip
      conv => whnf
      have e : k = P := by omega
      subst e
      exact ⟨trivial, tail _ J hF h54 hM h26 h29 h67⟩
    | succ r ih =>
      intro k J hk1 hr hF h54 hM h26 h29 h67 h65
      have hk : pP (k : Int) := by omega
      have ei : iad (k : Int) 1 = ((k + 1 : Nat) : Int) := by rw [iad_e (by omega)]; rfl
      have em : mxK (fun k => smA ln (wyL L P v) k m) (k + 1 - 1) = imx (mxK (fun k => smA ln (wyL L P v) k m) (k - 1)) (smA ln (wyL L P v) (k : Int) m) := by
        obtain ⟨k', rfl⟩ : ∃ k', k = k' + 1 := ⟨k - 1, by omega⟩
        rfl
      have nx := ih (k + 1) J (by omega) (by omega) hF h54 hM h26 h29 h67 h65
      rw [em] at nx
      unfold imx at nx
      refine Ev.go [28] (T := T_247) rfl rfl ?_
      conv => whnf
      refine brI (fun z => ?_) (fun z => ?_)
      all_goals first | (exfalso; omega) | skip
      conv => whnf
      refine anI (by omega) ?_
      conv => whnf
      rw [h65 _ hk]
      refine brI (fun z2 => ?_) (fun z2 => ?_) <;> conv => whnf
      all_goals rw [lcm_gt] at z2
      · refine anI (by omega) ?_
        conv => whnf
        rw [h65 _ hk, ei]
        rw [if_pos z2] at nx
        exact ⟨trivial, nx⟩
      · rw [if_neg z2] at nx
        rw [ei]
        exact ⟨trivial, nx⟩
  refine EvM.go [28] (T := T_247) rfl rfl rfl rfl ?_
  conv => whnf
  rw [f.1]
  refine brI (fun z => ?_) (fun z => absurd ht z)
  conv => whnf
  rw [f.2.1]
  refine ⟨by omega, m232L (by omega) hC hm (fun J hF h26 h65 => ?_)⟩
  conv => whnf
  refine anI (by omega) ?_
  conv => whnf
  rw [h65 0 (by omega)]
  exact ⟨trivial, great (P - 1) 1 J (Nat.le_refl _) (by omega) hF.gw (hF.2 54 (by decide)) (hC.mf hF.mF) h26 (hF.1 29 (by omega)) (hF.2 67 (by decide)) h65⟩
theorem m247 {ln : lz_L} {L : LT} {m : Int} {P : Nat} {I : ME} (hL : LTok L) (hm : cdW L m) (hP : 0 < P) (hP3 : P ≤ 3) : ∀ (r t v d : Nat) (h : gF) (J : ME) (Q : Option MV → ME → Prop), t + r = (tSz L).toNat → 70 + r ≤ d → hS L h → MX ln (Lsh L h) J → (∀ u : Nat, u < t → isT L (u : Int) → h (u : Int) = ((dgt P (rkT L t) v (rkT L u) : Nat) : Int)) → gwR (tSz L) I J → bwS ln L m P (v * P ^ (mnT L - rkT L t)) J →
    (∀ h2 J2, hS L h2 → MX ln (Lsh L h2) J2 → (∀ u : Nat, u < t → isT L (u : Int) → h2 (u : Int) = h (u : Int)) → gwR (tSz L) I J2 → bwS ln L m P ((v + 1) * P ^ (mnT L - rkT L t)) J2 → Q none J2) →
    EvM d 247 [rf 53, nt (t : Int), nt m, nt (P : Int)] J Q
  | 0, t, v, d, h, J, Q, hr, hd, hs, hM, hpre, hF, hb, hq => by
    have g := hL.f
    have ht : t = (tSz L).toNat := by omega
    have e0 : mnT L - rkT L t = 0 := by rw [ht]; unfold mnT; omega
    have eh : h = wyH L P v := by
      funext u
      by_cases w : isT L u
      · rw [wyH_t w]
        have := hpre u.toNat (by omega) (by rw [show ((u.toNat : Nat) : Int) = u by omega]; exact w)
        rw [show ((u.toNat : Nat) : Int) = u by omega] at this
        rw [this, ht]
        rfl
      · rw [wyH_f w]; exact hs.1 u w
    rw [e0, Nat.pow_zero, Nat.mul_one] at hb hq
    subst eh
    refine m247_leaf (by omega) hL hm hP hP3 hM (by omega) hb (fun J2 hF2 h54 hM2 hb2 => ?_)
    exact hq _ J2 hs hM2 (fun u _ _ => rfl) (hF.tr hF2) hb2
  | r + 1, t, v, d, h, J, Q, hr, hd, hs, hM, hpre, hF, hb, hq => by
    have g := hL.f
    have f := hM.f
    have et : iad (t : Int) 1 = ((t + 1 : Nat) : Int) := by rw [iad_e (by omega)]; rfl
    have hrec := m247 (ln := ln) (L := L) (m := m) (P := P) (I := I) hL hm hP hP3 r
    by_cases hin : hasb (tIn L) (t : Int)
    · have hrk := rkT_s hin
      have hlt : rkT L t < mnT L := rkT_lt hin (by omega)
      have hiT : isT L (t : Int) := ⟨by omega, hin⟩
      have epw : P ^ (mnT L - rkT L t) = P * P ^ (mnT L - (rkT L t + 1)) := by
        rw [show mnT L - rkT L t = (mnT L - (rkT L t + 1)) + 1 by omega, Nat.pow_succ, Nat.mul_comm]
      have loop : ∀ (q k : Nat) (h2 : gF) (K : ME), k + q = P → hS L h2 → MX ln (Lsh L h2) K → (∀ u : Nat, u < t → isT L (u : Int) → h2 (u : Int) = h (u : Int)) → gwR (tSz L) I K → bwS ln L m P ((v * P + k) * P ^ (mnT L - (rkT L t + 1))) K →
          Ev d 247 150 [some (rf 53), some (nt (t : Int)), some (nt m), some (nt (P : Int)), some (nt (k : Int)), none, none] [] K Q := by
        intro q
        induction q with
        | zero =>
          intro k h2 K hk hs2 hM2 hp2 hF2 hb2
          refine Ev.go [] (T := T_247) rfl rfl ?_
          conv => whnf
          refine brI (fun z => ?_) (fun z => ?_)
          all_goals first | (exfalso; omega) | skip
          conv => whnf
          have e : k = P := by omega
          refine ⟨trivial, hq h2 K hs2 hM2 hp2 hF2 ?_⟩
          have ee : (v * P + k) * P ^ (mnT L - (rkT L t + 1)) = (v + 1) * P ^ (mnT L - rkT L t) := by
            rw [epw, e, ← Nat.mul_assoc, Nat.add_mul v 1 P, Nat.one_mul]
          rw [← ee]
          exact hb2
        | succ q ih =>
          intro k h2 K hk hs2 hM2 hp2 hF2 hb2
          have hkp : pP (k : Int) := by omega
          have ek : iad (k : Int) 1 = ((k + 1 : Nat) : Int) := by rw [iad_e (by omega)]; rfl
          refine Ev.go [150] (T := T_247) rfl rfl ?_
          conv => whnf
          refine brI (fun z => ?_) (fun z => ?_)
          all_goals first | (exfalso; omega) | skip
          conv => whnf
          refine ⟨by omega, m241 (by omega) (by omega) ?_⟩
          conv => whnf
          refine anI (by omega) ?_
          conv => whnf
          rw [et]
          have hM3 := hM2.hand (t := (t : Int)) (by omega) (by omega) (Or.inr hkp) (k := (k : Int))
          rw [Lsh_ho] at hM3
          have hs3 := hS_fu hs2 hiT (Or.inr hkp) (k := (k : Int))
          refine ⟨by omega, hrec (t + 1) (v * P + k) (d - 1) (fu h2 (t : Int) (k : Int)) _ _ (by omega) (by omega) hs3 hM3 (fun u hu hiu => ?_) ?_ ?_ (fun h4 J4 hs4 hM4 hp4 hF4 hb4 => ?_)⟩
          · rw [hrk, dgt_x (by omega)]
            by_cases w : u = t
            · subst w
              rw [if_pos rfl, fu_eq]
            · have hult : u < t := by omega
              rw [if_neg (fun z => w (rkT_inj hiu.2 hin z)), fu_ne (by omega), hp2 u hult hiu]
              exact hpre u hult hiu
          · refine hF2.tr ⟨fun j hj => by rw [up_c (by decide)], fr_up Fr.rfl' (by decide), fun a ha => up_ne (ha (t : Int) (by omega) (by omega))⟩
          · rw [hrk]
            unfold bwS at hb2 ⊢
            rw [show upd_ K 54 (48 + 3 * (t : Int) + 1) (k : Int) 53 = K 53 from up_c (by decide), show upd_ K 54 (48 + 3 * (t : Int) + 1) (k : Int) 67 = K 67 from up_c (by decide)]
            exact hb2
          · conv => whnf
            rw [ek]
            refine ⟨trivial, ih (k + 1) h4 J4 (by omega) hs4 hM4 (fun u hu hiu => ?_) hF4 ?_⟩
            · rw [hp4 u (by omega) hiu, fu_ne (by omega)]
              exact hp2 u hu hiu
            · rw [hrk] at hb4
              exact hb4
      refine EvM.go [150] (T := T_247) rfl rfl rfl rfl ?_
      conv => whnf
      rw [f.1]
      refine brI (fun z => by exfalso; have z' : (t : Int) = tSz L := z; omega) (fun z => ?_)
      conv => whnf
      rw [f.2.1]
      refine ⟨by omega, m188 (fun _ => ?_) (fun w => absurd hin w)⟩
      conv => whnf
      refine ⟨trivial, loop P 0 h J (Nat.zero_add _) hs hM (fun u _ _ => rfl) hF ?_⟩
      rw [Nat.add_zero, Nat.mul_assoc, ← epw]
      exact hb
    · have hrk := rkT_n hin
      refine EvM.go [] (T := T_247) rfl rfl rfl rfl ?_
      conv => whnf
      rw [f.1]
      refine brI (fun z => by exfalso; have z' : (t : Int) = tSz L := z; omega) (fun z => ?_)
      conv => whnf
      rw [f.2.1]
      refine ⟨by omega, m188 (fun w => absurd w hin) (fun _ => ?_)⟩
      conv => whnf
      rw [et]
      refine ⟨by omega, hrec (t + 1) v (d - 1) h J _ (by omega) (by omega) hs hM (fun u hu hiu => ?_) hF (by rw [hrk]; exact hb) (fun h4 J4 hs4 hM4 hp4 hF4 hb4 => ?_)⟩
      · rw [hrk]
        by_cases w : u = t
        · subst w; exact absurd hiu.2 hin
        · exact hpre u (by omega) hiu
      · conv => whnf
        rw [hrk] at hb4
        exact ⟨trivial, hq h4 J4 hs4 hM4 (fun u hu hiu => hp4 u (by omega) hiu) hF4 hb4⟩
