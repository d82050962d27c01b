/-! SYNDICATES: both alike -/
def syC : List Nat := [11, 12, 13, 16, 17, 18, 19, 26, 27]
theorem x81 {d : Nat} {ln : lz_L} {L : LT} {m : Int} {I : ME} {Q : Option MV → ME → Prop} (hd : 7 ≤ d) (hC : CX ln L I) (hm : cdW L m) (h0 : I 27 0 = 0)
    (h : ∀ J, Fr syC I J → CX ln L J → J 27 0 = 0 → (∀ s : Int, 1 ≤ s → s < 64 → J 26 s = wsW ln L m s) → Q none J) : EvM d 81 [rf 24, nt m] I Q := by
  have hO := hC.2.1
  have g := hO.f
  have hN := twN_bd hO
  have inner : ∀ (r s i : Nat) (fst : Int) (J : ME) (Q' : Option MV → ME → Prop), 1 ≤ s → s + r = 64 → dwP L m (i : Int) → (∀ s : Int, 0 ≤ s → s < 64 → J 27 s = tgF ln L (i : Int) s 6) → Fr syC I J → CX ln L J → J 27 0 = 0 →
      (∀ s' : Int, 1 ≤ s' → s' < s → J 26 s' = mwF ln L m s' (i + 1)) → (fst = 1 ∧ (∀ j : Nat, j < i → ¬ dwP L m (j : Int)) ∨ fst = 0 ∧ ∀ s' : Int, s ≤ s' → s' < 64 → J 26 s' = mwF ln L m s' i) →
      (∀ (x : Int) (J : ME), Fr syC I J → CX ln L J → J 27 0 = 0 → (∀ s' : Int, 1 ≤ s' → s' < 64 → J 26 s' = mwF ln L m s' (i + 1)) → Ev d 81 95 [some (rf 24), some (nt m), some (nt fst), some (nt (i : Int)), some (nt x)] [] J Q') →
      Ev d 81 44 [some (rf 24), some (nt m), some (nt fst), some (nt (i : Int)), some (nt (s : Int))] [] J Q' := by
    intro r
    induction r with
    | zero =>
      intro s i fst J Q' hs1 hr hdw h27 hF hX h0' hdone hrest hn
      refine Ev.go [95] (T := T_81) rfl rfl ?_
      conv => whnf
      refine brI (fun z => ?_) (fun z => ?_)
      all_goals first | (exfalso; omega) | skip
      conv => whnf
      exact ⟨trivial, hn _ J hF hX h0' (fun s' a b => hdone s' a (by omega))⟩
    | succ r ih =>
      intro s i fst J Q' hs1 hr hdw h27 hF hX h0' hdone hrest hn
      have ei : iad (s : Int) 1 = ((s + 1 : Nat) : Int) := by rw [iad_e (by omega)]; rfl
      have hb := tgF_bd (ln := ln) (S := (i : Int)) (set := (s : Int)) hO 6 (Nat.le_refl _)
      have emw : mwF ln L m (s : Int) (i + 1) = if mwF ln L m (s : Int) i < tgF ln L (i : Int) (s : Int) 6 then tgF ln L (i : Int) (s : Int) 6 else mwF ln L m (s : Int) i := if_pos hdw
      have nx : ∀ V, V = mwF ln L m (s : Int) (i + 1) → Ev d 81 44 [some (rf 24), some (nt m), some (nt fst), some (nt (i : Int)), some (nt (iad (s : Int) 1))] [] (upd_ J 26 (s : Int) V) Q' := fun V hV => by
        rw [ei]
        refine ih (s + 1) i fst _ Q' (by omega) (by omega) hdw ?_ (fr_up hF (by decide)) (hX.fr (fun c hc => up_c (by omega))) ?_ ?_ ?_ hn
        · rw [up_c (by decide)]; exact h27
        · rw [up_c (by decide)]; exact h0'
        · intro s' a b
          rw [up_any]
          by_cases w : s' = (s : Int)
          · rw [if_pos w, w]; exact hV
          · rw [if_neg w]; exact hdone s' a (by omega)
        · rcases hrest with q | q
          · exact Or.inl q
          · refine Or.inr ⟨q.1, fun s' a b => ?_⟩
            rw [up_ne (by omega)]
            exact q.2 s' (by omega) b
      refine Ev.go [44] (T := T_81) rfl rfl ?_
      conv => whnf
      refine brI (fun z => ?_) (fun z => ?_)
      all_goals first | (exfalso; omega) | skip
      conv => whnf
      rcases hrest with ⟨rfl, hno⟩ | ⟨rfl, hrest⟩ <;> conv => whnf
      · refine anI (by omega) ?_
        conv => whnf
        refine anI (by omega) ?_
        conv => whnf
        refine ⟨trivial, nx _ ?_⟩
        rw [h27 _ (by omega) (by omega), emw, mwF_n i hno, if_pos (by omega)]
      · refine anI (by omega) ?_
        conv => whnf
        refine anI (by omega) ?_
        conv => whnf
        refine ltI (by omega) ?_
        conv => whnf
        refine anI (by omega) ?_
        conv => whnf
        refine ⟨trivial, nx _ ?_⟩
        rw [h27 _ (by omega) (by omega), hrest _ (Int.le_refl _) (by omega), emw]
        rfl
  have outer : ∀ (r i : Nat) (fst : Int) (x : Option MV) (J : ME), i + r = twN L → Fr syC I J → CX ln L J → J 27 0 = 0 → (fst = 1 ∧ (∀ j : Nat, j < i → ¬ dwP L m (j : Int)) ∨ fst = 0 ∧ ∀ s' : Int, 1 ≤ s' → s' < 64 → J 26 s' = mwF ln L m s' i) →
      Ev d 81 4 [some (rf 24), some (nt m), some (nt fst), some (nt (i : Int)), x] [] J Q := by
    intro r
    induction r with
    | zero =>
      intro i fst x J hr hF hX h0' hc
      have f := hX.f
      refine Ev.go [] (T := T_81) rfl rfl ?_
      conv => whnf
      refine ⟨by omega, x35 ?_⟩
      rw [f.1]
      conv => whnf
      rw [hN.2]
      refine brI (fun z => ?_) (fun z => ?_)
      all_goals first | (exfalso; omega) | skip
      conv => whnf
      have e : i = twN L := by omega
      subst e
      refine ⟨trivial, h J hF hX h0' ?_⟩
      rcases hc with ⟨-, q⟩ | ⟨-, q⟩
      · obtain ⟨S, h1, h2⟩ := dw_ex hO hm
        exact absurd h2 (q S h1)
      · exact q
    | succ r ih =>
      intro i fst x J hr hF hX h0' hc
      have f := hX.f
      have ei : iad (i : Int) 1 = ((i + 1 : Nat) : Int) := by rw [iad_e (by omega)]; rfl
      refine Ev.go [4, 44] (T := T_81) rfl rfl ?_
      conv => whnf
      refine ⟨by omega, x35 ?_⟩
      rw [f.1]
      conv => whnf
      rw [hN.2]
      refine brI (fun z => ?_) (fun z => ?_)
      all_goals first | (exfalso; omega) | skip
      conv => whnf
      refine ⟨by omega, x49 (by omega) (by omega) (by omega) (fun hp => ?_) (fun hp => ?_)⟩ <;> conv => whnf
      all_goals rw [f.2.1] at hp
      · refine ⟨by omega, x122 (by omega) hX (dw_su hO (by omega) hp) (fun J2 hF2 hX2 h19 => ?_)⟩
        conv => whnf
        refine ⟨by omega, x82 (by omega) hO (by rw [hF2 27 (by decide)]; exact h0') h19 (fun J3 hF3 h03 h27 => ?_)⟩
        conv => whnf
        have hF4 : Fr syC I J3 := (hF.tr (hF2.sub (by decide))).tr (hF3.sub (by decide))
        have hX3 : CX ln L J3 := hX2.fr (fun c hc => hF3 c (by simp; omega))
        have e26 : J3 26 = J 26 := by rw [hF3 26 (by decide), hF2 26 (by decide)]
        refine ⟨trivial, inner 63 1 i fst J3 Q (Nat.le_refl _) rfl hp h27 hF4 hX3 h03 (fun s' a b => by exfalso; omega) ?_ (fun x J5 hF5 hX5 h05 hd5 => ?_)⟩
        · rcases hc with q | q
          · exact Or.inl q
          · exact Or.inr ⟨q.1, fun s' a b => by rw [e26]; exact q.2 s' (by omega) b⟩
        · refine Ev.go [4] (T := T_81) rfl rfl ?_
          conv => whnf
          rw [ei]
          exact ⟨trivial, ih (i + 1) 0 _ J5 (by omega) hF5 hX5 h05 (Or.inr ⟨rfl, hd5⟩)⟩
      · rw [ei]
        refine ⟨trivial, ih (i + 1) fst x J (by omega) hF hX h0' ?_⟩
        rcases hc with q | q
        · refine Or.inl ⟨q.1, fun j hj => ?_⟩
          by_cases e : j = i
          · rw [e]; exact hp
          · exact q.2 j (by omega)
        · refine Or.inr ⟨q.1, fun s' a b => ?_⟩
          rw [q.2 s' a b]
          have e : mwF ln L m s' (i + 1) = mwF ln L m s' i := if_neg hp
          exact e.symm
  refine EvM.go [4] (T := T_81) rfl rfl rfl rfl ?_
  conv => whnf
  exact ⟨trivial, outer (twN L) 0 1 none I (Nat.zero_add _) Fr.rfl' hC h0 (Or.inl ⟨rfl, fun j hj => absurd hj (Nat.not_lt_zero _)⟩)⟩
theorem isl_64 {k : Int} (hk : pP k) : 1 ≤ isl 1 k ∧ isl 1 k < 64 := by
  have h : k = 0 ∨ k = 1 ∨ k = 2 ∨ k = 3 ∨ k = 4 ∨ k = 5 := by omega
  rcases h with rfl | rfl | rfl | rfl | rfl | rfl <;> decide
theorem x80 {d : Nat} {ln : lz_L} {L : LT} {m s : Int} {I : ME} {Q : Option MV → ME → Prop} (hL : LTok L) (hm : cdW L m) (hs : 1 ≤ s ∧ s < 64) (h26 : ∀ s : Int, 1 ≤ s → s < 64 → I 26 s = wsW ln L m s)
    (h1 : syK ln L m s → Q (some (nt 1)) I) (h0 : ¬ syK ln L m s → Q (some (nt 0)) I) : EvM d 80 [rf 24, nt s, nt (pI s)] I Q := by
  have hps := pI_bd s
  have loop : ∀ (r k : Nat), k + r = 6 → (∀ j : Int, 0 ≤ j → j < k → hasb s j → wsW ln L m s ≤ pI s * wsW ln L m (isl 1 j)) → Ev d 80 2 [some (rf 24), some (nt s), some (nt (pI s)), some (nt (k : Int))] [] I Q := by
    intro r
    induction r with
    | zero =>
      intro k hr hj
      refine Ev.go [] (T := T_80) rfl rfl ?_
      conv => whnf
      refine brI (fun z => ?_) (fun z => ?_)
      all_goals first | (exfalso; omega) | skip
      conv => whnf
      exact ⟨trivial, h1 (fun j a b c => hj j a (by omega) c)⟩
    | succ r ih =>
      intro k hr hj
      have hk : pP (k : Int) := by omega
      have hi := isl_64 hk
      have ei : iad (k : Int) 1 = ((k + 1 : Nat) : Int) := by rw [iad_e (by omega)]; rfl
      have b1 := wsW_bd (ln := ln) (set := isl 1 (k : Int)) hL hm
      have hmul : -(12 * 7128) ≤ pI s * wsW ln L m (isl 1 (k : Int)) ∧ pI s * wsW ln L m (isl 1 (k : Int)) ≤ 12 * 7128 := by
        have h0 : (pI s * wsW ln L m (isl 1 (k : Int))).natAbs ≤ 12 * 7128 := by
          rw [Int.natAbs_mul]
          exact Nat.mul_le_mul (by omega) (by omega)
        omega
      refine Ev.go [2] (T := T_80) rfl rfl ?_
      conv => whnf
      refine brI (fun z => ?_) (fun z => ?_)
      all_goals first | (exfalso; omega) | skip
      conv => whnf
      refine brI (fun z1 => ?_) (fun z1 => ?_) <;> conv => whnf
      · refine anI (by omega) ?_
        conv => whnf
        refine anI (by omega) ?_
        conv => whnf
        rw [h26 s hs.1 hs.2, h26 _ hi.1 hi.2, iml_e (by omega)]
        refine brI (fun z2 => ?_) (fun z2 => ?_) <;> conv => whnf
        · exact ⟨trivial, h0 (fun w => by have := w (k : Int) hk.1 hk.2 z1; omega)⟩
        · rw [ei]
          refine ⟨trivial, ih (k + 1) (by omega) (fun j a b c => ?_)⟩
          by_cases e : j = (k : Int)
          · rw [e]; omega
          · exact hj j a (by omega) c
      · rw [ei]
        refine ⟨trivial, ih (k + 1) (by omega) (fun j a b c => ?_)⟩
        by_cases e : j = (k : Int)
        · rw [e] at c; exact absurd c z1
        · exact hj j a (by omega) c
  refine EvM.go [2] (T := T_80) rfl rfl rfl rfl ?_
  conv => whnf
  exact ⟨trivial, loop 6 0 rfl (fun j a b => by exfalso; omega)⟩
theorem x79 {d : Nat} {ln : lz_L} {L : LT} {m : Int} {I : ME} {Q : Option MV → ME → Prop} (hd : 8 ≤ d) (hC : CX ln L I) (hm : cdW L m) (h0 : I 27 0 = 0)
    (h : ∀ J, Fr syC I J → CX ln L J → J 27 0 = 0 → Q (some (nt (if syF ln L m 64 = 0 then -2 else syF ln L m 64))) J) : EvM d 79 [rf 24, nt m] I Q := by
  have hO := hC.2.1
  have loop : ∀ (r s : Nat) (x : Option MV) (J : ME), 1 ≤ s → s + r = 64 → Fr syC I J → CX ln L J → J 27 0 = 0 → (∀ s : Int, 1 ≤ s → s < 64 → J 26 s = wsW ln L m s) →
      Ev d 79 13 [some (rf 24), some (nt m), some (nt (if syF ln L m s = 0 then -2 else syF ln L m s)), some (nt (if syF ln L m s = 0 then 1 else pI (syF ln L m s))), some (nt (s : Int)), x] [] J Q := by
    intro r
    induction r with
    | zero =>
      intro s x J hs1 hr hF hX h0' h26
      refine Ev.go [] (T := T_79) rfl rfl ?_
      conv => whnf
      refine brI (fun z => ?_) (fun z => ?_)
      all_goals first | (exfalso; omega) | skip
      conv => whnf
      have e : s = 64 := by omega
      subst e
      exact ⟨trivial, h J hF hX h0'⟩
    | succ r ih =>
      intro s x J hs1 hr hF hX h0' h26
      have ei : iad (s : Int) 1 = ((s + 1 : Nat) : Int) := by rw [iad_e (by omega)]; rfl
      have hsp := syF_p (ln := ln) (L := L) (m := m) s
      have hcond : (1 < pI (s : Int) ∧ pI (syF ln L m s) < pI (s : Int)) ↔ (if syF ln L m s = 0 then 1 else pI (syF ln L m s)) < pI (s : Int) := by
        by_cases w : syF ln L m s = 0
        · rw [if_pos w, w, pI_0]; omega
        · rw [if_neg w]
          have := (hsp.resolve_left w).2.2
          omega
      have same : ∀ x, (¬ (1 < pI (s : Int) ∧ pI (syF ln L m s) < pI (s : Int) ∧ syK ln L m (s : Int))) → Ev d 79 13 [some (rf 24), some (nt m), some (nt (if syF ln L m s = 0 then -2 else syF ln L m s)), some (nt (if syF ln L m s = 0 then 1 else pI (syF ln L m s))), some (nt (iad (s : Int) 1)), x] [] J Q := fun x hn => by
        have := ih (s + 1) x J (by omega) (by omega) hF hX h0' h26
        rw [syF_f hn] at this
        rw [ei]
        exact this
      refine Ev.go [13] (T := T_79) rfl rfl ?_
      conv => whnf
      refine brI (fun z => ?_) (fun z => ?_)
      all_goals first | (exfalso; omega) | skip
      conv => whnf
      refine ⟨by omega, x295p (by omega) (by omega) ?_⟩
      conv => whnf
      refine brI (fun z1 => ?_) (fun z1 => ?_) <;> conv => whnf
      · have hc := hcond.mpr z1
        refine ⟨by omega, x80 hO hm (by omega) h26 (fun hK => ?_) (fun hK => ?_)⟩ <;> conv => whnf
        · have := ih (s + 1) (some (nt (pI (s : Int)))) J (by omega) (by omega) hF hX h0' h26
          rw [syF_t ⟨hc.1, hc.2, hK⟩, if_neg (by omega), if_neg (by omega)] at this
          rw [ei]
          exact ⟨trivial, this⟩
        · exact ⟨trivial, same _ (fun w => hK w.2.2)⟩
      · exact ⟨trivial, same _ (fun w => z1 (hcond.mp ⟨w.1, w.2.1⟩))⟩
  refine EvM.go [13] (T := T_79) rfl rfl rfl rfl ?_
  conv => whnf
  refine ⟨by omega, x81 (by omega) hC hm h0 (fun J hF hX h0' h26 => ?_)⟩
  conv => whnf
  have e1 : syF ln L m 1 = 0 := by
    rw [syF_f]
    · rfl
    · intro w
      have := w.1
      rw [show ((0 : Nat) : Int) = 0 from rfl, pI_0] at this
      omega
  have := loop 63 1 none J (Nat.le_refl _) rfl hF hX h0' h26
  rw [e1, if_pos rfl, if_pos rfl] at this
  exact ⟨trivial, this⟩
noncomputable def leF (ln : lz_L) (L : LT) (m s : Int) : Nat → Int
  | 0 => 998001
  | p + 1 => if hasb s (p : Int) ∧ wsW ln L m (isl 1 (p : Int)) < leF ln L m s p then wsW ln L m (isl 1 (p : Int)) else leF ln L m s p
theorem leF_p {ln : lz_L} {L : LT} {m s : Int} : ∀ p : Nat, (∀ k : Int, 0 ≤ k → k < p → hasb s k → leF ln L m s p ≤ wsW ln L m (isl 1 k)) ∧ (leF ln L m s p = 998001 ∨ ∃ k : Int, 0 ≤ k ∧ k < p ∧ hasb s k ∧ leF ln L m s p = wsW ln L m (isl 1 k))
  | 0 => ⟨fun k a b => by exfalso; omega, Or.inl rfl⟩
  | p + 1 => by
    obtain ⟨ih1, ih2⟩ := leF_p (ln := ln) (L := L) (m := m) (s := s) p
    unfold leF
    by_cases h : hasb s (p : Int) ∧ wsW ln L m (isl 1 (p : Int)) < leF ln L m s p
    · rw [if_pos h]
      refine ⟨fun k a b c => ?_, Or.inr ⟨(p : Int), by omega, by omega, h.1, rfl⟩⟩
      by_cases e : k = (p : Int)
      · rw [e]; exact Int.le_refl _
      · have := ih1 k a (by omega) c; have := h.2; omega
    · rw [if_neg h]
      refine ⟨fun k a b c => ?_, ?_⟩
      · by_cases e : k = (p : Int)
        · rw [e] at c ⊢; exact Int.not_lt.mp (fun w => h ⟨c, w⟩)
        · exact ih1 k a (by omega) c
      · rcases ih2 with q | ⟨k, a, b, c⟩
        · exact Or.inl q
        · exact Or.inr ⟨k, a, by omega, c⟩
theorem le_sy {ln : lz_L} {L : LT} {m s : Int} (hL : LTok L) (hm : cdW L m) (hs : 0 ≤ s ∧ s < 64) (hp : 1 < pI s) : (-7128 ≤ leF ln L m s 6 ∧ leF ln L m s 6 ≤ 7128) ∧ (wsW ln L m s ≤ leF ln L m s 6 * pI s ↔ syK ln L m s) := by
  obtain ⟨h1, h2⟩ := leF_p (ln := ln) (L := L) (m := m) (s := s) 6
  have hex : ∃ k : Int, 0 ≤ k ∧ k < 6 ∧ hasb s k := by
    refine Classical.byContradiction (fun w => ?_)
    have := pI_top (s := s) (n := 0) (by omega) (by omega) (by omega) (by omega) (fun u u0 u1 q => by
      by_cases h6 : u < 6
      · exact w ⟨u, u0, h6, q⟩
      · rw [hb_iff (by omega) (by omega) u0 (by omega), Nat.testBit_lt_two_pow (Nat.lt_of_lt_of_le (show s.toNat < 2 ^ 6 by omega) (Nat.pow_le_pow_right (by decide) (by omega)))] at q
        exact Bool.noConfusion q)
    omega
  obtain ⟨k0, a0, b0, c0⟩ := hex
  have hle := h1 k0 a0 (by omega) c0
  have hb0 := wsW_bd (ln := ln) (set := isl 1 k0) hL hm
  rcases h2 with q | ⟨k, a, b, c, e⟩
  · exfalso; omega
  · have hb := wsW_bd (ln := ln) (set := isl 1 k) hL hm
    refine ⟨by omega, ?_⟩
    rw [e]
    constructor
    · intro w j a1 b1 c1
      have hj := h1 j a1 (by omega) c1
      rw [e] at hj
      have := Int.mul_le_mul_of_nonneg_right hj (show 0 ≤ pI s by omega)
      have e2 : wsW ln L m (isl 1 j) * pI s = pI s * wsW ln L m (isl 1 j) := Int.mul_comm _ _
      omega
    · intro w
      have := w k a (by omega) c
      have e2 : wsW ln L m (isl 1 k) * pI s = pI s * wsW ln L m (isl 1 k) := Int.mul_comm _ _
      omega
theorem m250 {d : Nat} {ln : lz_L} {L : LT} {set m : Int} {I : ME} {Q : Option MV → ME → Prop} (hd : 66 ≤ d) (hC : MX ln L I) (h : ∀ J, drM I J → Q (some (nt (wsW ln L m set))) J) : EvM d 250 [rf 53, nt set, nt m] I Q := by
  have hO := hC.1
  have g := hO.f
  have hN := twN_bd hO
  have sumL : ∀ (r p i : Nat) (most : Int) (J : ME) (Q' : Option MV → ME → Prop), p + r = 6 → (∀ p, pP p → J 63 p = lsS ln L p (i : Int)) →
      Ev d 250 89 [some (rf 53), some (nt set), some (nt m), some (nt most), some (nt (i : Int)), some (nt (tgF ln L (i : Int) set 6)), some (nt ((6 : Nat) : Int))] [] J Q' →
      Ev d 250 51 [some (rf 53), some (nt set), some (nt m), some (nt most), some (nt (i : Int)), some (nt (tgF ln L (i : Int) set p)), some (nt (p : Int))] [] J Q' := by
    intro r
    induction r with
    | zero =>
      intro p i most J Q' hr h63 hn
      refine Ev.go [89] (T := T_250) rfl rfl ?_
      conv => whnf
      refine brI (fun z => ?_) (fun z => ?_)
      all_goals first | (exfalso; omega) | skip
      conv => whnf
      have e : p = 6 := by omega
      subst e
      exact ⟨trivial, hn⟩
    | succ r ih =>
      intro p i most J Q' hr h63 hn
      have hp : pP (p : Int) := by omega
      have ei : iad (p : Int) 1 = ((p + 1 : Nat) : Int) := by rw [iad_e (by omega)]; rfl
      have b1 := tgF_bd (ln := ln) (S := (i : Int)) (set := set) hO p (by omega)
      have b2 := lsS_bd (ln := ln) (S := (i : Int)) hO hp
      have e1 : tgF ln L (i : Int) set (p + 1) = tgF ln L (i : Int) set p + (if hasb set (p : Int) then lsS ln L (p : Int) (i : Int) else 0) := rfl
      have nx := ih (p + 1) i most J Q' (by omega) h63 hn
      rw [e1] at nx
      refine Ev.go [51] (T := T_250) rfl rfl ?_
      conv => whnf
      refine brI (fun z => ?_) (fun z => ?_)
      all_goals first | (exfalso; omega) | skip
      conv => whnf
      refine ⟨by omega, m188 (fun q => ?_) (fun q => ?_)⟩ <;> conv => whnf
      · refine anI (by omega) ?_
        conv => whnf
        rw [if_pos q] at nx
        rw [h63 _ hp, ei, iad_e (by omega)]
        exact ⟨trivial, nx⟩
      · rw [if_neg q] at nx
        rw [ei, iad_e (by omega)]
        exact ⟨trivial, nx⟩
  have loop : ∀ (r i : Nat) (x y : Option MV) (J : ME), i + r = twN L → drM I J → Ev d 250 6 [some (rf 53), some (nt set), some (nt m), some (nt (mwF ln L m set i)), some (nt (i : Int)), x, y] [] J Q := by
    intro r
    induction r with
    | zero =>
      intro i x y J hr hF
      have f := (hC.dr hF).f
      refine Ev.go [] (T := T_250) rfl rfl ?_
      conv => whnf
      rw [f.1, hN.2]
      refine brI (fun z => ?_) (fun z => ?_)
      all_goals first | (exfalso; omega) | skip
      conv => whnf
      have e : i = twN L := by omega
      subst e
      exact ⟨trivial, h J hF⟩
    | succ r ih =>
      intro i x y J hr hF
      have hX := hC.dr hF
      have f := hX.f
      have ei : iad (i : Int) 1 = ((i + 1 : Nat) : Int) := by rw [iad_e (by omega)]; rfl
      have same : ∀ x y, (¬ dwP L m (i : Int)) → Ev d 250 6 [some (rf 53), some (nt set), some (nt m), some (nt (mwF ln L m set i)), some (nt (iad (i : Int) 1)), x, y] [] J Q := fun x y hn => by
        have e : mwF ln L m set (i + 1) = mwF ln L m set i := if_neg hn
        have := ih (i + 1) x y J (by omega) hF
        rw [e] at this
        rw [ei]
        exact this
      refine Ev.go [6, 51] (T := T_250) rfl rfl ?_
      conv => whnf
      rw [f.1, hN.2]
      refine brI (fun z => ?_) (fun z => ?_)
      all_goals first | (exfalso; omega) | skip
      conv => whnf
      refine ⟨by omega, m227 (fun z1 => ?_) (fun z1 => ?_)⟩ <;> conv => whnf
      all_goals rw [f.2.1] at z1
      · refine ⟨by omega, m189p (by omega) (by omega) ?_⟩
        conv => whnf
        refine brI (fun z2 => ?_) (fun z2 => ?_) <;> conv => whnf
        · have hp : dwP L m (i : Int) := ⟨z1.2, by omega⟩
          rw [f.2.1]
          refine ⟨by omega, m226 (by omega) hX (suB.self hO) (dw_su hO (by omega) hp) (fun J2 hF2 hp2 => ?_)⟩
          conv => whnf
          have emw : mwF ln L m set (i + 1) = if mwF ln L m set i < tgF ln L (i : Int) set 6 then tgF ln L (i : Int) set 6 else mwF ln L m set i := if_pos hp
          refine ⟨trivial, sumL 6 0 i (mwF ln L m set i) J2 Q rfl (fun p q => by rw [hp2 p q, lsI_in]) ?_⟩
          refine Ev.go [6] (T := T_250) rfl rfl ?_
          conv => whnf
          refine brI (fun z3 => ?_) (fun z3 => ?_) <;> conv => whnf
          · rw [if_pos z3] at emw
            have := ih (i + 1) (some (nt (tgF ln L (i : Int) set 6))) (some (nt ((6 : Nat) : Int))) J2 (by omega) (hF.tr hF2)
            rw [emw] at this
            rw [ei]
            exact ⟨trivial, this⟩
          · rw [if_neg z3] at emw
            have := ih (i + 1) (some (nt (tgF ln L (i : Int) set 6))) (some (nt ((6 : Nat) : Int))) J2 (by omega) (hF.tr hF2)
            rw [emw] at this
            rw [ei]
            exact ⟨trivial, this⟩
        · exact ⟨trivial, same _ _ (fun w => z2 w.2)⟩
      · exact ⟨trivial, same _ _ (fun w => z1 ⟨by omega, w.1⟩)⟩
  refine EvM.go [6] (T := T_250) rfl rfl rfl rfl ?_
  conv => whnf
  exact ⟨trivial, loop (twN L) 0 none none I (Nat.zero_add _) drM.rfl'⟩
