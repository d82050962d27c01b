/-! GIVEN: whom a ticket hurts least -/
/-- the first of the least -/
def amF (f : Int → Int) : Nat → Int
  | 0 => -1
  | k + 1 => if amF f k = -1 ∨ f (k : Int) < f (amF f k) then (k : Int) else amF f k
theorem amF_bd {f : Int → Int} : ∀ k : Nat, -1 ≤ amF f k ∧ amF f k < k ∧ (1 ≤ k → 0 ≤ amF f k)
  | 0 => by refine ⟨Int.le_refl _, ?_, fun z => by omega⟩; show (-1 : Int) < 0; omega
  | k + 1 => by
    have ih := amF_bd (f := f) k
    unfold amF
    split
    · exact ⟨by omega, by omega, fun _ => by omega⟩
    · rename_i q
      refine ⟨ih.1, by omega, fun _ => ?_⟩
      have := ih.1
      have h2 : amF f k ≠ -1 := fun z => q (Or.inl z)
      omega
noncomputable def gvF (ln : lz_L) (L : LT) (t m k : Int) : Int := smL_ ln (Lho L t k) m
noncomputable def F12 (t m p : Int) (ln : lz_L) (L : LT) : Int := if (0 ≤ t ∧ t < tSz L) ∧ hasb (tIn L) t ∧ cdW L m ∧ 0 ≤ p ∧ p ≤ 2 then (if p = 2 then amF (gvF ln L t m) 6 else frI (gvF ln L t m (amF (gvF ln L t m) 6)) (wyI (pI (tIn L)) m) p) else NoF
theorem gvF_bd {ln : lz_L} {L : LT} {t m k : Int} (hL : LTok L) (ht : 0 ≤ t ∧ t < tSz L) (hk : pH k) : -29196288 ≤ gvF ln L t m k ∧ gvF ln L t m k ≤ 29196288 := smL_bd (Lho.ok hL ht.1 (by have := hL.f; omega) hk)
theorem x69 {d : Nat} {ln : lz_L} {L : LT} {t m : Int} {I : ME} {Q : Option MV → ME → Prop} (hd : 9 ≤ d) (hC : CX ln L I) (ht : 0 ≤ t ∧ t < tSz L) (hm : cdW L m)
    (h : ∀ J, Fr [11, 12, 13, 20, 21, 22, 23, 24] I J → CX ln L J → J 24 12 = gvF ln L t m (amF (gvF ln L t m) 6) → Q (some (nt (amF (gvF ln L t m) 6))) J) : EvM d 69 [rf 24, nt t, nt m] I Q := by
  have hO := hC.2.1
  have g := hO.f
  have hpI := pI_bd (tIn L)
  have hTt := hO.t ht.1 (by omega)
  have loop : ∀ (r k : Nat) (x : Option MV) (k0 : Int) (J : ME), k + r = 6 → pH k0 → Fr [4, 11, 12, 13, 20, 21, 22, 23, 24] I J → CX ln (Lho L t k0) J → (1 ≤ k → J 24 12 = gvF ln L t m (amF (gvF ln L t m) k)) →
      Ev d 69 15 [some (rf 24), some (nt t), some (nt m), some (nt (tHo L t)), some (nt (amF (gvF ln L t m) k)), some (nt (k : Int)), x] [] J Q := by
    intro r
    induction r with
    | zero =>
      intro k x k0 J hr hk0 hF hX hl
      refine Ev.go [] (T := T_69) rfl rfl ?_
      conv => whnf
      refine brI (fun z => ?_) (fun z => ?_)
      all_goals first | (exfalso; omega) | skip
      conv => whnf
      refine ⟨by omega, x45L (by omega) hX ht hTt.2.1 (fun hX2 => ?_)⟩
      rw [Lho_bk rfl] at hX2
      conv => whnf
      have e : k = 6 := by omega
      subst e
      refine ⟨trivial, h _ (Fr.back (fr_up hF (by decide)) ?_) hX2 ?_⟩
      · rw [hX2.f.2.2.2.2.2.1, hC.f.2.2.2.2.2.1]
      · rw [up_c (by decide)]; exact hl (by omega)
    | succ r ih =>
      intro k x k0 J hr hk0 hF hX hl
      have hk : pP (k : Int) := by omega
      have hb := amF_bd (f := gvF ln L t m) k
      have ei : iad (k : Int) 1 = ((k + 1 : Nat) : Int) := by rw [iad_e (by omega)]; rfl
      refine Ev.go [15] (T := T_69) rfl rfl ?_
      conv => whnf
      refine brI (fun z => ?_) (fun z => ?_)
      all_goals first | (exfalso; omega) | skip
      conv => whnf
      refine ⟨by omega, x45L (by omega) hX ht (Or.inr hk) (fun hX2 => ?_)⟩
      rw [Lho_2] at hX2
      conv => whnf
      refine ⟨by omega, x62 (by omega) hX2 ⟨hm.1, by have := hm.2; omega⟩ (fun J2 hF2 hX3 => ?_)⟩
      conv => whnf
      have hF3 : Fr [4, 11, 12, 13, 20, 21, 22, 23, 24] I J2 := (fr_up hF (by decide)).tr (hF2.sub (by decide))
      have e12 : J2 24 = J 24 := by rw [hF2 24 (by decide), up_c (by decide)]
      have new : ∀ x, (amF (gvF ln L t m) k = -1 ∨ gvF ln L t m (k : Int) < gvF ln L t m (amF (gvF ln L t m) k)) → Ev d 69 15 [some (rf 24), some (nt t), some (nt m), some (nt (tHo L t)), some (nt (k : Int)), some (nt (iad (k : Int) 1)), x] [] (upd_ J2 24 12 (smL_ ln (Lho L t (k : Int)) m)) Q := fun x hc => by
        have e : amF (gvF ln L t m) (k + 1) = (k : Int) := if_pos hc
        rw [ei]
        have := ih (k + 1) x (k : Int) (upd_ J2 24 12 (smL_ ln (Lho L t (k : Int)) m)) (by omega) (Or.inr hk) (fr_up hF3 (by decide)) (hX3.fr (fun c hc => up_c (by omega))) (fun _ => by rw [up_eq, e]; rfl)
        rw [e] at this
        exact this
      refine brI (fun z1 => ?_) (fun z1 => ?_) <;> conv => whnf
      · exact ⟨trivial, new _ (Or.inl z1)⟩
      · have hl := hl (by have := hb.2.1; have := hb.1; omega)
        rw [e12, hl]
        refine brI (fun z2 => ?_) (fun z2 => ?_) <;> conv => whnf
        · exact ⟨trivial, new _ (Or.inr z2)⟩
        · have e : amF (gvF ln L t m) (k + 1) = amF (gvF ln L t m) k := if_neg (fun w => w.elim z1 z2)
          rw [ei]
          have := ih (k + 1) (some (nt (smL_ ln (Lho L t (k : Int)) m))) (k : Int) J2 (by omega) (Or.inr hk) hF3 hX3 (fun _ => by rw [e12, e]; exact hl)
          rw [e] at this
          exact ⟨trivial, this⟩
  refine EvM.go [15] (T := T_69) rfl rfl rfl rfl ?_
  conv => whnf
  refine ⟨by omega, x44L (by omega) hC ht ?_⟩
  conv => whnf
  exact ⟨trivial, loop 6 0 none (tHo L t) I rfl hTt.2.1 Fr.rfl' (by rw [Lho_id]; exact hC) (fun z => by omega)⟩
theorem x67 {d : Nat} {I : ME} {Q : Option MV → ME → Prop} (h : Q (some (nt (I 24 12))) I) : EvM d 67 [rf 24] I Q := by
  refine EvM.go [] (T := T_67) rfl rfl rfl rfl ?_
  conv => whnf
  exact ⟨trivial, h⟩
theorem m243_loop {d : Nat} {ln : lz_L} {L : LT} {t m p : Int} {I : ME} {Q : Option MV → ME → Prop} (hd : 67 ≤ d) (hC : MX ln L I) (ht : 0 ≤ t ∧ t < tSz L) (hm : cdW L m) (hp : 0 ≤ p ∧ p ≤ 2)
    (h : ∀ J, mF I J → Q (some (lg (if p = 2 then amF (gvF ln L t m) 6 else frI (gvF ln L t m (amF (gvF ln L t m) 6)) (wyI (pI (tIn L)) m) p))) J) :
    Ev d 243 60 [some (rf 53), some (nt t), some (nt m), some (nt p), some (nt (tHo L t)), some (nt (-1)), some (lg 0), none, some (nt 0)] [] I Q := by
  have hO := hC.1
  have g := hO.f
  have hpI := pI_bd (tIn L)
  have ht12 : t < 12 := by omega
  have hTt := hO.t ht.1 ht12
  have gT := hC.t ht.1 ht12
  have loop : ∀ (r k : Nat) (le : Int) (k0 : Int) (J : ME), k + r = 6 → pH k0 → mF (upd_ I 54 (48 + 3 * t + 1) k0) J → (1 ≤ k → le = gvF ln L t m (amF (gvF ln L t m) k) ∧ J 53 26 = wyI (pI (tIn L)) m) →
      Ev d 243 60 [some (rf 53), some (nt t), some (nt m), some (nt p), some (nt (tHo L t)), some (nt (amF (gvF ln L t m) k)), some (lg le), none, some (nt (k : Int))] [] J Q := by
    intro r
    induction r with
    | zero =>
      intro k le k0 J hr hk0 hF hl
      have hl := hl (by omega)
      refine Ev.go [] (T := T_243) rfl rfl ?_
      conv => whnf
      refine brI (fun z => ?_) (fun z => ?_)
      all_goals first | (exfalso; omega) | skip
      conv => whnf
      refine ⟨by omega, m241 ht.1 ht12 ?_⟩
      conv => whnf
      refine anI (by omega) ?_
      conv => whnf
      have e : k = 6 := by omega
      subst e
      have hJ := h _ (mF.put hF gT.2.1)
      refine brI (fun z => ?_) (fun z => ?_) <;> conv => whnf
      · rw [if_pos z] at hJ; exact ⟨trivial, hJ⟩
      · rw [if_neg z] at hJ
        rw [show upd_ J 54 (48 + 3 * t + 1) (tHo L t) 53 = J 53 from up_c (by decide), hl.2, hl.1]
        have hb := amF_bd (f := gvF ln L t m) 6
        have hb0 := hb.2.2 (by omega)
        have b1 := gvF_bd (ln := ln) (m := m) hO ht (k := amF (gvF ln L t m) 6) (Or.inr ⟨hb0, by omega⟩)
        have hw := wyI_pos hpI.2 hm.1 hm.2
        have hw2 := wyI_bd (n := pI (tIn L)) (k := m) hpI.1 hpI.2
        refine ⟨by omega, m235 (by omega) (by omega) (by omega) (by omega) ?_⟩
        conv => whnf
        exact ⟨trivial, hJ⟩
    | succ r ih =>
      intro k le k0 J hr hk0 hF hl
      have hk : pP (k : Int) := by omega
      have hb := amF_bd (f := gvF ln L t m) k
      have ei : iad (k : Int) 1 = ((k + 1 : Nat) : Int) := by rw [iad_e (by omega)]; rfl
      have hM := (hC.hand ht.1 ht12 hk0).mf hF
      refine Ev.go [60] (T := T_243) rfl rfl ?_
      conv => whnf
      refine brI (fun z => ?_) (fun z => ?_)
      all_goals first | (exfalso; omega) | skip
      conv => whnf
      refine ⟨by omega, m241 ht.1 ht12 ?_⟩
      conv => whnf
      refine anI (by omega) ?_
      conv => whnf
      have hM2 := hM.hand ht.1 ht12 (Or.inr hk) (k := (k : Int))
      rw [Lho_2] at hM2
      rw [show upd_ J 54 (48 + 3 * t + 1) (k : Int) 53 = J 53 from up_c (by decide), hM.f.2.1, show tIn (Lho L t k0) = tIn (Lho L t (k : Int)) from rfl]
      refine ⟨by omega, m232L (by omega) hM2 hm (fun J2 hF2 h26 h65 => ?_)⟩
      conv => whnf
      have hF3 : mF (upd_ I 54 (48 + 3 * t + 1) (k : Int)) J2 := by
        refine mF.tr ?_ hF2.mF
        refine ⟨fun j hj => ?_, fun c hc => ?_⟩
        · rw [up_c (by decide), hF.1 j hj, up_c (by decide), up_c (by decide)]
        · by_cases w : c = 54
          · subst w
            rw [up_g, hF.2 54 (by decide), up_g, fu_fu, up_g]
          · rw [up_c w, hF.2 c hc, up_c w, up_c w]
      have new : (amF (gvF ln L t m) k = -1 ∨ gvF ln L t m (k : Int) < gvF ln L t m (amF (gvF ln L t m) k)) → Ev d 243 60 [some (rf 53), some (nt t), some (nt m), some (nt p), some (nt (tHo L t)), some (nt (k : Int)), some (lg (smL_ ln (Lho L t (k : Int)) m)), none, some (nt (iad (k : Int) 1))] [] J2 Q := fun hc => by
        have e : amF (gvF ln L t m) (k + 1) = (k : Int) := if_pos hc
        rw [ei]
        have := ih (k + 1) (smL_ ln (Lho L t (k : Int)) m) (k : Int) J2 (by omega) (Or.inr hk) hF3 (fun _ => ⟨by rw [e]; rfl, h26⟩)
        rw [e] at this
        exact this
      refine brI (fun z1 => ?_) (fun z1 => ?_) <;> conv => whnf
      · refine ⟨by omega, m233L (Lho.ok hO ht.1 ht12 (Or.inr hk)) h65 ?_⟩
        conv => whnf
        exact ⟨trivial, new (Or.inl (by omega))⟩
      · have hl := hl (by omega)
        refine ⟨by omega, m233L (Lho.ok hO ht.1 ht12 (Or.inr hk)) h65 ?_⟩
        conv => whnf
        refine brI (fun z2 => ?_) (fun z2 => ?_) <;> conv => whnf
        all_goals rw [lcm_lt, hl.1] at z2
        · refine ⟨by omega, m233L (Lho.ok hO ht.1 ht12 (Or.inr hk)) h65 ?_⟩
          conv => whnf
          exact ⟨trivial, new (Or.inr z2)⟩
        · have e : amF (gvF ln L t m) (k + 1) = amF (gvF ln L t m) k := if_neg (fun w => w.elim (fun w => by omega) z2)
          rw [ei]
          have := ih (k + 1) le (k : Int) J2 (by omega) (Or.inr hk) hF3 (fun _ => ⟨by rw [e]; exact hl.1, h26⟩)
          rw [e] at this
          exact ⟨trivial, this⟩
  exact loop 6 0 0 (tHo L t) I rfl hTt.2.1 (by rw [up_id gT.2.1]; exact ⟨fun _ _ => rfl, Fr.rfl'⟩) (fun z => by omega)
theorem op12 {t m p : Int} : Op3 142 243 [nt t, nt m, nt p] lg := by
  refine Op3.mk (F := F12 t m p) (fun ln L I Q hX h27 h => ?_) (fun ln L I Q hM h => ?_)
  · have f := hX.f
    have hO := hX.2.1
    have g := hO.f
    have hpI := pI_bd (tIn L)
    have no : ∀ J, Fr scC I J → CX ln L J → J 27 0 = 0 → (¬ ((0 ≤ t ∧ t < tSz L) ∧ hasb (tIn L) t ∧ cdW L m ∧ 0 ≤ p ∧ p ≤ 2)) → Q (some (lg (-9223372036854775808))) J := fun J hF hX2 hJ hn => by
      have := h J hF hX2 hJ
      unfold F12 at this
      rw [if_neg hn] at this
      exact this
    refine EvM.go [] (T := T_142) rfl rfl rfl rfl ?_
    conv => whnf
    refine ⟨by omega, x37L (by omega) hX (fun ht => ?_) (fun ht => ?_)⟩ <;> conv => whnf
    · refine ⟨by omega, x47 (by omega) (by omega) (by omega) (fun hm => ?_) (fun hm => ?_)⟩ <;> conv => whnf
      all_goals rw [f.2.1] at hm
      · refine brI (fun z => ?_) (fun z => ?_) <;> conv => whnf
        · exact ⟨trivial, no I Fr.rfl' hX h27 (fun r => by omega)⟩
        · refine brI (fun z1 => ?_) (fun z1 => ?_) <;> conv => whnf
          · exact ⟨trivial, no I Fr.rfl' hX h27 (fun r => by omega)⟩
          · have hp : 0 ≤ p ∧ p ≤ 2 := by omega
            refine ⟨by omega, x69 (by omega) hX ht.1 hm (fun J hF hX2 hl => ?_)⟩
            conv => whnf
            have f2 := hX2.f
            have h27' : J 27 0 = 0 := by rw [hF 27 (by decide)]; exact h27
            have hJ := h J (hF.sub (by decide)) hX2 h27'
            unfold F12 at hJ
            rw [if_pos ⟨ht.1, ht.2, hm, hp⟩] at hJ
            refine brI (fun z2 => ?_) (fun z2 => ?_) <;> conv => whnf
            · rw [if_pos z2] at hJ; exact ⟨trivial, hJ⟩
            · rw [if_neg z2] at hJ
              refine ⟨by omega, x67 ?_⟩
              rw [hl]
              conv => whnf
              refine ⟨by omega, x48 (by omega) (by omega) (by omega) ?_⟩
              rw [f2.2.1]
              conv => whnf
              have hb := amF_bd (f := gvF ln L t m) 6
              have hb0 := hb.2.2 (by omega)
              have b1 := gvF_bd (ln := ln) (m := m) hO ht.1 (k := amF (gvF ln L t m) 6) (Or.inr ⟨hb0, by omega⟩)
              have hw := wyI_pos hpI.2 hm.1 hm.2
              have hw2 := wyI_bd (n := pI (tIn L)) (k := m) hpI.1 hpI.2
              refine ⟨by omega, x184 (by omega) (by omega) (by omega) (fun hp2 => absurd (show 0 ≤ p ∧ p ≤ 1 by omega) hp2) (fun hp2 => ?_)⟩
              conv => whnf
              exact ⟨trivial, hJ⟩
      · exact ⟨trivial, no I Fr.rfl' hX h27 (fun r => hm r.2.2.1)⟩
    · exact ⟨trivial, no I Fr.rfl' hX h27 (fun r => ht ⟨r.1, r.2.1⟩)⟩
  · have f := hM.f
    have hO := hM.1
    have g := hO.f
    have no : (¬ ((0 ≤ t ∧ t < tSz L) ∧ hasb (tIn L) t ∧ cdW L m ∧ 0 ≤ p ∧ p ≤ 2)) → Q (some (lg (-9223372036854775808))) I := fun hn => by
      have := h I ⟨fun _ _ => rfl, Fr.rfl'⟩
      unfold F12 at this
      rw [if_neg hn] at this
      exact this
    refine EvM.go [60] (T := T_243) rfl rfl rfl rfl ?_
    conv => whnf
    refine ⟨by omega, m194 (by omega) (by omega) (by omega) (fun ht => ?_) (fun ht => ?_)⟩ <;> conv => whnf
    all_goals unfold tkM at ht
    all_goals rw [f.1] at ht
    · refine ⟨by omega, m188 (fun hin => ?_) (fun hin => ?_)⟩ <;> conv => whnf
      all_goals rw [f.2.1] at hin
      · refine ⟨by omega, m229 (by omega) (by omega) (by omega) (fun hm => ?_) (fun hm => ?_)⟩ <;> conv => whnf
        all_goals rw [f.2.1] at hm
        · refine ⟨by omega, m187 (fun hp => ?_) (fun hp => ?_)⟩ <;> conv => whnf
          · have ht12 : t < 12 := by omega
            refine ⟨by omega, m198 ht.1 ht12 ?_⟩
            rw [(hM.t ht.1 ht12).2.1]
            conv => whnf
            refine ⟨trivial, m243_loop (by omega) hM ht hm hp (fun J hF => ?_)⟩
            have := h J hF
            unfold F12 at this
            rw [if_pos ⟨ht, hin, hm, hp⟩] at this
            exact this
          · exact ⟨trivial, no (fun r => hp r.2.2.2)⟩
        · exact ⟨trivial, no (fun r => hm r.2.2.1)⟩
      · exact ⟨trivial, no (fun r => hin r.2.1)⟩
    · exact ⟨trivial, no (fun r => ht r.1)⟩
