/-! WHOSE a ticket was -/
noncomputable def whL (ln : lz_L) (L : LT) (g : Int → Int) (n t one k : Int) : Int := (sqP ln (Lho L t k) g (seF (Lho L t k) g n.toNat 0).1 one).2
noncomputable def whF (ln : lz_L) (L : LT) (g : Int → Int) (n t one x : Int) : Nat → Int
  | 0 => 0
  | k + 1 => if whL ln L g n t one (k : Int) = x then iro (whF ln L g n t one x k) (isl 1 (k : Int)) else whF ln L g n t one x k
theorem whF_b {ln : lz_L} {L : LT} {g : Int → Int} {n t one x : Int} : ∀ k : Nat, k ≤ 6 → 0 ≤ whF ln L g n t one x k ∧ whF ln L g n t one x k < 4096
  | 0, _ => ⟨Int.le_refl 0, by show (0 : Int) < 4096; omega⟩
  | k + 1, hk => by
    have ih := whF_b (ln := ln) (L := L) (g := g) (n := n) (t := t) (one := one) (x := x) k (by omega)
    have i1 := isl_b (t := (k : Int)) (by omega) (by omega)
    unfold whF
    split
    · exact (iro_b ih.1 ih.2 (by omega) (by omega)).1
    · exact ih
theorem x182 {d : Nat} {ln : lz_L} {L : LT} {s n t one x : Int} {g : Int → Int} {I : ME} {Q : Option MV → ME → Prop} (hd : 8 ≤ d) (hC : CX ln L I) (ht : 0 ≤ t ∧ t < tSz L) (h1 : pP one) (hr : rwX s n g I)
    (h : ∀ J, Fr [11, 12, 13, 16, 17, 18, 19] I J → CX ln L J → Q (some (nt (whF ln L g n t one x 6))) J) : EvM d 182 [rf 0, nt t, nt s, nt one, nt x] I Q := by
  have hO := hC.2.1
  have gg := hO.f
  have hTt := hO.t ht.1 (by omega)
  have loop : ∀ (r k : Nat) (k0 : Int) (J : ME), k + r = 6 → pH k0 → Fr [4, 11, 12, 13, 16, 17, 18, 19] I J → CX ln (Lho L t k0) J → Ev d 182 16 [some (rf 0), some (nt t), some (nt s), some (nt one), some (nt x), some (nt (tHo L t)), some (nt (whF ln L g n t one x k)), some (nt (k : Int))] [] J Q := by
    intro r
    induction r with
    | zero =>
      intro k k0 J hr' hk0 hF hX
      refine Ev.go [] (T := T_182) rfl rfl ?_
      conv => whnf
      refine brI (fun z => ?_) (fun z => ?_)
      all_goals first | (exfalso; omega) | skip
      conv => whnf
      refine ⟨by omega, x45L (by omega) hX ht hTt.2.1 (fun hX2 => ?_)⟩
      rw [Lho_bk rfl] at hX2
      conv => whnf
      have e : k = 6 := by omega
      subst e
      exact ⟨trivial, h _ (Fr.back (fr_up hF (by decide)) (by rw [hX2.f.2.2.2.2.2.1, hC.f.2.2.2.2.2.1])) hX2⟩
    | succ r ih =>
      intro k k0 J hr' hk0 hF hX
      have hk : pP (k : Int) := by omega
      have ei : iad (k : Int) 1 = ((k + 1 : Nat) : Int) := by rw [iad_e (by omega)]; rfl
      refine Ev.go [16] (T := T_182) rfl rfl ?_
      conv => whnf
      refine brI (fun z => ?_) (fun z => ?_)
      all_goals first | (exfalso; omega) | skip
      conv => whnf
      refine ⟨by omega, x45L (by omega) hX ht (Or.inr hk) (fun hX2 => ?_)⟩
      rw [Lho_2] at hX2
      conv => whnf
      have hF2 : Fr [4, 11, 12, 13, 16, 17, 18, 19] I (upd_ J 4 t (k : Int)) := fr_up hF (by decide)
      obtain ⟨r1, r2, r3, r4, r5, r6, r7, r8, r9⟩ := hr.fr (J := upd_ J 4 t (k : Int)) (fun c hc => hF2 c (by simp; omega))
      refine ⟨by omega, x126 (by omega) hX2 r1 r3 r4 r5 r6 (fun J2 hF3 hX3 hpp => ?_)⟩
      conv => whnf
      refine ⟨by omega, x118 h1 ?_ (by omega)⟩
      rw [hpp one h1]
      conv => whnf
      have hF4 : Fr [4, 11, 12, 13, 16, 17, 18, 19] I J2 := hF2.tr (hF3.sub (by decide))
      refine brI (fun z1 => ?_) (fun z1 => ?_) <;> conv => whnf
      · have e : whF ln L g n t one x (k + 1) = iro (whF ln L g n t one x k) (isl 1 (k : Int)) := if_pos z1
        have := ih (k + 1) (k : Int) J2 (by omega) (Or.inr hk) hF4 hX3
        rw [e] at this
        rw [ei]
        exact ⟨trivial, this⟩
      · have e : whF ln L g n t one x (k + 1) = whF ln L g n t one x k := if_neg z1
        have := ih (k + 1) (k : Int) J2 (by omega) (Or.inr hk) hF4 hX3
        rw [e] at this
        rw [ei]
        exact ⟨trivial, this⟩
  refine EvM.go [16] (T := T_182) rfl rfl rfl rfl ?_
  conv => whnf
  refine ⟨by omega, x44L (by omega) hC ht ?_⟩
  conv => whnf
  exact ⟨trivial, loop 6 0 (tHo L t) I rfl hTt.2.1 Fr.rfl' (by rw [Lho_id]; exact hC)⟩
theorem m264_loop {d : Nat} {ln : lz_L} {L : LT} {s n to x t one : Int} {g : Int → Int} {I : ME} {Q : Option MV → ME → Prop} (hd : 68 ≤ d) (hC : MX ln L I) (ht : 0 ≤ t ∧ t < tSz L) (h1 : pP one) (hone : one = to % 10) (hto : 0 ≤ to ∧ to ≤ 2147483647) (hp : pP s) (hr : rwX s n g I)
    (h : ∀ J, mF I J → Q (some (nt (whF ln L g n t one x 6))) J) : Ev d 264 86 [some (rf 53), some (nt s), some (nt to), some (nt x), some (nt t), some (nt (tHo L t)), some (nt 0), some (nt 0)] [] I Q := by
  have hO := hC.1
  have gg := hO.f
  have ht12 : t < 12 := by omega
  have hTt := hO.t ht.1 ht12
  have gT := hC.t ht.1 ht12
  have loop : ∀ (r k : Nat) (k0 : Int) (J : ME), k + r = 6 → pH k0 → mF (upd_ I 54 (48 + 3 * t + 1) k0) J → Ev d 264 86 [some (rf 53), some (nt s), some (nt to), some (nt x), some (nt t), some (nt (tHo L t)), some (nt (whF ln L g n t one x k)), some (nt (k : Int))] [] J Q := by
    intro r
    induction r with
    | zero =>
      intro k k0 J hr' hk0 hF
      refine Ev.go [] (T := T_264) rfl rfl ?_
      conv => whnf
      refine brI (fun z => ?_) (fun z => ?_)
      all_goals first | (exfalso; omega) | skip
      conv => whnf
      refine ⟨by omega, m241 ht.1 ht12 ?_⟩
      conv => whnf
      refine anI (by omega) ?_
      conv => whnf
      have e : k = 6 := by omega
      subst e
      exact ⟨trivial, h _ (mF.put hF gT.2.1)⟩
    | succ r ih =>
      intro k k0 J hr' hk0 hF
      have hk : pP (k : Int) := by omega
      have ei : iad (k : Int) 1 = ((k + 1 : Nat) : Int) := by rw [iad_e (by omega)]; rfl
      have hM := (hC.hand ht.1 ht12 hk0).mf hF
      have hwb := whF_b (ln := ln) (L := L) (g := g) (n := n) (t := t) (one := one) (x := x) k (by omega)
      refine Ev.go [86] (T := T_264) rfl rfl ?_
      conv => whnf
      refine brI (fun z => ?_) (fun z => ?_)
      all_goals first | (exfalso; omega) | skip
      conv => whnf
      refine ⟨by omega, m241 ht.1 ht12 ?_⟩
      conv => whnf
      refine anI (by omega) ?_
      conv => whnf
      have hM2 := hM.hand ht.1 ht12 (Or.inr hk) (k := (k : Int))
      rw [Lho_2] at hM2
      obtain ⟨r1, r2, r3, r4, r5, r6, r7, r8, r9⟩ := hr.fr (J := upd_ J 54 (48 + 3 * t + 1) (k : Int)) (fun c hc => by
        rw [up_c (by omega), hF.2 c (by unfold scM; simp; omega), up_c (by omega)])
      refine ⟨by omega, m261 (by omega) hM2 hp r8 r4 (fun i i0 i1 => ⟨r9 i i0 i1, (r6 i i0 i1).2⟩) (fun J2 hF2 hpp => ?_)⟩
      conv => whnf
      have hF3 : mF (upd_ I 54 (48 + 3 * t + 1) (k : Int)) J2 := by
        refine mF.tr ?_ hF2.mF
        refine ⟨fun j hj => ?_, fun c hc => ?_⟩
        · rw [up_c (by decide), hF.1 j hj, up_c (by decide), up_c (by decide)]
        · by_cases w : c = 54
          · subst w
            rw [up_g, hF.2 54 (by decide), up_g, fu_fu, up_g]
          · rw [up_c w, hF.2 c hc, up_c w, up_c w]
      refine nzI (by omega) ?_
      conv => whnf
      rw [irm_q hto.1 hto.2 (by omega), ← hone]
      refine anI (by omega) ?_
      conv => whnf
      rw [hpp one h1]
      refine brI (fun z1 => ?_) (fun z1 => ?_) <;> conv => whnf
      · have e : whF ln L g n t one x (k + 1) = iro (whF ln L g n t one x k) (isl 1 (k : Int)) := if_pos z1
        have := ih (k + 1) (k : Int) J2 (by omega) (Or.inr hk) hF3
        rw [e] at this
        rw [ei]
        exact ⟨trivial, this⟩
      · have e : whF ln L g n t one x (k + 1) = whF ln L g n t one x k := if_neg z1
        have := ih (k + 1) (k : Int) J2 (by omega) (Or.inr hk) hF3
        rw [e] at this
        rw [ei, iro_z hwb.1 hwb.2]
        exact ⟨trivial, this⟩
  exact loop 6 0 (tHo L t) I rfl hTt.2.1 (by rw [up_id gT.2.1]; exact mF.rfl')
noncomputable def F24 (to x : Int) (ln : lz_L) (L : LT) (n : Int) (g : Int → Int) : Int := if 0 ≤ to ∧ (to / 10 < tSz L) ∧ pP (to % 10) ∧ -999 ≤ x ∧ x ≤ 999 then (if n < 0 then n else whF ln L g n (to / 10) (to % 10) x 6) else -1
/-- the class's questions -/
theorem x154_q {ln : lz_L} {L : LT} {s to x : Int} {I : ME} {Q : Option MV → ME → Prop} (hto : to ≤ 2147483647) (hC : CX ln L I) (hp : pP s) (h1 : 0 ≤ to ∧ (to / 10 < tSz L) ∧ pP (to % 10) ∧ -999 ≤ x ∧ x ≤ 999 → Ev 799 154 51 [some (rf 0), some (nt s), some (nt to), some (nt x), none] [] I Q) (h0 : ¬ (0 ≤ to ∧ (to / 10 < tSz L) ∧ pP (to % 10) ∧ -999 ≤ x ∧ x ≤ 999) → Q (some (nt (-1))) I) : EvM 799 154 [rf 0, nt s, nt to, nt x] I Q := by
  have f := hC.f
  refine EvM.go [51] (T := T_154) rfl rfl rfl rfl ?_
  conv => whnf
  refine ⟨by omega, x179 (fun _ => ?_) (fun z => absurd hp z)⟩
  conv => whnf
  refine brI (fun z => ?_) (fun z => ?_) <;> conv => whnf
  · exact ⟨trivial, h0 (fun r => by omega)⟩
  · refine nzI (by omega) ?_
    conv => whnf
    rw [idv_q (by omega) (by omega) (by omega)]
    refine ⟨by omega, x36 (fun z1 => ?_) (fun z1 => ?_)⟩ <;> conv => whnf
    all_goals unfold tkC at z1
    all_goals rw [f.1] at z1
    · refine nzI (by omega) ?_
      conv => whnf
      rw [irm_q (by omega) (by omega) (by omega)]
      refine ⟨by omega, x175 (fun z2 => ?_) (fun z2 => ?_)⟩ <;> conv => whnf
      · refine brI (fun z3 => ?_) (fun z3 => ?_) <;> conv => whnf
        · exact ⟨trivial, h0 (fun r => by omega)⟩
        · refine brI (fun z4 => ?_) (fun z4 => ?_) <;> conv => whnf
          · exact ⟨trivial, h0 (fun r => by omega)⟩
          · exact ⟨trivial, h1 ⟨by omega, z1.2, z2, by omega, by omega⟩⟩
      · exact ⟨trivial, h0 (fun r => z2 r.2.2.1)⟩
    · exact ⟨trivial, h0 (fun r => z1 ⟨by omega, r.2.1⟩)⟩
theorem m264_q {ln : lz_L} {L : LT} {s to x : Int} {I : ME} {Q : Option MV → ME → Prop} (hto : to ≤ 2147483647) (hC : MX ln L I) (hp : pP s) (h1 : 0 ≤ to ∧ (to / 10 < tSz L) ∧ pP (to % 10) ∧ -999 ≤ x ∧ x ≤ 999 → Ev 799 264 52 [some (rf 53), some (nt s), some (nt to), some (nt x), none, none, none, none] [] I Q) (h0 : ¬ (0 ≤ to ∧ (to / 10 < tSz L) ∧ pP (to % 10) ∧ -999 ≤ x ∧ x ≤ 999) → Q (some (nt (-1))) I) : EvM 799 264 [rf 53, nt s, nt to, nt x] I Q := by
  have f := hC.f
  have gg := hC.1.f
  have mid : Ev 799 264 9 [some (rf 53), some (nt s), some (nt to), some (nt x), none, none, none, none] [] I Q := by
    refine Ev.go [52] (T := T_264) rfl rfl ?_
    conv => whnf
    refine brI (fun z => ?_) (fun z => ?_) <;> conv => whnf
    · exact ⟨trivial, h0 (fun r => by omega)⟩
    · refine nzI (by omega) ?_
      conv => whnf
      rw [idv_q (by omega) (by omega) (by omega)]
      refine ⟨by omega, m194 (by omega) (by omega) (by omega) (fun z1 => ?_) (fun z1 => ?_)⟩ <;> conv => whnf
      all_goals unfold tkM at z1
      all_goals rw [f.1] at z1
      · refine nzI (by omega) ?_
        conv => whnf
        rw [irm_q (by omega) (by omega) (by omega)]
        refine ⟨by omega, m195 (by omega) (fun z2 => ?_) (fun z2 => ?_)⟩ <;> conv => whnf
        · refine ⟨by omega, m187 (fun z3 => ?_) (fun z3 => ?_)⟩ <;> conv => whnf
          · exact ⟨trivial, h1 ⟨by omega, z1.2, z2, z3⟩⟩
          · exact ⟨trivial, h0 (fun r => z3 r.2.2.2)⟩
        · exact ⟨trivial, h0 (fun r => z2 r.2.2.1)⟩
      · exact ⟨trivial, h0 (fun r => z1 ⟨by omega, r.2.1⟩)⟩
  refine EvM.go [9] (T := T_264) rfl rfl rfl rfl ?_
  conv => whnf
  refine ⟨by omega, m259 (by omega) (fun z => absurd hp z) (fun z => ?_) (fun z => ?_) (fun z => ?_)⟩ <;> conv => whnf
  all_goals exact ⟨trivial, mid⟩
theorem op24 {s to x : Int} (hto : to ≤ 2147483647) : Op3 154 264 [nt s, nt to, nt x] nt := by
  refine Op3.row (s := s) (F24 to x) (-1) 0 0 ?_ ?_ ?_ ?_ ?_ ?_ ?_ ?_
  · intro I Q _ hp h
    refine EvM.go [] (T := T_154) rfl rfl rfl rfl ?_
    conv => whnf
    refine ⟨by omega, x179 (fun z => absurd z hp) (fun z => ?_)⟩
    conv => whnf
    exact ⟨trivial, h⟩
  · intro ln L I Q hX hp a h
    unfold F24 at h
    refine x154_q hto hX hp (fun hc => ?_) (fun hc => by rw [if_neg hc] at h; exact h)
    rw [if_pos hc, if_pos (by omega)] at h
    refine Ev.go [] (T := T_154) rfl rfl ?_
    conv => whnf
    refine ⟨by omega, x180 (by omega) (fun z => absurd hp z) (fun z => ?_) (fun z => by have := z.1.2; omega) (fun z => absurd a z.2.1)⟩
    conv => whnf
    exact ⟨trivial, h⟩
  · intro ln L I Q hX hp a b h
    unfold F24 at h
    refine x154_q hto hX hp (fun hc => ?_) (fun hc => by rw [if_neg hc] at h; exact h)
    rw [if_pos hc, if_pos (by omega)] at h
    refine Ev.go [] (T := T_154) rfl rfl ?_
    conv => whnf
    refine ⟨by omega, x180 (by omega) (fun z => absurd hp z) (fun z => absurd z.2 a) (fun z => absurd ⟨z.1.2, z.2⟩ b) (fun z => ?_)⟩
    conv => whnf
    exact ⟨trivial, h⟩
  · intro ln L I n g Q hX hp hr h
    have hr' := hr
    obtain ⟨r1, r2, r3, r4, r5, r6, r7, r8, r9⟩ := hr
    unfold F24 at h
    refine x154_q hto hX hp (fun hc => ?_) (fun hc => by have := h I Fr.rfl' hX; rw [if_neg hc] at this; exact this)
    rw [if_pos hc, if_neg (by omega)] at h
    refine Ev.go [] (T := T_154) rfl rfl ?_
    conv => whnf
    refine ⟨by omega, x180 (by omega) (fun z => absurd hp z) (fun z => by have := r1.2; omega) (fun z => ?_) (fun z => absurd ⟨r1.2, r2⟩ z.2.2)⟩
    conv => whnf
    refine nzI (by omega) ?_
    conv => whnf
    rw [idv_q (by omega) (by omega) (by omega)]
    refine nzI (by omega) ?_
    conv => whnf
    rw [irm_q (by omega) (by omega) (by omega)]
    refine ⟨by omega, x182 (by omega) hX ⟨by omega, hc.2.1⟩ hc.2.2.1 hr' (fun J hF hX2 => ?_)⟩
    conv => whnf
    exact ⟨trivial, h J hF hX2⟩
  · intro I Q _ hp h
    refine EvM.go [] (T := T_264) rfl rfl rfl rfl ?_
    conv => whnf
    refine ⟨by omega, m259 (by omega) (fun z => ?_) (fun z => absurd z.1 hp) (fun z => absurd z.1 hp) (fun z => absurd z.1 hp)⟩
    conv => whnf
    exact ⟨trivial, h⟩
  · intro ln L I Q hM hp a h
    unfold F24 at h
    refine m264_q hto hM hp (fun hc => ?_) (fun hc => by rw [if_neg hc] at h; exact h)
    rw [if_pos hc, if_pos (by omega)] at h
    refine Ev.go [] (T := T_264) rfl rfl ?_
    conv => whnf
    refine ⟨by omega, m259 (by omega) (fun z => absurd hp z) (fun z => ?_) (fun z => by have := z.2; omega) (fun z => by have := z.2; omega)⟩
    conv => whnf
    refine ⟨by omega, m259 (by omega) (fun z => absurd hp z) (fun z => ?_) (fun z => by have := z.2; omega) (fun z => by have := z.2; omega)⟩
    conv => whnf
    exact ⟨trivial, h⟩
  · intro ln L I Q hM hp a b h
    unfold F24 at h
    refine m264_q hto hM hp (fun hc => ?_) (fun hc => by rw [if_neg hc] at h; exact h)
    rw [if_pos hc, if_pos (by omega)] at h
    refine Ev.go [] (T := T_264) rfl rfl ?_
    conv => whnf
    refine ⟨by omega, m259 (by omega) (fun z => absurd hp z) (fun z => by have := z.2; omega) (fun z => by have := z.2; omega) (fun z => ?_)⟩
    conv => whnf
    refine ⟨by omega, m259 (by omega) (fun z => absurd hp z) (fun z => by have := z.2; omega) (fun z => by have := z.2; omega) (fun z => ?_)⟩
    conv => whnf
    exact ⟨trivial, h⟩
  · intro ln L I n g Q hM hp hr h
    have hr' := hr
    have hO := hM.1
    have gg := hO.f
    obtain ⟨r1, r2, r3, r4, r5, r6, r7, r8, r9⟩ := hr
    unfold F24 at h
    refine m264_q hto hM hp (fun hc => ?_) (fun hc => by have := h I mF.rfl'; rw [if_neg hc] at this; exact this)
    rw [if_pos hc, if_neg (by omega)] at h
    have ht : 0 ≤ to / 10 ∧ to / 10 < tSz L := ⟨by omega, hc.2.1⟩
    have ht12 : to / 10 < 12 := by omega
    refine Ev.go [86] (T := T_264) rfl rfl ?_
    conv => whnf
    refine ⟨by omega, m259 (by omega) (fun z => absurd hp z) (fun z => by have := z.2; omega) (fun z => ?_) (fun z => absurd r7 z.2.2)⟩
    conv => whnf
    refine nzI (by omega) ?_
    conv => whnf
    rw [idv_q (by omega) (by omega) (by omega)]
    refine ⟨by omega, m198 ht.1 ht12 ?_⟩
    rw [(hM.t ht.1 ht12).2.1]
    conv => whnf
    exact ⟨trivial, m264_loop (by omega) hM ht hc.2.2.1 rfl ⟨by omega, hto⟩ hp hr' h⟩
