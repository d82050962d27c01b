/-! THE FAIREST way: the model's answer -/
noncomputable def bsW (ln : lz_L) (L : LT) (m : Int) (P : Nat) : Int := amF (fwW ln L m P) (P ^ mnT L)
theorem bsW_b {ln : lz_L} {L : LT} {m : Int} {P : Nat} (hP : 0 < P) : 0 ≤ bsW ln L m P ∧ bsW ln L m P < ((P ^ mnT L : Nat) : Int) := by
  have := amF_bd (f := fwW ln L m P) (P ^ mnT L)
  have hp : 0 < P ^ mnT L := Nat.pow_pos hP
  exact ⟨this.2.2 (by omega), this.2.1⟩
noncomputable def F15 (mp w : Int) (ln : lz_L) (L : LT) : Int :=
  if 0 ≤ mp ∧ cdW L (mp / 10) ∧ 1 ≤ mp % 10 ∧ mp % 10 ≤ 3 ∧ -2 ≤ w ∧ w < tSz L then
    (if 6 < pI (tIn L) then -5 else if 0 ≤ w then (if hasb (tIn L) w then wyH L (mp % 10).toNat (bsW ln L (mp / 10) (mp % 10).toNat).toNat w else -2) else frI (fwW ln L (mp / 10) (mp % 10).toNat (bsW ln L (mp / 10) (mp % 10).toNat)) (wyI (pI (tIn L)) (mp / 10)) (w + 2))
  else NoF
theorem m248_end {d : Nat} {ln : lz_L} {L : LT} {mp w m : Int} {P : Nat} {I : ME} {Q : Option MV → ME → Prop} (hd : 90 ≤ d) (hC : MX ln L I) (hm : cdW L m) (hP : 0 < P) (hP3 : P ≤ 3) (hmp : 0 ≤ mp ∧ mp ≤ 2147483647) (em : mp / 10 = m) (eP : mp % 10 = (P : Int)) (hw : -2 ≤ w ∧ w < tSz L)
    (h : ∀ J, mF I J → Q (some (lg (if 0 ≤ w then (if hasb (tIn L) w then wyH L P (bsW ln L m P).toNat w else -2) else frI (fwW ln L m P (bsW ln L m P)) (wyI (pI (tIn L)) m) (w + 2)))) J) : Ev d 248 68 [some (rf 53), some (nt mp), some (nt w), none] [] I Q := by
  have hO := hC.1
  have g := hO.f
  have hpI := pI_bd (tIn L)
  have hbw := bsW_b (ln := ln) (L := L) (m := m) hP
  have hpos : 0 < P ^ mnT L := Nat.pow_pos hP
  -- holders come back
  have back : ∀ (r k : Nat) (hh : gF) (J : ME), k + r = (tSz L).toNat → (∀ j, j < 14 ∨ 31 < j → J 53 j = I 53 j) → Fr [53, 54, 61, 62, 63, 64, 65, 66, 67] I J → (∀ a : Int, (∀ u : Int, (k : Int) ≤ u → u < tSz L → a ≠ 48 + 3 * u + 1) → J 54 a = I 54 a) → (∀ u : Int, 0 ≤ u → u < tSz L → J 66 u = tHo L u) → bwS ln L m P (P ^ mnT L) J →
      Ev d 248 117 [some (rf 53), some (nt mp), some (nt w), some (nt (k : Int))] [] J Q := by
    intro r
    induction r with
    | zero =>
      intro k hh J hr h53 hF h54 h66 hb
      have j6 : J 53 6 = tSz L := (h53 6 (by omega)).trans hC.f.1
      have j7 : J 53 7 = tIn L := (h53 7 (by omega)).trans hC.f.2.1
      rcases hb with ⟨hz, -⟩ | ⟨-, b1, b2, b3⟩
      · omega
      have hmf : mF I J := by
        refine ⟨h53, fun c hc => ?_⟩
        by_cases e : c = 54
        · subst e
          funext a
          exact h54 a (fun u u0 u1 => by exfalso; omega)
        · exact hF c (fun z => by
            simp only [List.mem_cons, List.not_mem_nil, or_false] at z
            rcases z with z | z | z | z | z | z | z | z | z
            all_goals first | exact e z | exact hc (by rw [z]; decide))
      have hJ := h J hmf
      refine Ev.go [] (T := T_248) rfl rfl ?_
      conv => whnf
      rw [j6]
      refine brI (fun z => by exfalso; omega) (fun z => ?_)
      conv => whnf
      refine brI (fun z2 => ?_) (fun z2 => ?_) <;> conv => whnf
      · rw [if_neg (by omega)] at hJ
        rw [b1, b2, iad_e (by omega)]
        have hw0 := wyI_pos hpI.2 hm.1 hm.2
        have hw2 := wyI_bd (n := pI (tIn L)) (k := m) hpI.1 hpI.2
        have hfb := fwW_bd (ln := ln) (m := m) hO hP hP3 (amF (fwW ln L m P) (P ^ mnT L))
        refine ⟨by omega, m235 (by omega) (by omega) (by omega) (by omega) ?_⟩
        conv => whnf
        exact ⟨trivial, hJ⟩
      · rw [if_pos (by omega)] at hJ
        rw [j7]
        refine ⟨by omega, m188 (fun z3 => ?_) (fun z3 => ?_)⟩ <;> conv => whnf
        · refine anI (by omega) ?_
          conv => whnf
          rw [b3 w (by omega) hw.2]
          rw [if_pos z3] at hJ
          exact ⟨trivial, hJ⟩
        · rw [if_neg z3] at hJ
          exact ⟨trivial, hJ⟩
    | succ r ih =>
      intro k hh J hr h53 hF h54 h66 hb
      have j6 : J 53 6 = tSz L := (h53 6 (by omega)).trans hC.f.1
      have ei : iad (k : Int) 1 = ((k + 1 : Nat) : Int) := by rw [iad_e (by omega)]; rfl
      refine Ev.go [117] (T := T_248) rfl rfl ?_
      conv => whnf
      rw [j6]
      refine brI (fun z => ?_) (fun z => by exfalso; omega)
      conv => whnf
      refine ⟨by omega, m241 (by omega) (by omega) ?_⟩
      conv => whnf
      refine anI (by omega) ?_
      conv => whnf
      refine anI (by omega) ?_
      conv => whnf
      rw [h66 (k : Int) (by omega) (by omega), ei]
      refine ⟨trivial, ih (k + 1) hh _ (by omega) (fun j hj => by rw [up_c (by decide)]; exact h53 j hj) (fr_up hF (by decide)) (fun a ha => ?_) (fun u u0 u1 => by rw [up_c (by decide)]; exact h66 u u0 u1) ?_⟩
      · rw [up_any]
        by_cases e : a = 48 + 3 * (k : Int) + 1
        · rw [if_pos e, e, (hC.t (t := (k : Int)) (by omega) (by omega)).2.1]
        · rw [if_neg e]
          refine h54 a (fun u u0 u1 => ?_)
          by_cases e2 : u = (k : Int)
          · rw [e2]; exact e
          · exact ha u (by omega) u1
      · unfold bwS at hb ⊢
        rw [show ∀ a v : Int, upd_ J 54 a v 53 = J 53 from fun a v => up_c (by decide), show ∀ a v : Int, upd_ J 54 a v 67 = J 67 from fun a v => up_c (by decide)]
        exact hb
  have go : ∀ (J : ME), mF I J → (∀ u : Int, 0 ≤ u → u < tSz L → J 66 u = tHo L u) → Fr [66] I J → Ev d 248 95 [some (rf 53), some (nt mp), some (nt w), some (nt (((tSz L).toNat : Nat) : Int))] [] J Q := by
    intro J hF h66 hF6
    refine Ev.go [117] (T := T_248) rfl rfl ?_
    conv => whnf
    refine nzI (by omega) ?_
    conv => whnf
    rw [idv_q hmp.1 hmp.2 (by omega), em]
    refine nzI (by omega) ?_
    conv => whnf
    rw [irm_q hmp.1 hmp.2 (by omega), eP]
    have hM1 : MX ln L (upd_ J 53 29 (-9223372036854775808)) := (hC.mf hF).keep (up_ne (by decide)) (up_ne (by decide)) (up_ne (by decide)) (up_ne (by decide)) (up_c (by decide)) (up_c (by decide)) (up_c (by decide))
    have hr0 : rkT L 0 = 0 := rfl
    refine ⟨by omega, m247 (ln := ln) (L := L) (I := upd_ J 53 29 (-9223372036854775808)) hO hm hP hP3 (tSz L).toNat 0 0 (d - 1) (tHo L) _ _ (Nat.zero_add _) (by omega) (hS_id hO) hM1 (fun u hu => absurd hu (Nat.not_lt_zero _)) ⟨fun _ _ => rfl, Fr.rfl', fun _ _ => rfl⟩ (Or.inl ⟨Nat.zero_mul _, by rw [up_eq]⟩) (fun h2 J2 hs2 hM2 hp2 hF2 hb2 => ?_)⟩
    conv => whnf
    rw [hr0, Nat.sub_zero, Nat.zero_add, Nat.one_mul] at hb2
    refine ⟨trivial, back _ 0 h2 J2 (Nat.zero_add _) (fun j hj => ?_) (fun c hc => ?_) (fun a ha => ?_) (fun u u0 u1 => ?_) hb2⟩
    · rw [hF2.1 j hj, up_ne (by omega)]; exact hF.1 j hj
    · have e1 : J2 c = upd_ J 53 29 (-9223372036854775808) c := hF2.2.1 c (fun z => hc (by simp at z ⊢; omega))
      have e2 : upd_ J 53 29 (-9223372036854775808) c = J c := up_c (fun z => hc (by rw [z]; decide))
      have e3 : J c = I c := hF6 c (fun z => hc (by rw [List.mem_singleton.mp z]; decide))
      rw [e1, e2, e3]
    · rw [hF2.2.2 a (fun u u0 u1 => ha u (by omega) u1), up_c (by decide), hF6 54 (by decide)]
    · rw [hF2.2.1 66 (by decide), up_c (by decide)]; exact h66 u u0 u1
  have save : ∀ (r k : Nat) (J : ME), k + r = (tSz L).toNat → mF I J → Fr [66] I J → (∀ u : Int, 0 ≤ u → u < k → J 66 u = tHo L u) → Ev d 248 70 [some (rf 53), some (nt mp), some (nt w), some (nt (k : Int))] [] J Q := by
    intro r
    induction r with
    | zero =>
      intro k J hr hF hF6 h66
      have j6 : J 53 6 = tSz L := (hC.mf hF).f.1
      refine Ev.go [95] (T := T_248) rfl rfl ?_
      conv => whnf
      rw [j6]
      refine brI (fun z => by exfalso; omega) (fun z => ?_)
      conv => whnf
      rw [show (k : Int) = (((tSz L).toNat : Nat) : Int) by omega]
      exact ⟨trivial, go J hF (fun u u0 u1 => h66 u u0 (by omega)) hF6⟩
    | succ r ih =>
      intro k J hr hF hF6 h66
      have hM := hC.mf hF
      have j6 : J 53 6 = tSz L := hM.f.1
      have ei : iad (k : Int) 1 = ((k + 1 : Nat) : Int) := by rw [iad_e (by omega)]; rfl
      refine Ev.go [70] (T := T_248) rfl rfl ?_
      conv => whnf
      rw [j6]
      refine brI (fun z => ?_) (fun z => by exfalso; omega)
      conv => whnf
      refine ⟨by omega, m198 (by omega) (by omega) ?_⟩
      rw [(hM.t (t := (k : Int)) (by omega) (by omega)).2.1]
      conv => whnf
      refine anI (by omega) ?_
      conv => whnf
      rw [ei]
      refine ⟨trivial, ih (k + 1) _ (by omega) ?_ (fr_up hF6 (by decide)) (fun u u0 u1 => ?_)⟩
      · exact hF.tr ⟨fun j hj => by rw [up_c (by decide)], fr_up Fr.rfl' (by decide)⟩
      · rw [up_any]
        by_cases e : u = (k : Int)
        · rw [if_pos e, e]
        · rw [if_neg e]; exact h66 u u0 (by omega)
  refine Ev.go [70] (T := T_248) rfl rfl ?_
  conv => whnf
  exact ⟨trivial, save _ 0 I (Nat.zero_add _) mF.rfl' Fr.rfl' (fun u u0 u1 => by exfalso; omega)⟩
theorem m248 {d : Nat} {ln : lz_L} {L : LT} {mp w : Int} {I : ME} {Q : Option MV → ME → Prop} (hd : 90 ≤ d) (hmp : mp ≤ 2147483647) (hC : MX ln L I) (h : ∀ J, mF I J → Q (some (lg (F15 mp w ln L))) J) : EvM d 248 [rf 53, nt mp, nt w] I Q := by
  have hO := hC.1
  have g := hO.f
  have f := hC.f
  have no : (¬ (0 ≤ mp ∧ cdW L (mp / 10) ∧ 1 ≤ mp % 10 ∧ mp % 10 ≤ 3 ∧ -2 ≤ w ∧ w < tSz L)) → Q (some (lg (-9223372036854775808))) I := fun hn => by
    have := h I mF.rfl'
    unfold F15 at this
    rw [if_neg hn] at this
    exact this
  refine EvM.go [68] (T := T_248) rfl rfl rfl rfl ?_
  conv => whnf
  refine brI (fun z => ?_) (fun z => ?_) <;> conv => whnf
  · exact ⟨trivial, no (fun r => by omega)⟩
  · refine nzI (by omega) ?_
    conv => whnf
    rw [idv_q (by omega) (by omega) (by omega)]
    refine ⟨by omega, m229 (by omega) (by omega) (by omega) (fun hm => ?_) (fun hm => ?_)⟩ <;> conv => whnf
    all_goals rw [f.2.1] at hm
    · refine nzI (by omega) ?_
      conv => whnf
      rw [irm_q (by omega) (by omega) (by omega)]
      refine ⟨by omega, m187 (fun hp => ?_) (fun hp => ?_)⟩ <;> conv => whnf
      · rw [f.1, isb_e (by omega)]
        refine ⟨by omega, m187 (fun hw => ?_) (fun hw => ?_)⟩ <;> conv => whnf
        · rw [f.2.1]
          have hJ := h
          unfold F15 at hJ
          rw [if_pos ⟨by omega, hm, hp.1, hp.2, hw.1, by omega⟩] at hJ
          refine ⟨by omega, m189p (by omega) (by omega) ?_⟩
          conv => whnf
          refine brI (fun z6 => ?_) (fun z6 => ?_) <;> conv => whnf
          · have := hJ I mF.rfl'
            rw [if_pos z6] at this
            exact ⟨trivial, this⟩
          · rw [if_neg z6] at hJ
            exact ⟨trivial, m248_end (P := (mp % 10).toNat) hd hC hm (by omega) (by omega) ⟨by omega, hmp⟩ rfl (by omega) ⟨hw.1, by omega⟩ hJ⟩
        · exact ⟨trivial, no (fun r => hw ⟨r.2.2.2.2.1, by omega⟩)⟩
      · exact ⟨trivial, no (fun r => hp ⟨r.2.2.1, r.2.2.2.1⟩)⟩
    · exact ⟨trivial, no (fun r => hm r.2.1)⟩
