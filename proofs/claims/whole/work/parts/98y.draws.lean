/-! DRAWS IN THOUGHT: the model -/
def drM (I J : ME) : Prop := (∀ j, j < 14 ∨ 21 < j → J 53 j = I 53 j) ∧ Fr [53, 61, 62, 63, 64] I J
theorem drM.tr {I J K : ME} (h : drM I J) (h2 : drM J K) : drM I K := ⟨fun j hj => (h2.1 j hj).trans (h.1 j hj), h.2.tr h2.2⟩
theorem drM.rfl' {I : ME} : drM I I := ⟨fun _ _ => rfl, Fr.rfl'⟩
theorem MX.keep {ln : lz_L} {L : LT} {I J : ME} (h : MX ln L I) (h6 : J 53 6 = I 53 6) (h7 : J 53 7 = I 53 7) (h8 : J 53 8 = I 53 8) (h13 : J 53 13 = I 53 13) (h54 : J 54 = I 54) (h58 : J 58 = I 58) (h60 : J 60 = I 60) : MX ln L J := by
  obtain ⟨a, b, c⟩ := h
  unfold MX
  rw [h6, h7, h8, h13, h54, h58, h60]
  exact ⟨a, b, c⟩
theorem MX.dr {ln : lz_L} {L : LT} {I J : ME} (h : MX ln L I) (hD : drM I J) : MX ln L J :=
  h.keep (hD.1 6 (by omega)) (hD.1 7 (by omega)) (hD.1 8 (by omega)) (hD.1 13 (by omega)) (hD.2 54 (by decide)) (hD.2 58 (by decide)) (hD.2 60 (by decide))
theorem MX.t {ln : lz_L} {L : LT} {I : ME} (h : MX ln L I) {t : Int} (t0 : 0 ≤ t) (t1 : t < 12) : I 54 (48 + 3 * t) = tTh L t ∧ I 54 (48 + 3 * t + 1) = tHo L t ∧ I 54 (48 + 3 * t + 2) = tBl L t := h.2.1.2.2.2.2.1 t t0 t1
theorem MX.f {ln : lz_L} {L : LT} {I : ME} (h : MX ln L I) : I 53 6 = tSz L ∧ I 53 7 = tIn L ∧ I 53 8 = tDr L := ⟨h.2.1.1, h.2.1.2.1, h.2.1.2.2.1⟩
theorem MX.lo {ln : lz_L} {L : LT} {I : ME} (h : MX ln L I) {p : Int} (hp : pP p) : I 58 p = tLo L p := h.2.1.2.2.2.2.2 p hp
theorem MX.lv {ln : lz_L} {L : LT} {I : ME} (h : MX ln L I) {j : Int} (j0 : 0 ≤ j) (j1 : j < 48) : I 54 j = tLv L j := h.2.1.2.2.2.1 j j0 j1
theorem m225 {d : Nat} {ln : lz_L} {L : LT} {t : Int} {I : ME} {Q : Option MV → ME → Prop} (hd : 64 ≤ d) (hC : MX ln L I) (ht : 0 ≤ t ∧ t < 12) (hm : ∀ p, pP p → (0 ≤ I 62 p ∧ I 62 p < 256) ∧ (-1000000000 ≤ I 63 p ∧ I 63 p ≤ 1000000000)) (hdd : 0 ≤ I 53 21 ∧ I 53 21 ≤ 12)
    (h : ∀ J, drM I J → J 64 = I 64 → J 53 20 = I 53 20 → J 53 21 = I 53 21 + 1 → (∀ p, pP p → (J 62 p, J 63 p) = fa1 ln L (I 64 p) p t (I 53 21) (I 62 p, I 63 p)) → Q none J) : EvM d 225 [rf 53, nt t] I Q := by
  obtain ⟨d, rfl⟩ : ∃ d', d = d' + 2 := ⟨d - 2, by omega⟩
  have hO := hC.1
  have gt := hO.t ht.1 ht.2
  have gT := hC.t ht.1 ht.2
  have tail : ∀ (J : ME) (b : Option MV), drM I J → J 64 = I 64 → J 53 20 = I 53 20 → J 53 21 = I 53 21 → (∀ p, pP p → (J 62 p, J 63 p) = fa1 ln L (I 64 p) p t (I 53 21) (I 62 p, I 63 p)) → Ev (d + 2) 225 66 [some (rf 53), some (nt t), b] [] J Q := by
    intro J b hF h64 h20 h21 hq
    refine Ev.go [] (T := T_225) rfl rfl ?_
    conv => whnf
    refine ⟨trivial, h _ ⟨fun j hj => ?_, fr_up hF.2 (by decide)⟩ ?_ ?_ ?_ (fun p hp => ?_)⟩
    · rw [up_ne (by omega)]; exact hF.1 j hj
    · rw [up_c (by decide)]; exact h64
    · rw [up_ne (by decide)]; exact h20
    · rw [up_eq, h21, iad_e (by omega)]
    · rw [up_c (by decide), up_c (by decide)]; exact hq p hp
  have no : (¬ (pP (tHo L t) ∧ tBl L t = 0 ∧ ¬ hasb (I 62 (tHo L t)) (tTh L t))) → ∀ p, pP p → (I 62 p, I 63 p) = fa1 ln L (I 64 p) p t (I 53 21) (I 62 p, I 63 p) := by
    intro hn p hp
    unfold fa1
    rw [if_neg]
    rintro ⟨a, b, c⟩
    subst a
    exact hn ⟨hp, b, c⟩
  refine EvM.go [66] (T := T_225) rfl rfl rfl rfl ?_
  conv => whnf
  refine ⟨by omega, m198 ht.1 ht.2 ?_⟩
  rw [gT.2.1]
  conv => whnf
  refine brI (fun hk => ?_) (fun hk => ?_) <;> conv => whnf
  · exact ⟨trivial, tail I _ drM.rfl' rfl rfl rfl (no (fun q => by have := q.1; omega))⟩
  · have hk : pP (tHo L t) := by have := gt.2.1; omega
    refine ⟨by omega, m199 ht.1 ht.2 (fun z => ?_) (fun z => ?_)⟩ <;> conv => whnf
    · rw [gT.2.2] at z
      exact ⟨trivial, tail I _ drM.rfl' rfl rfl rfl (no (fun q => by have := q.2.1; omega))⟩
    · rw [gT.2.2] at z
      have hb : tBl L t = 0 := by have := gt.2.2; omega
      refine anI (by omega) ?_
      conv => whnf
      refine ⟨by omega, m197 ht.1 ht.2 ?_⟩
      rw [gT.1]
      conv => whnf
      have hmk := hm _ hk
      refine ⟨by omega, m188 (fun q => ?_) (fun q => ?_)⟩ <;> conv => whnf
      · exact ⟨trivial, tail I _ drM.rfl' rfl rfl rfl (no (fun q2 => q2.2.2 q))⟩
      · refine anI (by omega) ?_
        conv => whnf
        refine ⟨by omega, m224 (d := d) (lv := tLv L) (by omega) ht.1 ht.2 hk gT.1 gt.1 (hC.lv (by omega) (by omega)) hC.2.2 ⟨hmk.1.1, by omega⟩ (fun J hJ => ?_)⟩
        conv => whnf
        have e62 : J 62 = I 62 := hJ.2 62 (by decide)
        have e63 : J 63 = I 63 := hJ.2 63 (by decide)
        iterate 2
          refine anI (by omega) ?_
          conv => whnf
        refine ⟨by omega, m197 ht.1 ht.2 ?_⟩
        rw [show upd_ J 63 (tHo L t) (iad (I 63 (tHo L t)) (lz_loss ln (tLv L) (tHo L t) (tTh L t) (I 64 (tHo L t)) (pI (I 62 (tHo L t))) (I 53 21))) 54 = I 54 by rw [up_c (by decide)]; exact hJ.2 54 (by decide), gT.1]
        conv => whnf
        refine anI (by omega) ?_
        conv => whnf
        have hb2 := lz_cl_bd (lz_val (lz_nms (tLv L (8 * tHo L t + tTh L t)) (I 64 (tHo L t)) (pI (I 62 (tHo L t))) (tTh L t) (tHo L t) (I 53 21)) ln)
        have hb3 : lz_loss ln (tLv L) (tHo L t) (tTh L t) (I 64 (tHo L t)) (pI (I 62 (tHo L t))) (I 53 21) = lz_cl (lz_val (lz_nms (tLv L (8 * tHo L t + tTh L t)) (I 64 (tHo L t)) (pI (I 62 (tHo L t))) (tTh L t) (tHo L t) (I 53 21)) ln) := rfl
        refine ⟨trivial, tail _ _ ⟨fun j hj => ?_, fr_up (fr_up (fun c hc => hJ.2 c (fun z => hc (by simp at z; rcases z with rfl | rfl <;> decide))) (by decide)) (by decide)⟩ ?_ ?_ ?_ (fun p hp => ?_)⟩
        · rw [up_c (by decide), up_c (by decide)]; exact hJ.1 j (by omega)
        · rw [up_c (by decide), up_c (by decide)]; exact hJ.2 64 (by decide)
        · rw [up_c (by decide), up_c (by decide)]; exact hJ.1 20 (by omega)
        · rw [up_c (by decide), up_c (by decide)]; exact hJ.1 21 (by omega)
        · rw [up_c (c := 62) (by decide : (63 : Nat) ≠ 62), up_any, up_any, e63, up_c (c := 63) (by decide : (62 : Nat) ≠ 63), e62]
          unfold fa1
          by_cases w : p = tHo L t
          · subst w
            rw [if_pos rfl, if_pos rfl, if_pos ⟨rfl, hb, q⟩, iad_e (by omega)]
          · rw [if_neg w, if_neg w, if_neg (fun z => w z.1.symm)]
/-- held of those in s -/
noncomputable def hlI (L : LT) (s k : Int) : Int := (ctP (fun t => hasb s t ∧ tHo L t = k) (tSz L).toNat : Nat)
noncomputable def lsI (ln : lz_L) (L : LT) (s k S : Int) : Int := (faS ln L (hlI L s k) k S (tSz L).toNat).2
theorem lsI_in {ln : lz_L} {L : LT} {k S : Int} : lsI ln L (tIn L) k S = lsS ln L k S := rfl
theorem m226 {d : Nat} {ln : lz_L} {L : LT} {s S : Int} {I : ME} {Q : Option MV → ME → Prop} (hd : 65 ≤ d) (hC : MX ln L I) (hs : suB s (tIn L)) (hS : suB S s)
    (h : ∀ J, drM I J → (∀ p, pP p → J 63 p = lsI ln L s p S) → Q none J) : EvM d 226 [rf 53, nt s, nt S] I Q := by
  have hO := hC.1
  have g := hO.f
  have f := hC.f
  have hct : ∀ i : Nat, i ≤ (tSz L).toNat → (ctP (fun t => hasb S t) i : Int) ≤ pI (tIn L) := fun i hi => ctP_pI g.2.1.1 g.2.1.2 (by omega) (fun j hj q => hs.2 _ (by omega) (by omega) (hS.2 _ (by omega) (by omega) q))
  have loop : ∀ (m i : Nat) (J : ME), i + m = (tSz L).toNat → drM I J → J 53 21 = tDr L + (ctP (fun t => hasb S t) i : Int) → (∀ p, pP p → (J 62 p, J 63 p) = faS ln L (hlI L s p) p S i ∧ J 64 p = hlI L s p) → Ev d 226 15 [some (rf 53), some (nt s), some (nt S), some (nt (i : Int))] [] J Q := by
    intro m
    induction m with
    | zero =>
      intro i J hi hF h6 hp
      have j6 : J 53 6 = tSz L := (hF.1 6 (by omega)).trans f.1
      refine Ev.go [] (T := T_226) rfl rfl ?_
      conv => whnf
      refine brI (fun z => ?_) (fun z => ?_)
      all_goals first | (exfalso; omega) | skip
      conv => whnf
      have e : i = (tSz L).toNat := by omega
      subst e
      exact ⟨trivial, h J hF (fun p q => by have := (hp p q).1; unfold lsI; rw [← this])⟩
    | succ m ih =>
      intro i J hi hF h6 hp
      have j6 : J 53 6 = tSz L := (hF.1 6 (by omega)).trans f.1
      have hX := hC.dr hF
      have ei : iad (i : Int) 1 = ((i + 1 : Nat) : Int) := by rw [iad_e (by omega)]; rfl
      refine Ev.go [15] (T := T_226) rfl rfl ?_
      conv => whnf
      refine brI (fun z => ?_) (fun z => ?_)
      all_goals first | (exfalso; omega) | skip
      conv => whnf
      refine ⟨by omega, m188 (fun hb => ?_) (fun hb => ?_)⟩ <;> conv => whnf
      · have hc1 := hct i (by omega)
        have hc2 := hct (i + 1) (by omega)
        rw [ctP_t (p := fun t => hasb S t) hb] at hc2
        refine ⟨by omega, m225 (by omega) hX (by omega) (fun p q => ?_) (by omega) (fun J2 hF2 g4 g5 g6 g7 => ?_)⟩
        · have hpp := hp p q
          have hbd := faS_bd (ln := ln) (h := hlI L s p) (S := S) hO q i (by omega)
          rw [← hpp.1] at hbd
          refine ⟨hbd.1, ?_⟩
          have := hbd.2
          have e : ((J 62 p, J 63 p) : Int × Int).2 = J 63 p := rfl
          rw [e] at this
          omega
        · conv => whnf
          rw [ei]
          refine ⟨trivial, ih (i + 1) J2 (by omega) (hF.tr hF2) ?_ (fun p q => ⟨?_, ?_⟩)⟩
          · rw [g6, h6, ctP_t (p := fun t => hasb S t) hb]; omega
          · rw [g7 p q, (hp p q).1, (hp p q).2, h6]
            conv => rhs; unfold faS
            rw [if_pos hb]
          · rw [g4]; exact (hp p q).2
      · rw [ei]
        refine ⟨trivial, ih (i + 1) J (by omega) hF ?_ (fun p q => ⟨?_, (hp p q).2⟩)⟩
        · rw [h6, ctP_f (p := fun t => hasb S t) hb]
        · rw [(hp p q).1]
          conv => rhs; unfold faS
          rw [if_neg hb]
  refine EvM.go [15] (T := T_226) rfl rfl rfl rfl ?_
  conv => whnf
  refine ⟨by omega, m222 (fun J0 hJ0 => ?_)⟩
  conv => whnf
  obtain ⟨a1, a2, a3, a4, a5⟩ := hJ0
  have e54 : J0 54 = I 54 := a2 54 (by decide)
  have eh : ∀ t : Int, 0 ≤ t → t < 12 → J0 54 (48 + 3 * t + 1) = tHo L t := fun t t0 t1 => by rw [e54]; exact (hC.t t0 t1).2.1
  refine ⟨by omega, m223 (n := (tSz L).toNat) (by omega) ?_ (by omega) (fun t t0 t1 => ?_) (fun J hF h64 => ?_)⟩
  · rw [up_ne (by decide), a1 6 (by decide) (by decide), f.1]; omega
  · rw [up_c (by decide), eh t t0 t1]; have := (hO.t t0 t1).2.1; omega
  · conv => whnf
    have j : ∀ x, x ≠ 20 → J 53 x = J0 53 x := fun x hx => by rw [hF 53 (by decide), up_ne hx]
    refine ⟨trivial, loop (tSz L).toNat 0 J (by omega) ⟨fun x hx => ?_, fun c hc => ?_⟩ ?_ (fun p q => ⟨?_, ?_⟩)⟩
    · rw [j x (by omega)]; exact a1 x (by omega) (by omega)
    · rw [hF c (fun z => hc (by simp at z; rw [z]; decide)), up_c (fun z => hc (by rw [z]; decide))]
      exact a2 c (fun z => hc (by simp at z; rcases z with rfl | rfl | rfl <;> decide))
    · rw [j 21 (by decide), a4, f.2.2]; show tDr L = tDr L + ((0 : Nat) : Int); omega
    · rw [hF 62 (by decide), hF 63 (by decide), up_c (by decide), up_c (by decide), (a5 p q).1, (a5 p q).2, hC.lo q]; rfl
    · rw [h64 p q]
      unfold hlI
      rw [ctP_cg (q := fun t => hasb s t ∧ tHo L t = p) (fun i hi => ?_)]
      unfold hlP
      rw [up_eq, up_c (by decide), eh _ (by omega) (by omega)]
