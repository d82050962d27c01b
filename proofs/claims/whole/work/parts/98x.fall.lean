/-! DRAWS IN THOUGHT: the class -/
def scT : List Nat := [11, 12, 13, 16, 17, 18, 19]
theorem x118 {d : Nat} {k : Int} {I : ME} {Q : Option MV → ME → Prop} (hk : pP k) (h : Q (some (nt (I 19 k))) I) (hd : 1 ≤ d) : EvM d 118 [rf 16, nt k] I Q := by
  refine EvM.go [] (T := T_118) rfl rfl rfl rfl ?_
  conv => whnf
  refine ⟨by omega, x175 (fun _ => ?_) (fun z => absurd hk z)⟩
  conv => whnf
  refine anI (by omega) ?_
  conv => whnf
  exact ⟨trivial, h⟩
theorem x120 {d : Nat} {ln : lz_L} {L : LT} {t : Int} {I : ME} {Q : Option MV → ME → Prop} (hd : 5 ≤ d) (hC : CX ln L I) (ht : 0 ≤ t ∧ t < tSz L) (hm : ∀ p, pP p → (0 ≤ I 17 p ∧ I 17 p < 256) ∧ (0 ≤ I 18 p ∧ I 18 p ≤ 12) ∧ (-1000000000 ≤ I 19 p ∧ I 19 p ≤ 1000000000)) (hdd : 0 ≤ I 16 6 ∧ I 16 6 ≤ 12)
    (h : ∀ J, Fr [11, 12, 13, 16, 17, 19] I J → CX ln L J → J 16 5 = I 16 5 → J 16 6 = I 16 6 + 1 → (∀ p, pP p → (J 17 p, J 19 p) = fa1 ln L (I 18 p) p t (I 16 6) (I 17 p, I 19 p)) → Q none J) : EvM d 120 [rf 16, nt t] I Q := by
  obtain ⟨f1, f2, f3, f4, f5, f6, f7, f8⟩ := hC.f
  have hO := hC.2.1
  have g := hO.f
  have gt := hO.t ht.1 (by omega)
  have tail : ∀ (J : ME) (b x : Option MV), Fr [11, 12, 13, 16, 17, 19] I J → CX ln L J → J 16 = I 16 → (∀ p, pP p → (J 17 p, J 19 p) = fa1 ln L (I 18 p) p t (I 16 6) (I 17 p, I 19 p)) → Ev d 120 98 [some (rf 16), some (nt t), b, x] [] J Q := by
    intro J b x hF hX h16 hq
    refine Ev.go [] (T := T_120) rfl rfl ?_
    conv => whnf
    refine ⟨trivial, h _ (fr_up hF (by decide)) (hX.fr (fun c hc => up_c (by omega))) ?_ ?_ (fun p hp => ?_)⟩
    · rw [up_ne (by decide), h16]
    · rw [up_eq, h16, iad_e (by omega)]
    · rw [up_c (by decide), up_c (by decide)]; exact hq p hp
  have no : (¬ (pP (tHo L t) ∧ tBl L t = 0 ∧ ¬ hasb (I 17 (tHo L t)) (tTh L t))) → ∀ p, pP p → (I 17 p, I 19 p) = fa1 ln L (I 18 p) p t (I 16 6) (I 17 p, I 19 p) := by
    intro hn p hp
    unfold fa1
    rw [if_neg]
    rintro ⟨a, b, c⟩
    subst a
    exact hn ⟨hp, b, c⟩
  refine EvM.go [98] (T := T_120) rfl rfl rfl rfl ?_
  conv => whnf
  refine ⟨by omega, x44 (by omega) (by omega) (fun _ => ?_) (fun z => absurd (show tkC I t by unfold tkC; omega) z)⟩
  conv => whnf
  rw [f6]
  refine ⟨by omega, x175 (fun hk => ?_) (fun hk => ?_)⟩ <;> conv => whnf
  · refine ⟨by omega, x43 (by omega) (by omega) (fun z => ?_) (fun z => ?_)⟩ <;> conv => whnf
    · rw [f7] at z
      exact ⟨trivial, tail I _ _ Fr.rfl' hC rfl (no (fun q => z.2 q.2.1))⟩
    · have hb : tBl L t = 0 := by
        rw [f7] at z
        by_cases q : tBl L t = 0
        · exact q
        · exact absurd ⟨(show tkC I t by unfold tkC; omega), q⟩ z
      refine ⟨by omega, x42 (by omega) (by omega) (fun _ => ?_) (fun z => absurd (show tkC I t by unfold tkC; omega) z)⟩
      conv => whnf
      rw [f5]
      have hmk := hm _ hk
      refine anI (by omega) ?_
      conv => whnf
      refine brI (fun q => ?_) (fun q => ?_) <;> conv => whnf
      · have hnb : ¬ hasb (I 17 (tHo L t)) (tTh L t) := hasb_0.mp q
        iterate 3
          refine anI (by omega) ?_
          conv => whnf
        refine ⟨by omega, x295p (by omega) (by omega) ?_⟩
        conv => whnf
        have hp8 := pI_8 hmk.1
        refine ⟨by omega, x30 (by omega) hC.2.2.1 rfl ⟨hC.2.2.2.1.1, hC.2.2.2.1.2.1, hC.2.2.2.1.2.2⟩ hC.2.2.2.2 hk gt.1 hmk.2.1 hp8 hdd (fun J hF hK => ?_)⟩
        conv => whnf
        have hX : CX ln L J := hC.keep (fun c h1 h2 => hF c (by simp; omega)) hK
        iterate 3
          refine anI (by omega) ?_
          conv => whnf
        refine ⟨trivial, tail _ _ _ (fr_up (fr_up (fun c hc => hF c (fun z => hc (by simp at z; rcases z with rfl | rfl | rfl <;> decide))) (by decide)) (by decide)) (hX.fr (fun c hc => ?_)) ?_ (fun p hp => ?_)⟩
        · rw [up_c (by omega), up_c (by omega)]
        · rw [up_c (by decide), up_c (by decide), hF 16 (by decide)]
        · have e17 : J 17 = I 17 := hF 17 (by decide)
          have e19 : J 19 = I 19 := hF 19 (by decide)
          have hb2 := lz_cl_bd (lz_val (lz_nms (tLv L (8 * tHo L t + tTh L t)) (I 18 (tHo L t)) (pI (I 17 (tHo L t))) (tTh L t) (tHo L t) (I 16 6)) ln)
          have hb3 : lz_loss ln (I 2) (tHo L t) (tTh L t) (I 18 (tHo L t)) (pI (I 17 (tHo L t))) (I 16 6) = lz_cl (lz_val (lz_nms (tLv L (8 * tHo L t + tTh L t)) (I 18 (tHo L t)) (pI (I 17 (tHo L t))) (tTh L t) (tHo L t) (I 16 6)) ln) := by rw [f4]; rfl
          rw [up_c (c := 17) (by decide : (19 : Nat) ≠ 17), up_any, up_any, e19, up_c (by decide), e17]
          unfold fa1
          by_cases w : p = tHo L t
          · subst w
            rw [if_pos rfl, if_pos rfl, if_pos ⟨rfl, hb, hnb⟩, iad_e (by omega), f4]
          · rw [if_neg w, if_neg w, if_neg (fun z => w z.1.symm)]
      · have hnb : hasb (I 17 (tHo L t)) (tTh L t) := by
          have := ian_1 (isr (I 17 (tHo L t)) (tTh L t))
          unfold hasb
          omega
        exact ⟨trivial, tail I _ _ Fr.rfl' hC rfl (no (fun q => q.2.2 hnb))⟩
  · exact ⟨trivial, tail I _ _ Fr.rfl' hC rfl (no (fun q => hk q.1))⟩
