/-! MEANS: the class's tables -/
theorem ctP_one {p p' : Int → Prop} {t : Int} : ∀ {n : Nat}, (∀ u : Int, u ≠ t → (p' u ↔ p u)) → 0 ≤ t → t < n → ¬ p t → p' t → ctP p' n = ctP p n + 1
  | 0, _, h0, h1, _, _ => by omega
  | n + 1, h, h0, h1, hn, hy => by
    by_cases q : t = (n : Int)
    · have e : ctP p' n = ctP p n := ctP_cg (fun i hi => h _ (by omega))
      rw [ctP_t (by rw [← q]; exact hy), ctP_f (by rw [← q]; exact hn), e]
    · have ih := ctP_one (n := n) h h0 (by omega) hn hy
      by_cases w : p (n : Int)
      · rw [ctP_t w, ctP_t ((h _ (fun z => q z.symm)).mpr w), ih]
      · rw [ctP_f w, ctP_f (fun z => w ((h _ (fun z => q z.symm)).mp z)), ih]
theorem st_bd {q : Int} (h : 0 ≤ q ∧ q ≤ 8) : (1 ≤ (2 : Int) ^ q.toNat ∧ (2 : Int) ^ q.toNat ≤ 256) ∧ isl 1 q = 2 ^ q.toNat ∧ (q < 8 → isl (2 ^ q.toNat) 1 = 2 ^ (q + 1).toNat) := by
  have hq : q = 0 ∨ q = 1 ∨ q = 2 ∨ q = 3 ∨ q = 4 ∨ q = 5 ∨ q = 6 ∨ q = 7 ∨ q = 8 := by omega
  rcases hq with rfl | rfl | rfl | rfl | rfl | rfl | rfl | rfl | rfl <;> decide
def BOKi (L : LT) (k : Int) (B e : gF) (q : Int) (i : Nat) : Prop := ((ctP (fun th => B th ≠ 0) 8 : Int) = q) ∧ (∀ th, pT th → B th ≠ 0 → B th = isl 1 (e th) ∧ 0 ≤ e th ∧ e th < q ∧ ¬ hasb (tLo L k) th) ∧
  (∀ th th', pT th → pT th' → B th ≠ 0 → B th' ≠ 0 → e th = e th' → th = th') ∧ ∀ t : Int, 0 ≤ t → t < (i : Int) → hasb (tIn L) t → thr L k t → B (tTh L t) ≠ 0
theorem x53L {d : Nat} {ln : lz_L} {L : LT} {t k : Int} {I : ME} {Q : Option MV → ME → Prop} (hd : 2 ≤ d) (hC : CX ln L I) (hk : pP k) (ht : 0 ≤ t ∧ t < tSz L) (h0 : hasb (tIn L) t ∧ thr L k t → Q (some (nt 1)) I) (h1 : ¬ (hasb (tIn L) t ∧ thr L k t) → Q (some (nt 0)) I) : EvM d 53 [rf 1, nt t, nt k] I Q := by
  have f := hC.f
  have g := hC.2.1.f
  obtain ⟨f1, f2, f3, f4, f5, f6, f7, f8⟩ := f
  refine x53 hd (by omega) (fun z => h0 ?_) (fun z => h1 (fun w => z ?_))
  · unfold heC at z
    rw [f2, f5, f6, f7, f8] at z
    exact ⟨z.1.2.1, z.1.2.2, z.2.1, fun q => z.2.2 ⟨hk, q⟩⟩
  · unfold heC tkC
    rw [f1, f2, f5, f6, f7, f8]
    exact ⟨⟨ht, w.1, w.2.1⟩, w.2.2.1, fun q => w.2.2.2 q.2⟩
theorem x42L {d : Nat} {ln : lz_L} {L : LT} {t : Int} {I : ME} {Q : Option MV → ME → Prop} (hd : 1 ≤ d) (hC : CX ln L I) (ht : 0 ≤ t ∧ t < tSz L) (h : Q (some (nt (tTh L t))) I) : EvM d 42 [rf 1, nt t] I Q := by
  have f := hC.f
  have g := hC.2.1.f
  refine x42 hd (by omega) (fun _ => by rw [f.2.2.2.2.1]; exact h) (fun z => absurd (show tkC I t by unfold tkC; omega) z)
theorem x64 {d : Nat} {ln : lz_L} {L : LT} {one m : Int} {I : ME} {Q : Option MV → ME → Prop} (hd : 3 ≤ d) (hC : CX ln L I) (hk : pP one) (hm : 0 ≤ m ∧ m ≤ 12)
    (h : ∀ (J : ME) (e : gF) (q : Int), Fr [20, 21, 22, 23] I J → BOK L one (J 23) e q → J 20 5 = 2 ^ q.toNat → J 20 6 = hlL L one → (∀ p, 0 ≤ p → p < (m + 1) * 2 ^ q.toNat → J 22 p = 0 ∧ J 21 p = if p = 0 then 1 else 0) → Q none J) : EvM d 64 [rf 20, nt one, nt m] I Q := by
  have hO := hC.2.1
  have g := hO.f
  have loop : ∀ (r i : Nat) (e : gF) (q : Int) (J : ME), i + r = (tSz L).toNat → Fr [20, 23] I J → J 20 5 = 2 ^ q.toNat → BOKi L one (J 23) e q i → Ev d 64 15 [some (rf 20), some (nt one), some (nt m), some (nt (i : Int))] [] J Q := by
    intro r
    induction r with
    | zero =>
      intro i e q J hi hF h5 hB
      have hX := hC.fr (J := J) (fun c hc => hF c (by simp; omega))
      have f := hX.f
      have hq : 0 ≤ q ∧ q ≤ 8 := by have := ctP_le (fun th => J 23 th ≠ 0) 8; have := hB.1; omega
      have hs := st_bd hq
      refine Ev.go [] (T := T_64) rfl rfl ?_
      conv => whnf
      refine ⟨by omega, x35 ?_⟩
      rw [f.1]
      conv => whnf
      refine brI (fun z => ?_) (fun z => ?_)
      all_goals first | (exfalso; omega) | skip
      conv => whnf
      refine ⟨by omega, x50 (by omega) (by omega) (by omega) ?_⟩
      rw [heC_hl hX one]
      conv => whnf
      rw [show upd_ J 20 6 (hlL L one) 20 5 = J 20 5 from up_ne (by decide), h5, iad_e (by omega)]
      have hmm : 0 ≤ (m + 1) * 2 ^ q.toNat ∧ (m + 1) * 2 ^ q.toNat ≤ 3328 := by
        refine ⟨Int.mul_nonneg (by omega) (by omega), ?_⟩
        have := Int.mul_le_mul (a := m + 1) (b := 2 ^ q.toNat) (c := 13) (d := 256) (by omega) hs.1.2 (by omega) (by omega)
        omega
      rw [iml_e (by omega)]
      refine ⟨by omega, x310_21 (by omega) (by omega) (by omega) (by omega) ?_⟩
      conv => whnf
      rw [show fil (upd_ J 20 6 (hlL L one)) 21 0 ((m + 1) * 2 ^ q.toNat) 0 20 5 = 2 ^ q.toNat by rw [fil_c (by decide), up_ne (by decide)]; exact h5, iad_e (by omega), iml_e (by omega)]
      refine ⟨by omega, x310_22 (by omega) (by omega) (by omega) (by omega) ?_⟩
      conv => whnf
      refine anI (by omega) ?_
      conv => whnf
      refine ⟨trivial, h _ e q (fr_up (fr_fi (fr_fi (fr_up (hF.sub (by decide)) (by decide)) (by decide)) (by decide)) (by decide)) ?_ ?_ ?_ (fun p p0 p1 => ⟨?_, ?_⟩)⟩
      · rw [up_c (by decide), fil_c (by decide), fil_c (by decide), up_c (by decide)]
        exact ⟨hq, hB.2.1, hB.2.2.1, fun t t0 t1 => hB.2.2.2 t t0 (by omega)⟩
      · rw [up_c (by decide), fil_c (by decide), fil_c (by decide), up_ne (by decide)]; exact h5
      · rw [up_c (by decide), fil_c (by decide), fil_c (by decide), up_eq]
      · rw [up_c (by decide), fil_g]
        unfold flr
        rw [if_pos ⟨p0, p1⟩]
      · rw [up_any]
        by_cases w : p = 0
        · rw [if_pos w, if_pos w]
        · rw [if_neg w, if_neg w, fil_c (by decide), fil_g]
          unfold flr
          rw [if_pos ⟨p0, p1⟩]
    | succ r ih =>
      intro i e q J hi hF h5 hB
      have hX := hC.fr (J := J) (fun c hc => hF c (by simp; omega))
      have f := hX.f
      have ei : iad (i : Int) 1 = ((i + 1 : Nat) : Int) := by rw [iad_e (by omega)]; rfl
      have hct := ctP_le (fun th => J 23 th ≠ 0) 8
      have hq : 0 ≤ q ∧ q ≤ 8 := by have := hB.1; omega
      have hs := st_bd hq
      have hT := (hO.t (t := (i : Int)) (by omega) (by omega)).1
      refine Ev.go [15] (T := T_64) rfl rfl ?_
      conv => whnf
      refine ⟨by omega, x35 ?_⟩
      rw [f.1]
      conv => whnf
      refine brI (fun z => ?_) (fun z => ?_)
      all_goals first | (exfalso; omega) | skip
      conv => whnf
      have same : (hasb (tIn L) (i : Int) → thr L one (i : Int) → J 23 (tTh L (i : Int)) ≠ 0) → Ev d 64 15 [some (rf 20), some (nt one), some (nt m), some (nt (iad (i : Int) 1))] [] J Q := fun hn => by
        rw [ei]
        refine ih (i + 1) e q J (by omega) hF h5 ⟨hB.1, hB.2.1, hB.2.2.1, fun t t0 t1 a b => ?_⟩
        by_cases w : t = (i : Int)
        · rw [w] at a b ⊢; exact hn a b
        · exact hB.2.2.2 t t0 (by omega) a b
      refine ⟨by omega, x53L (by omega) hX hk (by omega) (fun z1 => ?_) (fun z1 => ?_)⟩ <;> conv => whnf
      · refine ⟨by omega, x42L (by omega) hX (by omega) ?_⟩
        conv => whnf
        refine anI (by omega) ?_
        conv => whnf
        refine brI (fun z2 => ?_) (fun z2 => ?_) <;> conv => whnf
        · refine ⟨by omega, x42L (by omega) hX (by omega) ?_⟩
          conv => whnf
          refine anI (by omega) ?_
          conv => whnf
          rw [show upd_ J 23 (tTh L (i : Int)) (J 20 5) 20 5 = J 20 5 by rw [up_c (by decide)], h5]
          have e7 : ctP (fun th => fu (J 23) (tTh L (i : Int)) (2 ^ q.toNat) th ≠ 0) 8 = ctP (fun th => J 23 th ≠ 0) 8 + 1 :=
            ctP_one (t := tTh L (i : Int)) (fun u hu => by rw [fu_ne hu]) hT.1 hT.2 (fun z => z z2) (by rw [fu_eq]; omega)
          have hct2 := ctP_le (fun th => fu (J 23) (tTh L (i : Int)) (2 ^ q.toNat) th ≠ 0) 8
          have hq8 : q < 8 := by have := hB.1; omega
          rw [hs.2.2 hq8, ei]
          refine ⟨trivial, ih (i + 1) (fu e (tTh L (i : Int)) q) (q + 1) _ (by omega) (fr_up (fr_up hF (by decide)) (by decide)) (by rw [up_eq]) ?_⟩
          rw [show upd_ (upd_ J 23 (tTh L (i : Int)) (2 ^ q.toNat)) 20 5 (2 ^ (q + 1).toNat) 23 = fu (J 23) (tTh L (i : Int)) (2 ^ q.toNat) by rw [up_c (by decide), up_g]]
          refine ⟨by rw [e7]; have := hB.1; omega, fun th hp hb => ?_, fun th th' hp hp' hb hb' he => ?_, fun t t0 t1 a b => ?_⟩
          · by_cases w : th = tTh L (i : Int)
            · rw [w, fu_eq, fu_eq]
              exact ⟨hs.2.1.symm, hq.1, by omega, z1.2.2.2⟩
            · rw [fu_ne w] at hb
              have := hB.2.1 th hp hb
              rw [fu_ne w, fu_ne w]
              exact ⟨this.1, this.2.1, by omega, this.2.2.2⟩
          · by_cases w : th = tTh L (i : Int)
            · by_cases w' : th' = tTh L (i : Int)
              · rw [w, w']
              · rw [fu_ne w'] at hb'
                have := hB.2.1 th' hp' hb'
                rw [w, fu_eq, fu_ne w'] at he
                omega
            · rw [fu_ne w] at hb
              have h3 := hB.2.1 th hp hb
              by_cases w' : th' = tTh L (i : Int)
              · rw [w', fu_eq, fu_ne w] at he
                omega
              · rw [fu_ne w'] at hb'
                rw [fu_ne w, fu_ne w'] at he
                exact hB.2.2.1 th th' hp hp' hb hb' he
          · by_cases w : tTh L t = tTh L (i : Int)
            · rw [w, fu_eq]; omega
            · rw [fu_ne w]
              refine hB.2.2.2 t t0 ?_ a b
              have : t ≠ (i : Int) := fun z => w (by rw [z])
              omega
        · exact ⟨trivial, same (fun _ _ => z2)⟩
      · exact ⟨trivial, same (fun a b => absurd ⟨a, b⟩ z1)⟩
  refine EvM.go [15] (T := T_64) rfl rfl rfl rfl ?_
  conv => whnf
  refine ⟨by omega, x309_23 ?_⟩
  conv => whnf
  have e0 : ∀ th : Int, 0 ≤ th → th < 8 → upd_ (fil I 23 0 8 0) 20 5 1 23 th = 0 := fun th h0 h1 => by
    rw [up_c (by decide), fil_g]
    unfold flr
    rw [if_pos ⟨h0, h1⟩]
  refine ⟨trivial, loop (tSz L).toNat 0 (fun _ => 0) 0 _ (Nat.zero_add _) (fr_up (fr_fi Fr.rfl' (by decide)) (by decide)) (by rw [up_eq]; rfl) ⟨?_, fun th hp hb => absurd (e0 th hp.1 hp.2) hb, fun th th' hp _ hb => absurd (e0 th hp.1 hp.2) hb, fun t t0 t1 => by exfalso; omega⟩⟩
  have : ∀ n : Nat, n ≤ 8 → ctP (fun th => upd_ (fil I 23 0 8 0) 20 5 1 23 th ≠ 0) n = 0 := by
    intro n
    induction n with
    | zero => intro _; rfl
    | succ n ihn =>
      intro hn
      rw [ctP_f (fun z => z (e0 _ (by omega) (by omega)))]
      exact ihn (by omega)
  rw [this 8 (Nat.le_refl _)]
  rfl
