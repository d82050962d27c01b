/-! MEANS: the sum for one -/
theorem lsN_q0 {ln : lz_L} {L : LT} {k : Int} {B e : gF} (hL : LTok L) (hk : pP k) (hB : BOK L k B e 0) : ∀ i : Nat, i ≤ (tSz L).toNat → ∀ D : Nat, D < 2 ^ i → ian (D : Int) (ixr (tIn L) (-1)) = 0 → lsN ln L k D = 0
  | 0, _, D, hD, _ => by
    rw [lsN_lo hL (i := 0) (by omega) hD]
    rfl
  | i + 1, hi, D, hD, hin => by
    have ih := lsN_q0 (ln := ln) hL hk hB i (by omega)
    have g := hL.f
    by_cases h : D < 2 ^ i
    · exact ih D h hin
    · have h2 : 2 ^ (i + 1) = 2 ^ i + 2 ^ i := by rw [Nat.pow_succ, Nat.mul_two]
      obtain ⟨D', rfl⟩ : ∃ D', D = 2 ^ i + D' := ⟨D - 2 ^ i, by omega⟩
      have hD' : D' < 2 ^ i := by omega
      have hi12 : i < 12 := by omega
      have q := (tp_in hi12 hD' g.2.1.1 g.2.1.2).mp hin
      have hi0 : (i : Int) < tSz L := by omega
      rw [lsN_top hL hk hB (by omega) hD' q.2 q.1, ih D' hD' q.2]
      have hth : ¬ thr L k (i : Int) := fun z => by
        have := hB.2.1 _ (hL.t (t := (i : Int)) (by omega) (by omega)).1 (hB.2.2.2 _ (by omega) hi0 q.1 z)
        have a1 := this.2.1
        have a2 := this.2.2.1
        omega
      have hs := sg_in (ln := ln) (h := 0) hL hk hB (by omega) hD' q.2
      unfold byS bitL
      rw [if_neg hth, iro_z hs.2.2.1.1.1 (by have := hs.2.2.1.1.2; omega), if_neg (fun z => z rfl)]
      rfl
def TB (ln : lz_L) (L : LT) (k m : Int) (B : gF) (st : Int) (N : Int → Nat) (J : ME) : Prop := ∀ j s, 0 ≤ j → j ≤ m → 0 ≤ s → s < st → J 21 (j * st + s) = gU L k B (fun _ => 1) (N j) j s ∧ J 22 (j * st + s) = gU L k B (lsN ln L k) (N j) j s
theorem row_lt {a b st : Int} (h : a < b) (hs : 0 ≤ st) : a * st + st ≤ b * st := by
  have := Int.mul_le_mul_of_nonneg_right (show a + 1 ≤ b by omega) hs
  rw [Int.add_mul, Int.one_mul] at this
  exact this
theorem x63 {d : Nat} {ln : lz_L} {L : LT} {one m : Int} {I : ME} {Q : Option MV → ME → Prop} (hd : 6 ≤ d) (hC : CX ln L I) (hk : pP one) (hm : 0 ≤ m ∧ m ≤ 12)
    (h : ∀ J, Fr [11, 12, 13, 20, 21, 22, 23] I J → CX ln L J → Q (some (nt (smA ln L one m))) J) : EvM d 63 [rf 20, nt one, nt m] I Q := by
  have hO := hC.2.1
  have g := hO.f
  refine EvM.go [21] (T := T_63) rfl rfl rfl rfl ?_
  conv => whnf
  refine ⟨by omega, x64 (by omega) hC hk hm (fun J0 e q hF0 hB h5 h6 hZ => ?_)⟩
  conv => whnf
  have hX0 : CX ln L J0 := hC.fr (fun c hc => hF0 c (by simp; omega))
  have hF0' : Fr [11, 12, 13, 20, 21, 22, 23] I J0 := hF0.sub (by decide)
  generalize hBB : J0 23 = B at hB
  have hq := hB.1
  have hs := st_bd hq
  have hend := smU_e (ln := ln) hO hk hB (m := m)
  have hlsb : ∀ D : Nat, -1188 ≤ lsN ln L one D ∧ lsN ln L one D ≤ 1188 := lsN_bd hO hk
  have hst : ∃ st : Int, (2 : Int) ^ q.toNat = st := ⟨_, rfl⟩
  obtain ⟨st, hst⟩ := hst
  rw [hst] at h5 hZ hs hend
  rw [h5]
  refine brI (fun z => ?_) (fun z => ?_) <;> conv => whnf
  · have hq0 : q = 0 := by
      have : q = 0 ∨ q = 1 ∨ q = 2 ∨ q = 3 ∨ q = 4 ∨ q = 5 ∨ q = 6 ∨ q = 7 ∨ q = 8 := by omega
      rcases this with rfl | rfl | rfl | rfl | rfl | rfl | rfl | rfl | rfl
      · rfl
      all_goals (have h9 : (1 : Int) < st := by rw [← hst]; decide
                 omega)
    subst hq0
    have e0 : smA ln L one m = 0 := by
      unfold smA twN
      refine smF_z (fun D hD => ?_)
      by_cases w : dwP L m (D : Int)
      · rw [if_pos w]; exact lsN_q0 hO hk hB _ (Nat.le_refl _) D hD w.1
      · rw [if_neg w]
    have := h J0 hF0' hX0
    rw [e0] at this
    exact ⟨trivial, this⟩
  · -- the sum over the states
    have tail : ∀ (r s : Nat) (x3 : Int) (J : ME), (s : Int) + r = st → Fr [11, 12, 13, 20, 21, 22, 23] I J → CX ln L J → J 20 5 = st → TB ln L one m B st (fun _ => (tSz L).toNat) J →
        Ev d 63 89 [some (rf 20), some (nt one), some (nt m), some (nt x3), some (nt (smU L one B (lsN ln L one) m (s : Int))), some (nt (s : Int))] [] J Q := by
      intro r
      induction r with
      | zero =>
        intro s x3 J hr hF hX j5 hT
        refine Ev.go [] (T := T_63) rfl rfl ?_
        conv => whnf
        rw [j5]
        refine brI (fun z => ?_) (fun z => ?_)
        all_goals first | (exfalso; omega) | skip
        conv => whnf
        rw [show (s : Int) = st by omega, hend]
        exact ⟨trivial, h J hF hX⟩
      | succ r ih =>
        intro s x3 J hr hF hX j5 hT
        have ei : iad (s : Int) 1 = ((s + 1 : Nat) : Int) := by rw [iad_e (by omega)]; rfl
        have hms : 0 ≤ m * st ∧ m * st ≤ 3072 := by
          refine ⟨Int.mul_nonneg (by omega) (by omega), ?_⟩
          have := Int.mul_le_mul (a := m) (b := st) (c := 12) (d := 256) (by omega) (by omega) (by omega) (by omega)
          omega
        have hrow : J 22 (m * st + (s : Int)) = gU L one B (lsN ln L one) (tSz L).toNat m (s : Int) := (hT m (s : Int) hm.1 (Int.le_refl _) (by omega) (by omega)).2
        have hn12 : (tSz L).toNat ≤ 12 := by omega
        have b1 := gU_bd (L := L) (k := one) (B := B) (f := lsN ln L one) (b := 1188) (i := (tSz L).toNat) hn12 (by omega) (fun D _ => hlsb D) m (s : Int)
        have b2 : -(1188 * 4096) ≤ smU L one B (lsN ln L one) m (s : Int) ∧ smU L one B (lsN ln L one) m (s : Int) ≤ 1188 * 4096 := by
          unfold smU
          refine smF_bd2 hn12 (by omega) (fun D hD => ?_)
          have := hlsb D
          split <;> omega
        refine Ev.go [89] (T := T_63) rfl rfl ?_
        conv => whnf
        rw [j5]
        refine brI (fun z => ?_) (fun z => ?_)
        all_goals first | (exfalso; omega) | skip
        conv => whnf
        rw [j5, iml_e (by omega), iad_e (a := m * st) (by omega)]
        refine anI (by omega) ?_
        conv => whnf
        rw [hrow, iad_e (by omega), ei]
        refine ⟨trivial, Ev.to ?_ rfl (ih (s + 1) x3 J (by omega) hF hX j5 hT)⟩
        rw [show ((s + 1 : Nat) : Int) = (s : Int) + 1 from rfl, smU_s]
    -- rows of one ticket, from the last down
    have inner : ∀ (r : Nat) (i : Nat) (j : Int) (J : ME), j + 1 = r → i < (tSz L).toNat → hasb (tIn L) (i : Int) → j ≤ m - 1 → Fr [11, 12, 13, 20, 21, 22, 23] I J → CX ln L J → J 20 = J0 20 → J 23 = B → TB ln L one m B st (fun jr => if j + 1 < jr then i + 1 else i) J →
        (∀ J, Fr [11, 12, 13, 20, 21, 22, 23] I J → CX ln L J → J 20 = J0 20 → J 23 = B → TB ln L one m B st (fun _ => i + 1) J → Ev d 63 74 [some (rf 20), some (nt one), some (nt m), some (nt (ctP (fun t => hasb (tIn L) t) i : Int)), some (nt (i : Int)), some (nt (-1))] [] J Q) →
        Ev d 63 54 [some (rf 20), some (nt one), some (nt m), some (nt (ctP (fun t => hasb (tIn L) t) i : Int)), some (nt (i : Int)), some (nt j)] [] J Q := by
      intro r
      induction r with
      | zero =>
        intro i j J hr hi hin hjm hF hX j20 j23 hT hn
        have hj : j = -1 := by omega
        subst hj
        refine Ev.go [74] (T := T_63) rfl rfl ?_
        conv => whnf
        refine ⟨trivial, hn J hF hX j20 j23 (fun jr s a b c dd => ?_)⟩
        have := hT jr s a b c dd
        by_cases w : (-1 : Int) + 1 < jr
        · simp only [if_pos w] at this
          exact this
        · simp only [if_neg w] at this
          have e0 : jr = 0 := by omega
          subst e0
          rw [gU_top hO hk hB hi, gU_top hO hk hB hi, if_pos hin, if_pos hin, gP_far hO (by omega) (Or.inr (by omega)), gP_far hO (by omega) (Or.inr (by omega)), Int.add_zero, Int.add_zero]
          exact this
      | succ r ih =>
        intro i j J hr hi hin hjm hF hX j20 j23 hT hn
        refine Ev.go [54, 74] (T := T_63) rfl rfl ?_
        conv => whnf
        refine brI (fun z => ?_) (fun z => ?_)
        all_goals first | (exfalso; omega) | skip
        conv => whnf
        have r1 := row_lt (a := j) (b := j + 1) (st := st) (by omega) (by omega)
        refine ⟨by omega, x65 (q := q) (by omega) hX hk hi hin (by omega) hB j23 (by rw [j20, h5, hst]) (by rw [j20]; exact h6) (fun s s0 s1 => ?_) (fun K hF2 hX2 hK1 hK2 => ?_)⟩
        · rw [hst] at s1 ⊢
          have a := hT j s (by omega) (by omega) s0 s1
          have b := hT (j + 1) s (by omega) (by omega) s0 s1
          simp only [if_neg (show ¬ j + 1 < j by omega)] at a
          simp only [if_neg (show ¬ j + 1 < j + 1 by omega)] at b
          exact ⟨a, b⟩
        · conv => whnf
          rw [show iad j (-1) = j - 1 by rw [iad_e (by omega)]; omega]
          rw [hst] at hK1 hK2
          refine ⟨trivial, ih i (j - 1) K (by omega) hi hin (by omega) (hF.tr (hF2.sub (by decide))) hX2 (by rw [hF2 20 (by decide)]; exact j20) (by rw [hF2 23 (by decide)]; exact j23) (fun jr s a b c dd => ?_) hn⟩
          by_cases w : jr = j + 1
          · subst w
            simp only [if_pos (show j - 1 + 1 < j + 1 by omega)]
            exact hK1 s c dd
          · have hT2 := hT jr s a b c dd
            have hp : jr * st + s < (j + 1) * st ∨ (j + 1) * st + st ≤ jr * st + s := by
              by_cases w2 : jr < j + 1
              · have := row_lt w2 (st := st) (by omega); omega
              · have := row_lt (a := j + 1) (b := jr) (st := st) (by omega) (by omega); omega
            have hk2 := hK2 _ hp
            rw [hk2.1, hk2.2]
            by_cases w3 : j + 1 < jr
            · simp only [if_pos w3] at hT2
              simp only [if_pos (show j - 1 + 1 < jr by omega)]
              exact hT2
            · simp only [if_neg w3] at hT2
              simp only [if_neg (show ¬ j - 1 + 1 < jr by omega)]
              exact hT2
    have outer : ∀ (r i : Nat) (x5 : Option MV) (J : ME), i + r = (tSz L).toNat → Fr [11, 12, 13, 20, 21, 22, 23] I J → CX ln L J → J 20 = J0 20 → J 23 = B → TB ln L one m B st (fun _ => i) J →
        Ev d 63 21 [some (rf 20), some (nt one), some (nt m), some (nt (ctP (fun t => hasb (tIn L) t) i : Int)), some (nt (i : Int)), x5] [] J Q := by
      intro r
      induction r with
      | zero =>
        intro i x5 J hi hF hX j20 j23 hT
        have fj := hX.f
        refine Ev.go [89] (T := T_63) rfl rfl ?_
        conv => whnf
        refine ⟨by omega, x35 ?_⟩
        rw [fj.1]
        conv => whnf
        refine brI (fun z => ?_) (fun z => ?_)
        all_goals first | (exfalso; omega) | skip
        conv => whnf
        have e : i = (tSz L).toNat := by omega
        subst e
        refine ⟨trivial, Ev.to ?_ rfl (tail st.toNat 0 (ctP (fun t => hasb (tIn L) t) (tSz L).toNat : Int) J (by omega) hF hX (by rw [j20]; exact h5) hT)⟩
        rw [show ((0 : Nat) : Int) = 0 from rfl, smU_0 hO hk hB]
      | succ r ih =>
        intro i x5 J hi hF hX j20 j23 hT
        have fj := hX.f
        have ei : iad (i : Int) 1 = ((i + 1 : Nat) : Int) := by rw [iad_e (by omega)]; rfl
        have hi' : i < (tSz L).toNat := by omega
        refine Ev.go [21, 54] (T := T_63) rfl rfl ?_
        conv => whnf
        refine ⟨by omega, x35 ?_⟩
        rw [fj.1]
        conv => whnf
        refine brI (fun z => ?_) (fun z => ?_)
        all_goals first | (exfalso; omega) | skip
        conv => whnf
        refine ⟨by omega, x37 (by omega) (fun z1 => ?_) (fun z1 => ?_)⟩ <;> conv => whnf
        · have hin : hasb (tIn L) (i : Int) := by have := z1.2; rw [fj.2.1] at this; exact this
          have hct := ctP_le (fun t => hasb (tIn L) t) i
          obtain ⟨jm, hjm, j1, j2, j3⟩ : ∃ jm : Int, imn (ctP (fun t => hasb (tIn L) t) i : Int) (isb m 1) = jm ∧ -1 ≤ jm ∧ jm ≤ m - 1 ∧ (jm = m - 1 ∨ jm = (ctP (fun t => hasb (tIn L) t) i : Int)) := by
            rw [isb_e (by omega)]
            unfold imn
            split
            · exact ⟨_, rfl, by omega, by omega, by omega⟩
            · exact ⟨_, rfl, by omega, by omega, by omega⟩
          rw [hjm]
          refine ltI (by omega) ?_
          conv => whnf
          refine ⟨trivial, inner (jm + 1).toNat i jm J (by omega) hi' hin j2 hF hX j20 j23 (fun jr s a b c dd => ?_) (fun K hF2 hX2 k20 k23 hT2 => ?_)⟩
          · have := hT jr s a b c dd
            by_cases w : jm + 1 < jr
            · simp only [if_pos w]
              rw [gU_top hO hk hB hi', gU_top hO hk hB hi', if_pos hin, if_pos hin, gP_far hO (by omega) (Or.inl (by omega)), gP_far hO (by omega) (Or.inl (by omega)), Int.add_zero, Int.add_zero]
              exact this
            · simp only [if_neg w]
              exact this
          · refine Ev.go [21] (T := T_63) rfl rfl ?_
            conv => whnf
            rw [ei, show iad (ctP (fun t => hasb (tIn L) t) i : Int) 1 = (ctP (fun t => hasb (tIn L) t) (i + 1) : Int) by rw [ctP_t (p := fun t => hasb (tIn L) t) hin, iad_e (by omega)]; rfl]
            exact ⟨trivial, ih (i + 1) _ K (by omega) hF2 hX2 k20 k23 hT2⟩
        · have hin : ¬ hasb (tIn L) (i : Int) := fun w => z1 ⟨by unfold tkC; omega, by rw [fj.2.1]; exact w⟩
          have hc : (ctP (fun t => hasb (tIn L) t) (i + 1)) = ctP (fun t => hasb (tIn L) t) i := ctP_f (p := fun t => hasb (tIn L) t) hin
          have nx := ih (i + 1) x5 J (by omega) hF hX j20 j23 (fun jr s a b c dd => by
            have := hT jr s a b c dd
            show J 21 (jr * st + s) = gU L one B (fun _ => 1) (i + 1) jr s ∧ J 22 (jr * st + s) = gU L one B (lsN ln L one) (i + 1) jr s
            rw [gU_top hO hk hB hi', gU_top hO hk hB hi', if_neg hin, if_neg hin, Int.add_zero, Int.add_zero]
            exact this)
          rw [hc] at nx
          rw [ei]
          exact ⟨trivial, nx⟩
    refine ⟨trivial, outer _ 0 none J0 (Nat.zero_add _) hF0' hX0 rfl hBB (fun jr s a b c dd => ?_)⟩
    have hp : 0 ≤ jr * st + s ∧ jr * st + s < (m + 1) * st := by
      have h1 := Int.mul_nonneg a (show 0 ≤ st by omega)
      have h2 := row_lt (a := jr) (b := m + 1) (st := st) (by omega) (by omega)
      omega
    have hz := hZ _ hp.1 hp.2
    have e0 : pI ((0 : Nat) : Int) = 0 := pI_0
    have ein : ian ((0 : Nat) : Int) (ixr (tIn L) (-1)) = 0 := by
      rw [areIn_iff (by omega) (by omega) g.2.1.1 g.2.1.2]
      intro u u0 u1 w
      exact absurd w (hb_0 u0 (by omega))
    have g0 : ∀ f : Nat → Int, gU L one B f 0 jr s = if jr = 0 ∧ s = 0 then f 0 else 0 := fun f => by
      unfold gU
      show (0 : Int) + (if mPd L one B 0 jr s 0 then f 0 else 0) = _
      by_cases w : jr = 0 ∧ s = 0
      · rw [if_pos w, if_pos ⟨ein, by rw [e0, w.1], by rw [w.2]; rfl⟩]; omega
      · rw [if_neg w, if_neg (fun z => w ⟨by rw [← z.2.1, e0], z.2.2.symm⟩)]; rfl
    rw [hz.1, hz.2, g0, g0]
    have hj0 : jr * st + s = 0 ↔ jr = 0 ∧ s = 0 := by
      constructor
      · intro w
        by_cases w2 : jr = 0
        · subst w2; rw [Int.zero_mul] at w; exact ⟨rfl, by omega⟩
        · have := row_lt (a := 0) (b := jr) (st := st) (by omega) (by omega)
          rw [Int.zero_mul] at this
          omega
      · rintro ⟨rfl, rfl⟩; rw [Int.zero_mul]; rfl
    have hl0 : lsN ln L one 0 = 0 := by rw [lsN_lo hO (i := 0) (by omega) (by decide)]; rfl
    by_cases w : jr = 0 ∧ s = 0
    · rw [if_pos (hj0.mpr w), if_pos w, if_pos w, hl0]; exact ⟨rfl, rfl⟩
    · rw [if_neg (fun z => w (hj0.mp z)), if_neg w, if_neg w]; exact ⟨rfl, rfl⟩
