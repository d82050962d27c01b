/-! SUMS over all draws: the sum for all; the model's -/
noncomputable def smL_ (ln : lz_L) (L : LT) (m : Int) : Int := smF (fun p => smA ln L (p : Int) m) 6
theorem smA_bd {ln : lz_L} {L : LT} {k m : Int} (hL : LTok L) (hk : pP k) : -4866048 ≤ smA ln L k m ∧ smA ln L k m ≤ 4866048 := by
  have g := hL.f
  have := smF_bd2 (f := fun D => if dwP L m (D : Int) then lsN ln L k D else 0) (b := 1188) (i := (tSz L).toNat) (by omega) (by omega) (fun D hD => by
    have := lsN_bd (ln := ln) hL hk D
    show -1188 ≤ (if dwP L m (D : Int) then lsN ln L k D else 0) ∧ (if dwP L m (D : Int) then lsN ln L k D else 0) ≤ 1188
    split <;> omega)
  unfold smA twN
  omega
theorem smF_6 {f : Nat → Int} {b : Int} (hb : 0 ≤ b) (h : ∀ p : Nat, p < 6 → -b ≤ f p ∧ f p ≤ b) : ∀ n : Nat, n ≤ 6 → -(b * 6) ≤ smF f n ∧ smF f n ≤ b * 6 := fun n hn => by
  have h1 := smF_bd (f := f) (b := b) (n := n) (fun i hi => h i (by omega))
  have h2 : b * (n : Int) ≤ b * 6 := Int.mul_le_mul_of_nonneg_left (by omega) hb
  omega
theorem x62 {d : Nat} {ln : lz_L} {L : LT} {m : Int} {I : ME} {Q : Option MV → ME → Prop} (hd : 7 ≤ d) (hC : CX ln L I) (hm : 0 ≤ m ∧ m ≤ 12)
    (h : ∀ J, Fr [11, 12, 13, 20, 21, 22, 23] I J → CX ln L J → Q (some (nt (smL_ ln L m))) J) : EvM d 62 [rf 20, nt m] I Q := by
  have hO := hC.2.1
  have hb := smF_6 (f := fun p => smA ln L (p : Int) m) (b := 4866048) (by omega) (fun p hp => smA_bd hO (by omega))
  have loop : ∀ (r k : Nat) (J : ME), k + r = 6 → Fr [11, 12, 13, 20, 21, 22, 23] I J → CX ln L J → Ev d 62 4 [some (rf 20), some (nt m), some (nt (smF (fun p => smA ln L (p : Int) m) k)), some (nt (k : Int))] [] J Q := by
    intro r
    induction r with
    | zero =>
      intro k J hr hF hX
      refine Ev.go [] (T := T_62) rfl rfl ?_
      conv => whnf
      refine brI (fun z => ?_) (fun z => ?_)
      all_goals first | (exfalso; omega) | skip
      conv => whnf
      have e : k = 6 := by omega
      subst e
      exact ⟨trivial, h J hF hX⟩
    | succ r ih =>
      intro k J hr hF hX
      have ei : iad (k : Int) 1 = ((k + 1 : Nat) : Int) := by rw [iad_e (by omega)]; rfl
      refine Ev.go [4] (T := T_62) rfl rfl ?_
      conv => whnf
      refine brI (fun z => ?_) (fun z => ?_)
      all_goals first | (exfalso; omega) | skip
      conv => whnf
      have hk : pP (k : Int) := by omega
      refine ⟨by omega, x63 (by omega) hX hk hm (fun J2 hF2 hX2 => ?_)⟩
      conv => whnf
      have b1 := hb k (by omega)
      have b2 := smA_bd (ln := ln) (m := m) hO hk
      rw [ei, iad_e (by omega)]
      exact ⟨trivial, ih (k + 1) J2 (by omega) (hF.tr hF2) hX2⟩
  refine EvM.go [4] (T := T_62) rfl rfl rfl rfl ?_
  conv => whnf
  exact ⟨trivial, loop 6 0 I rfl Fr.rfl' hC⟩
-- the model
noncomputable def smI (ln : lz_L) (L : LT) (s k n : Int) (i : Nat) : Int := smF (fun D => if ian (D : Int) (ixr s (-1)) = 0 ∧ pI (D : Int) = n then lsI ln L s k (D : Int) else 0) i
theorem lsI_bd {ln : lz_L} {L : LT} {s k S : Int} (hL : LTok L) (hk : pP k) : -1188 ≤ lsI ln L s k S ∧ lsI ln L s k S ≤ 1188 := by
  have := hL.f
  have := (faS_bd (ln := ln) (h := hlI L s k) (S := S) hL hk (tSz L).toNat (by omega)).2
  unfold lsI
  omega
theorem smI_bd {ln : lz_L} {L : LT} {s k n : Int} (hL : LTok L) (hk : pP k) {i : Nat} (hi : i ≤ 4096) : -4866048 ≤ smI ln L s k n i ∧ smI ln L s k n i ≤ 4866048 := by
  have h1 := smF_bd (f := fun D : Nat => if ian (D : Int) (ixr s (-1)) = 0 ∧ pI (D : Int) = n then lsI ln L s k (D : Int) else 0) (b := 1188) (n := i) (fun D hD => by
    have := lsI_bd (ln := ln) (s := s) (S := (D : Int)) hL hk
    show -1188 ≤ (if ian (D : Int) (ixr s (-1)) = 0 ∧ pI (D : Int) = n then lsI ln L s k (D : Int) else 0) ∧ (if ian (D : Int) (ixr s (-1)) = 0 ∧ pI (D : Int) = n then lsI ln L s k (D : Int) else 0) ≤ 1188
    split <;> omega)
  unfold smI
  omega
def sF (I J : ME) : Prop := (∀ j, j < 14 ∨ (21 < j ∧ j ≠ 26) → J 53 j = I 53 j) ∧ Fr [53, 61, 62, 63, 64, 65] I J
theorem sF.tr {I J K : ME} (h : sF I J) (h2 : sF J K) : sF I K := ⟨fun j hj => (h2.1 j hj).trans (h.1 j hj), h.2.tr h2.2⟩
theorem drM.sF {I J : ME} (h : drM I J) : sF I J := ⟨fun j hj => h.1 j (by omega), h.2.sub (by decide)⟩
theorem sF.mF {I J : ME} (h : sF I J) : mF I J := ⟨fun j hj => h.1 j (by omega), h.2.sub (by decide)⟩
def mnI (m s : Int) : Int := if m < pI s then m else pI s
theorem m232 {d : Nat} {ln : lz_L} {L : LT} {s m : Int} {I : ME} {Q : Option MV → ME → Prop} (hd : 66 ≤ d) (hC : MX ln L I) (hs : suB s (tIn L))
    (h : ∀ J, sF I J → J 53 26 = wyI (pI s) (mnI m s) → (∀ p, pP p → J 65 p = smI ln L s p (mnI m s) (twN L)) → Q none J) : EvM d 232 [rf 53, nt s, nt m] I Q := by
  have hO := hC.1
  have g := hO.f
  have hN := twN_bd hO
  have hpI := pI_bd s
  have inner : ∀ (r p : Nat) (i : Nat) (J : ME), p + r = 6 → i < twN L → sF I J → J 53 26 = wyI (pI s) (mnI m s) → (∀ p, pP p → J 63 p = lsI ln L s p (i : Int)) →
      (∀ q : Int, pP q → J 65 q = smI ln L s q (mnI m s) i + (if q < p then lsI ln L s q (i : Int) else 0)) →
      (∀ J, sF I J → J 53 26 = wyI (pI s) (mnI m s) → (∀ q, pP q → J 65 q = smI ln L s q (mnI m s) i + lsI ln L s q (i : Int)) → Ev d 232 112 [some (rf 53), some (nt s), some (nt m), some (nt (mnI m s)), some (nt (i : Int)), some (nt ((6 : Nat) : Int))] [] J Q) →
      Ev d 232 81 [some (rf 53), some (nt s), some (nt m), some (nt (mnI m s)), some (nt (i : Int)), some (nt (p : Int))] [] J Q := by
    intro r
    induction r with
    | zero =>
      intro p i J hr hi hF h26 h63 h65 hn
      refine Ev.go [112] (T := T_232) rfl rfl ?_
      conv => whnf
      refine brI (fun z => ?_) (fun z => ?_)
      all_goals first | (exfalso; omega) | skip
      conv => whnf
      have e : p = 6 := by omega
      subst e
      refine ⟨trivial, hn J hF h26 (fun q hq => ?_)⟩
      have := h65 q hq
      rw [if_pos (by omega)] at this
      exact this
    | succ r ih =>
      intro p i J hr hi hF h26 h63 h65 hn
      have hp : pP (p : Int) := by omega
      have ei : iad (p : Int) 1 = ((p + 1 : Nat) : Int) := by rw [iad_e (by omega)]; rfl
      refine Ev.go [81] (T := T_232) rfl rfl ?_
      conv => whnf
      refine brI (fun z => ?_) (fun z => ?_)
      all_goals first | (exfalso; omega) | skip
      conv => whnf
      iterate 3
        refine anI (by omega) ?_
        conv => whnf
      have b1 := smI_bd (ln := ln) (s := s) (n := mnI m s) hO hp (i := i) (by omega)
      have b2 := lsI_bd (ln := ln) (s := s) (S := (i : Int)) hO hp
      have e0 := h65 _ hp
      rw [if_neg (by omega), Int.add_zero] at e0
      rw [h63 _ hp, e0, lad_e (by omega), ei]
      refine ⟨trivial, ih (p + 1) i _ (by omega) hi ⟨fun j hj => by rw [up_c (by decide)]; exact hF.1 j hj, fr_up hF.2 (by decide)⟩ (by rw [up_c (by decide)]; exact h26) (fun q hq => by rw [up_c (by decide)]; exact h63 q hq) (fun q hq => ?_) hn⟩
      rw [up_any]
      by_cases w : q = (p : Int)
      · rw [if_pos w, if_pos (by omega), w]
      · rw [if_neg w, h65 q hq]
        by_cases w2 : q < (p : Int)
        · rw [if_pos w2, if_pos (by omega)]
        · rw [if_neg w2, if_neg (by omega)]
  have loop : ∀ (r i : Nat) (x : Option MV) (J : ME), i + r = twN L → sF I J → J 53 26 = wyI (pI s) (mnI m s) → (∀ q, pP q → J 65 q = smI ln L s q (mnI m s) i) → Ev d 232 42 [some (rf 53), some (nt s), some (nt m), some (nt (mnI m s)), some (nt (i : Int)), x] [] J Q := by
    intro r
    induction r with
    | zero =>
      intro i x J hr hF h26 h65
      have f := (hC.mf hF.mF).f
      refine Ev.go [] (T := T_232) rfl rfl ?_
      conv => whnf
      rw [f.1, hN.2]
      refine brI (fun z => ?_) (fun z => ?_)
      all_goals first | (exfalso; omega) | skip
      conv => whnf
      have e : i = twN L := by omega
      subst e
      exact ⟨trivial, h J hF h26 h65⟩
    | succ r ih =>
      intro i x J hr hF h26 h65
      have hX := hC.mf hF.mF
      have f := hX.f
      have ei : iad (i : Int) 1 = ((i + 1 : Nat) : Int) := by rw [iad_e (by omega)]; rfl
      have same : ∀ y, (¬ (ian (i : Int) (ixr s (-1)) = 0 ∧ pI (i : Int) = mnI m s)) → Ev d 232 42 [some (rf 53), some (nt s), some (nt m), some (nt (mnI m s)), some (nt (iad (i : Int) 1)), y] [] J Q := fun y hn => by
        rw [ei]
        refine ih (i + 1) y J (by omega) hF h26 (fun q hq => ?_)
        rw [h65 q hq]
        show _ = smF _ i + (if ian (i : Int) (ixr s (-1)) = 0 ∧ pI (i : Int) = mnI m s then lsI ln L s q (i : Int) else 0)
        rw [if_neg hn, Int.add_zero]
        rfl
      refine Ev.go [42, 81] (T := T_232) rfl rfl ?_
      conv => whnf
      rw [f.1, hN.2]
      refine brI (fun z => ?_) (fun z => ?_)
      all_goals first | (exfalso; omega) | skip
      conv => whnf
      refine brI (fun z1 => ?_) (fun z1 => ?_) <;> conv => whnf
      · refine ⟨by omega, m189p (by omega) (by omega) ?_⟩
        conv => whnf
        refine brI (fun z2 => ?_) (fun z2 => ?_) <;> conv => whnf
        · refine ⟨by omega, m226 (by omega) hX hs (areIn_sub ⟨by omega, by omega⟩ hs.1.1 hs.1.2 z1) (fun J2 hF2 hp => ?_)⟩
          conv => whnf
          refine ⟨trivial, inner 6 0 i J2 rfl (by omega) (hF.tr hF2.sF) (by rw [hF2.1 26 (by omega)]; exact h26) hp (fun q hq => ?_) (fun J3 hF3 h26' h65' => ?_)⟩
          · rw [hF2.2 65 (by decide), h65 q hq, if_neg (by have := hq.1; omega), Int.add_zero]
          · refine Ev.go [42] (T := T_232) rfl rfl ?_
            conv => whnf
            rw [ei]
            refine ⟨trivial, ih (i + 1) _ J3 (by omega) hF3 h26' (fun q hq => ?_)⟩
            rw [h65' q hq]
            show _ = smF _ i + (if ian (i : Int) (ixr s (-1)) = 0 ∧ pI (i : Int) = mnI m s then lsI ln L s q (i : Int) else 0)
            rw [if_pos ⟨z1, z2⟩]
            rfl
        · exact ⟨trivial, same _ (fun w => z2 w.2)⟩
      · exact ⟨trivial, same _ (fun w => z1 w.1)⟩
  have loop0 : ∀ (r p : Nat) (J : ME), p + r = 6 → sF I J → (∀ q : Int, 0 ≤ q → q < p → J 65 q = 0) → Ev d 232 2 [some (rf 53), some (nt s), some (nt m), some (nt (p : Int)), none, none] [] J Q := by
    intro r
    induction r with
    | zero =>
      intro p J hr hF h0
      refine Ev.go [42] (T := T_232) rfl rfl ?_
      conv => whnf
      refine brI (fun z => ?_) (fun z => ?_)
      all_goals first | (exfalso; omega) | skip
      conv => whnf
      refine ⟨by omega, m230 (by omega) hs.1.1 hs.1.2 ?_⟩
      conv => whnf
      refine ⟨by omega, m189p hs.1.1 hs.1.2 ?_⟩
      conv => whnf
      refine ⟨by omega, m231 (by omega) (by omega) ?_⟩
      conv => whnf
      refine ⟨trivial, loop (twN L) 0 none _ (by omega) ⟨fun j hj => ?_, fr_up hF.2 (by decide)⟩ (by rw [up_eq]; rfl) (fun q hq => ?_)⟩
      · rw [up_ne (by omega)]; exact hF.1 j hj
      · rw [up_c (by decide), h0 q hq.1 (by have := hq.2; omega)]; rfl
    | succ r ih =>
      intro p J hr hF h0
      have ei : iad (p : Int) 1 = ((p + 1 : Nat) : Int) := by rw [iad_e (by omega)]; rfl
      refine Ev.go [2] (T := T_232) rfl rfl ?_
      conv => whnf
      refine brI (fun z => ?_) (fun z => ?_)
      all_goals first | (exfalso; omega) | skip
      conv => whnf
      refine anI (by omega) ?_
      conv => whnf
      rw [ei]
      refine ⟨trivial, ih (p + 1) _ (by omega) ⟨fun j hj => by rw [up_c (by decide)]; exact hF.1 j hj, fr_up hF.2 (by decide)⟩ (fun q q0 q1 => ?_)⟩
      rw [up_any]
      by_cases w : q = (p : Int)
      · rw [if_pos w]
      · rw [if_neg w]; exact h0 q q0 (by omega)
  refine EvM.go [2] (T := T_232) rfl rfl rfl rfl ?_
  conv => whnf
  exact ⟨trivial, loop0 6 0 I rfl drM.rfl'.sF (fun q q0 q1 => by exfalso; omega)⟩
theorem m233 {d : Nat} {I : ME} {Q : Option MV → ME → Prop} (hb : ∀ p, pP p → -4866048 ≤ I 65 p ∧ I 65 p ≤ 4866048) (h : Q (some (lg (smF (fun p => I 65 (p : Int)) 6))) I) : EvM d 233 [rf 53] I Q := by
  have hb6 := smF_6 (f := fun p => I 65 (p : Int)) (b := 4866048) (by omega) (fun p hp => hb _ (by omega))
  have loop : ∀ (r k : Nat), k + r = 6 → Ev d 233 4 [some (rf 53), some (lg (smF (fun p => I 65 (p : Int)) k)), none, some (nt (k : Int))] [] I Q := by
    intro r
    induction r with
    | zero =>
      intro k hr
      refine Ev.go [] (T := T_233) rfl rfl ?_
      conv => whnf
      refine brI (fun z => ?_) (fun z => ?_)
      all_goals first | (exfalso; omega) | skip
      conv => whnf
      have e : k = 6 := by omega
      subst e
      exact ⟨trivial, h⟩
    | succ r ih =>
      intro k hr
      have ei : iad (k : Int) 1 = ((k + 1 : Nat) : Int) := by rw [iad_e (by omega)]; rfl
      refine Ev.go [4] (T := T_233) rfl rfl ?_
      conv => whnf
      refine brI (fun z => ?_) (fun z => ?_)
      all_goals first | (exfalso; omega) | skip
      conv => whnf
      refine anI (by omega) ?_
      conv => whnf
      have b1 := hb6 k (by omega)
      have b2 := hb (k : Int) (by omega)
      rw [ei, lad_e (by omega)]
      exact ⟨trivial, ih (k + 1) (by omega)⟩
  refine EvM.go [4] (T := T_233) rfl rfl rfl rfl ?_
  conv => whnf
  exact ⟨trivial, loop 6 0 rfl⟩
