/-! KEEPS, FORGED, ODDS, DOUBT -/
theorem areIn_sub {s b : Int} (hs : -2147483648 ≤ s ∧ s ≤ 2147483647) (h0 : 0 ≤ b) (h1 : b < 4096) (h : ian s (ixr b (-1)) = 0) : (0 ≤ s ∧ s < 4096) ∧ ∀ u, 0 ≤ u → u < 32 → hasb s u → hasb b u := by
  have hz : (Int32.ofInt s &&& Int32.ofInt (ixr b (-1))) = 0 := by
    rw [← Int32.toInt_inj]
    exact h
  have e : ian s b = s := by
    unfold ian
    have e2 : Int32.ofInt s &&& Int32.ofInt b = Int32.ofInt s := by
      refine Int32.toBitVec_inj.mp ?_
      have hz2 := congrArg Int32.toBitVec hz
      rw [Int32.toBitVec_and] at hz2 ⊢
      unfold ixr at hz2
      rw [of_to32, Int32.toBitVec_xor, show (Int32.ofInt (-1)).toBitVec = BitVec.allOnes 32 by decide, show (0 : Int32).toBitVec = 0#32 from rfl] at hz2
      ext i hi
      have hb := congrArg (fun v : BitVec 32 => v[i]) hz2
      simp only [BitVec.getElem_and, BitVec.getElem_xor, BitVec.getElem_allOnes, BitVec.getElem_zero] at hb ⊢
      revert hb
      cases (Int32.ofInt s).toBitVec[i] <;> cases (Int32.ofInt b).toBitVec[i] <;> decide
    rw [e2, to_of32 hs]
  have hb : (Int32.ofInt s &&& Int32.ofInt b).toBitVec.toNat ≤ b.toNat := by
    rw [Int32.toBitVec_and, BitVec.toNat_and]
    have := bv_nat (a := b.toNat) (by omega)
    rw [show ((b.toNat : Nat) : Int) = b by omega] at this
    rw [this]
    exact Nat.and_le_right
  have h2 := i32_nat (x := (Int32.ofInt s &&& Int32.ofInt b).toBitVec) rfl (by omega)
  have h3 : ian s b = ((Int32.ofInt s &&& Int32.ofInt b).toBitVec.toNat : Int) := h2
  have hr : 0 ≤ s ∧ s < 4096 := by omega
  refine ⟨hr, fun u u0 u1 hu => ?_⟩
  have := (ian_b (s := s) (b := b) hr.1 hr.2 h0 (by omega)).2 u u0 u1
  rw [e] at this
  exact (this.mp hu).2
theorem areIn_iff {s b : Int} (h0 : 0 ≤ s) (h1 : s < 4096) (g0 : 0 ≤ b) (g1 : b < 4096) : ian s (ixr b (-1)) = 0 ↔ ∀ u, 0 ≤ u → u < 12 → hasb s u → hasb b u := by
  constructor
  · intro h u u0 u1 hu
    exact (areIn_sub ⟨by omega, by omega⟩ g0 g1 h).2 u u0 (by omega) hu
  · intro h
    obtain ⟨⟨s1, s2⟩, s3⟩ := sdf_b h0 h1 g0 (by omega : b < 2147483648)
    refine set_ext (s := sdf s b) (t := 0) s1 (by omega) (by decide) (by decide) fun u u0 u1 => ?_
    rw [s3 u u0 (by omega)]
    exact ⟨fun q => absurd (h u u0 u1 q.1) q.2, fun q => absurd q (hb_0 u0 (by omega))⟩
def NoF : Int := -9223372036854775808
theorem x147 {d : Nat} {k m p : Int} {I : ME} {Q : Option MV → ME → Prop} (hd : 5 ≤ d) (hz0 : 0 ≤ I 1 5) (hz : I 1 5 ≤ 12) (h6 : 0 ≤ I 1 6 ∧ I 1 6 < 4096)
    (h0 : ¬ ((pP k ∧ 0 ≤ m ∧ m ≤ pI (I 1 6)) ∧ 0 ≤ p ∧ p ≤ 1) → Q (some (lg NoF)) I) (h1 : (pP k ∧ 0 ≤ m ∧ m ≤ pI (I 1 6)) ∧ 0 ≤ p ∧ p ≤ 1 → Q (some (lg (frI (wyI (pI (I 1 6) - (ctP (fun t => heC I t k) (I 1 5).toNat : Nat)) m) (wyI (pI (I 1 6)) m) p))) I) : EvM d 147 [rf 0, nt k, nt m, nt p] I Q := by
  have hb := pI_bd (I 1 6)
  refine EvM.go [] (T := T_147) rfl rfl rfl rfl ?_
  conv => whnf
  refine ⟨by omega, x175 (fun a => ?_) (fun a => ?_)⟩ <;> conv => whnf
  · refine ⟨by omega, x47 (by omega) h6.1 h6.2 (fun b => ?_) (fun b => ?_)⟩ <;> conv => whnf
    · have hc := ctP_pI (p := fun t => heC I t k) (n := (I 1 5).toNat) h6.1 h6.2 (by omega) (fun i hi q => q.2.1)
      have hw := wyI_bd (n := pI (I 1 6) - (ctP (fun t => heC I t k) (I 1 5).toNat : Nat)) (k := m) (by omega) (by omega)
      have hw2 := wyI_bd (n := pI (I 1 6)) (k := m) hb.1 hb.2
      have hw3 := wyI_pos (n := pI (I 1 6)) (k := m) hb.2 b.1 b.2
      refine ⟨by omega, x39 (by omega) h6.1 h6.2 ?_⟩
      conv => whnf
      refine ⟨by omega, x50 (by omega) hz0 hz ?_⟩
      conv => whnf
      rw [isb_e (by omega)]
      refine ⟨by omega, x183 (by omega) (by omega) ?_⟩
      conv => whnf
      refine ⟨by omega, x48 (by omega) h6.1 h6.2 ?_⟩
      conv => whnf
      refine ⟨by omega, x184 (by omega) (by omega) (by omega) (fun q => ?_) (fun q => ?_)⟩ <;> conv => whnf
      · exact ⟨trivial, h0 (fun r => q r.2)⟩
      · exact ⟨trivial, h1 ⟨⟨a, b⟩, q⟩⟩
    · exact ⟨trivial, h0 (fun r => b r.1.2)⟩
  · exact ⟨trivial, h0 (fun r => a r.1.1)⟩
theorem x149 {d : Nat} {s m p : Int} {I : ME} {Q : Option MV → ME → Prop} (hd : 5 ≤ d) (h6 : 0 ≤ I 1 6 ∧ I 1 6 < 4096) (hs : -2147483648 ≤ s ∧ s ≤ 2147483647)
    (h0 : ¬ ((ian s (ixr (I 1 6) (-1)) = 0 ∧ 0 ≤ m ∧ m ≤ pI (I 1 6)) ∧ 0 ≤ p ∧ p ≤ 1) → Q (some (lg NoF)) I) (h1 : (ian s (ixr (I 1 6) (-1)) = 0 ∧ 0 ≤ m ∧ m ≤ pI (I 1 6)) ∧ 0 ≤ p ∧ p ≤ 1 → Q (some (lg (frI (wyI (pI (I 1 6) - pI s) (m - pI s)) (wyI (pI (I 1 6)) m) p))) I) : EvM d 149 [rf 0, nt s, nt m, nt p] I Q := by
  have hb := pI_bd (I 1 6)
  have hb2 := pI_bd s
  refine EvM.go [] (T := T_149) rfl rfl rfl rfl ?_
  conv => whnf
  refine ⟨by omega, x38 (fun a => ?_) (fun a => ?_)⟩ <;> conv => whnf
  · obtain ⟨a1, a2⟩ := areIn_sub hs h6.1 h6.2 a
    have hm := pI_mono a1.1 a1.2 h6.1 h6.2 (fun u u0 u1 q => a2 u u0 (by omega) q)
    refine ⟨by omega, x47 (by omega) h6.1 h6.2 (fun b => ?_) (fun b => ?_)⟩ <;> conv => whnf
    · have hw := wyI_bd (n := pI (I 1 6) - pI s) (k := m - pI s) (by omega) (by omega)
      have hw2 := wyI_bd (n := pI (I 1 6)) (k := m) hb.1 hb.2
      have hw3 := wyI_pos (n := pI (I 1 6)) (k := m) hb.2 b.1 b.2
      refine ⟨by omega, x295p a1.1 a1.2 ?_⟩
      conv => whnf
      refine ⟨by omega, x39 (by omega) h6.1 h6.2 ?_⟩
      conv => whnf
      rw [isb_e (by omega), isb_e (by omega)]
      refine ⟨by omega, x183 (by omega) (by omega) ?_⟩
      conv => whnf
      refine ⟨by omega, x48 (by omega) h6.1 h6.2 ?_⟩
      conv => whnf
      refine ⟨by omega, x184 (by omega) (by omega) (by omega) (fun q => ?_) (fun q => ?_)⟩ <;> conv => whnf
      · exact ⟨trivial, h0 (fun r => q r.2)⟩
      · exact ⟨trivial, h1 ⟨⟨a, b⟩, q⟩⟩
    · exact ⟨trivial, h0 (fun r => b r.1.2)⟩
  · exact ⟨trivial, h0 (fun r => a r.1.1)⟩
theorem x140 {d : Nat} {k m p : Int} {I : ME} {Q : Option MV → ME → Prop} (hd : 6 ≤ d) (hk : k ≤ 2147483647) (hz0 : 0 ≤ I 1 5) (hz : I 1 5 ≤ 12) (h6 : 0 ≤ I 1 6 ∧ I 1 6 < 4096)
    (h0 : ¬ ((lvC k ∧ 0 ≤ m ∧ m ≤ pI (I 1 6)) ∧ 0 ≤ p ∧ p ≤ 1) → Q (some (lg NoF)) I)
    (h1 : (lvC k ∧ 0 ≤ m ∧ m ≤ pI (I 1 6)) ∧ 0 ≤ p ∧ p ≤ 1 → hasb (I 6 (k / 10)) (k % 10) → Q (some (lg p)) I)
    (h2 : (lvC k ∧ 0 ≤ m ∧ m ≤ pI (I 1 6)) ∧ 0 ≤ p ∧ p ≤ 1 → ¬ hasb (I 6 (k / 10)) (k % 10) → Q (some (lg (frI (wyI (pI (I 1 6) - (ctP (thC I (k / 10) (k % 10)) (I 1 5).toNat : Nat)) m) (wyI (pI (I 1 6)) m) p))) I) : EvM d 140 [rf 0, nt k, nt m, nt p] I Q := by
  have hb := pI_bd (I 1 6)
  refine EvM.go [] (T := T_140) rfl rfl rfl rfl ?_
  conv => whnf
  refine ⟨by omega, x178 (by omega) hk (fun a => ?_) (fun a => ?_)⟩ <;> conv => whnf
  · refine ⟨by omega, x47 (by omega) h6.1 h6.2 (fun b => ?_) (fun b => ?_)⟩ <;> conv => whnf
    · have hc := ctP_pI (p := thC I (k / 10) (k % 10)) (n := (I 1 5).toNat) h6.1 h6.2 (by omega) (fun i hi q => q.2.1.2.1)
      have hw := wyI_bd (n := pI (I 1 6) - (ctP (thC I (k / 10) (k % 10)) (I 1 5).toNat : Nat)) (k := m) (by omega) (by omega)
      have hw2 := wyI_bd (n := pI (I 1 6)) (k := m) hb.1 hb.2
      have hw3 := wyI_pos (n := pI (I 1 6)) (k := m) hb.2 b.1 b.2
      refine nzI (by decide) ?_
      conv => whnf
      refine nzI (by decide) ?_
      conv => whnf
      rw [idv_q a.1 hk (by decide), irm_q a.1 hk (by decide)]
      refine ⟨by omega, x48 (by omega) h6.1 h6.2 ?_⟩
      conv => whnf
      refine ⟨by omega, x52 (by omega) (fun e => ?_) (fun e => ?_)⟩ <;> conv => whnf
      · refine ⟨by omega, x184 (by omega) (by omega) (by omega) (fun q => ?_) (fun q => ?_)⟩ <;> conv => whnf
        · exact ⟨trivial, h0 (fun r => q r.2)⟩
        · rw [frI_0 hw3 q]
          exact ⟨trivial, h1 ⟨⟨a, b⟩, q⟩ e.2⟩
      · refine ⟨by omega, x39 (by omega) h6.1 h6.2 ?_⟩
        conv => whnf
        refine ⟨by omega, x54 (by omega) hz0 hz ?_⟩
        conv => whnf
        rw [isb_e (by omega)]
        refine ⟨by omega, x183 (by omega) (by omega) ?_⟩
        conv => whnf
        refine ⟨by omega, x184 (by omega) (by omega) (by omega) (fun q => ?_) (fun q => ?_)⟩ <;> conv => whnf
        · exact ⟨trivial, h0 (fun r => q r.2)⟩
        · exact ⟨trivial, h2 ⟨⟨a, b⟩, q⟩ (fun r => e ⟨by omega, r⟩)⟩
    · exact ⟨trivial, h0 (fun r => b r.1.2)⟩
  · exact ⟨trivial, h0 (fun r => a r.1.1)⟩
/-- the first m by which it is less -/
def dbF (o n x : Int) : Nat → Int → Int
  | 0, _ => -2
  | f + 1, m => if 12 * wyI o m < x * wyI n m then m else dbF o n x f (m + 1)
theorem x148 {d : Nat} {k x : Int} {I : ME} {Q : Option MV → ME → Prop} (hd : 5 ≤ d) (hz0 : 0 ≤ I 1 5) (hz : I 1 5 ≤ 12) (h6 : 0 ≤ I 1 6 ∧ I 1 6 < 4096)
    (h0 : ¬ (pP k ∧ 1 ≤ x ∧ x ≤ 12) → Q (some (nt (-1))) I) (h1 : (pP k ∧ 1 ≤ x ∧ x ≤ 12) → Q (some (nt (dbF (pI (I 1 6) - (ctP (fun t => heC I t k) (I 1 5).toNat : Nat)) (pI (I 1 6)) x ((pI (I 1 6)).toNat + 1) 0))) I) : EvM d 148 [rf 0, nt k, nt x] I Q := by
  have hb := pI_bd (I 1 6)
  refine EvM.go [43] (T := T_148) rfl rfl rfl rfl ?_
  conv => whnf
  refine ⟨by omega, x175 (fun a => ?_) (fun a => ?_)⟩ <;> conv => whnf
  · refine brI (fun b => ?_) (fun b => ?_) <;> conv => whnf
    · exact ⟨trivial, h0 (by omega)⟩
    · refine brI (fun c => ?_) (fun c => ?_) <;> conv => whnf
      · exact ⟨trivial, h0 (by omega)⟩
      · have h1 := h1 (by omega)
        have hc := ctP_pI (p := fun t => heC I t k) (n := (I 1 5).toNat) h6.1 h6.2 (by omega) (fun i hi q => q.2.1)
        refine ⟨by omega, x39 (by omega) h6.1 h6.2 ?_⟩
        conv => whnf
        refine ⟨by omega, x50 (by omega) hz0 hz ?_⟩
        conv => whnf
        rw [isb_e (by omega)]
        refine ⟨trivial, ?_⟩
        have key : ∀ f m : Nat, (m : Int) + f = pI (I 1 6) + 1 → Q (some (nt (dbF (pI (I 1 6) - (ctP (fun t => heC I t k) (I 1 5).toNat : Nat)) (pI (I 1 6)) x f m))) I → Ev d 148 43 [some (rf 0), some (nt k), some (nt x), some (nt (pI (I 1 6))), some (nt (pI (I 1 6) - (ctP (fun t => heC I t k) (I 1 5).toNat : Nat))), some (nt (m : Int))] [] I Q := by
          intro f
          induction f with
          | zero =>
            intro m hm hq
            refine Ev.go [] (T := T_148) rfl rfl ?_
            conv => whnf
            refine brI (fun _ => ?_) (fun _ => by exfalso; omega)
            conv => whnf
            exact ⟨trivial, hq⟩
          | succ f ih =>
            intro m hm hq
            have hq : Q (some (nt (if 12 * wyI (pI (I 1 6) - (ctP (fun t => heC I t k) (I 1 5).toNat : Nat)) m < x * wyI (pI (I 1 6)) m then (m : Int) else dbF (pI (I 1 6) - (ctP (fun t => heC I t k) (I 1 5).toNat : Nat)) (pI (I 1 6)) x f ((m : Int) + 1)))) I := hq
            have hw := wyI_bd (n := pI (I 1 6) - (ctP (fun t => heC I t k) (I 1 5).toNat : Nat)) (k := m) (by omega) (by omega)
            have hw2 := wyI_bd (n := pI (I 1 6)) (k := m) hb.1 hb.2
            have hp : 0 ≤ x * wyI (pI (I 1 6)) m ∧ x * wyI (pI (I 1 6)) m ≤ 12000 := ⟨Int.mul_nonneg (by omega) (by omega), by
              have := Int.mul_le_mul (a := x) (c := 12) (b := wyI (pI (I 1 6)) m) (d := 1000) (by omega) (by omega) (by omega) (by omega)
              omega⟩
            refine Ev.go [43] (T := T_148) rfl rfl ?_
            conv => whnf
            refine brI (fun _ => by exfalso; omega) (fun _ => ?_)
            conv => whnf
            refine ⟨by omega, x183 (by omega) (by omega) ?_⟩
            conv => whnf
            refine ⟨by omega, x183 (by omega) (by omega) ?_⟩
            conv => whnf
            rw [iml_e (by omega), iml_e (by omega)]
            refine brI (fun e => ?_) (fun e => ?_) <;> conv => whnf
            · rw [if_pos e] at hq
              exact ⟨trivial, hq⟩
            · rw [if_neg e] at hq
              refine ⟨trivial, Ev.to ?_ rfl (ih (m + 1) (by omega) hq)⟩
              rw [iad_e (by omega)]
              rfl
        exact key _ 0 (by omega) h1
  · exact ⟨trivial, h0 (fun r => a r.1)⟩
