/-! FRACTIONS of both sides; counts -/
def frI (a b part : Int) : Int := if part = 0 then a.tdiv ((Nat.gcd a.natAbs b.toNat : Nat) : Int) else b.tdiv ((Nat.gcd a.natAbs b.toNat : Nat) : Int)
theorem iab_n {a : Int} (h : -2147483647 ≤ a) (h2 : a ≤ 2147483647) : iab a = ((a.natAbs : Nat) : Int) := by
  unfold iab
  split
  · omega
  · rw [isb_e (by omega)]; omega
theorem x184 {d : Nat} {a b p : Int} {I : ME} {Q : Option MV → ME → Prop} (hd : 1 ≤ d) (ha : -2147483647 ≤ a ∧ a ≤ 2147483647) (hb : 0 < b ∧ b ≤ 2147483647) (h0 : ¬ (0 ≤ p ∧ p ≤ 1) → Q (some (lg (-9223372036854775808))) I) (h1 : (0 ≤ p ∧ p ≤ 1) → Q (some (lg (frI a b p))) I) : EvM d 184 [nt a, nt b, nt p] I Q := by
  refine EvM.go [] (T := T_184) rfl rfl rfl rfl ?_
  conv => whnf
  refine ⟨by omega, ?_⟩
  conv => whnf
  rw [iab_n ha.1 ha.2]
  have hg : 0 < Nat.gcd a.natAbs b.toNat := Nat.gcd_pos_of_pos_right _ (by omega)
  have hg2 : Nat.gcd a.natAbs b.toNat ≤ b.toNat := Nat.le_of_dvd (by omega) (Nat.gcd_dvd_right _ _)
  refine ⟨by omega, x185 (by omega) (by omega) (by omega) (by omega) ?_⟩
  rw [Int.toNat_natCast]
  conv => whnf
  refine brI (fun q => ?_) (fun q => ?_) <;> conv => whnf
  · exact ⟨trivial, h0 (by omega)⟩
  · refine brI (fun q => ?_) (fun q => ?_) <;> conv => whnf
    · exact ⟨trivial, h0 (by omega)⟩
    · have h1 := h1 (by omega)
      unfold frI at h1
      refine brI (fun q => ?_) (fun q => by exfalso; omega)
      conv => whnf
      refine brI (fun e => ?_) (fun e => ?_) <;> conv => whnf
      · refine nzI (by omega) ?_
        conv => whnf
        rw [if_pos e] at h1
        rw [idv_t ⟨by omega, by omega⟩ ⟨by omega, by omega⟩ (by omega)]
        exact ⟨trivial, h1⟩
      · refine nzI (by omega) ?_
        conv => whnf
        rw [if_neg e] at h1
        rw [idv_t ⟨by omega, by omega⟩ ⟨by omega, by omega⟩ (by omega)]
        exact ⟨trivial, h1⟩
theorem frI_0 {b p : Int} (hb : 0 < b) (hp : 0 ≤ p ∧ p ≤ 1) : frI 0 b p = p := by
  unfold frI
  rw [show (0 : Int).natAbs = 0 from rfl, Nat.gcd_zero_left, show ((b.toNat : Nat) : Int) = b by omega, Int.zero_tdiv, Int.tdiv_self (by omega)]
  split <;> omega
theorem m235 {d : Nat} {a b p : Int} {I : ME} {Q : Option MV → ME → Prop} (hd : 1 ≤ d) (ha : -4000000000000 ≤ a ∧ a ≤ 4000000000000) (hb : 0 < b ∧ b ≤ 4000000000000) (hp : 0 ≤ p ∧ p ≤ 1) (h1 : Q (some (lg (frI a b p))) I) : EvM d 235 [lg a, lg b, nt p] I Q := by
  refine EvM.go [] (T := T_235) rfl rfl rfl rfl ?_
  conv => whnf
  have hg : 0 < Nat.gcd a.natAbs b.toNat := Nat.gcd_pos_of_pos_right _ (by omega)
  have hg2 : Nat.gcd a.natAbs b.toNat ≤ b.toNat := Nat.le_of_dvd (by omega) (Nat.gcd_dvd_right _ _)
  refine brI (fun q => ?_) (fun q => ?_) <;> (rw [lcm_0] at q) <;> conv => whnf
  · subst q
    rw [frI_0 hb.1 hp] at h1
    exact ⟨trivial, h1⟩
  · refine ⟨by omega, m234 (by omega) (by omega) (by omega) (by omega) ?_⟩
    conv => whnf
    unfold frI at h1
    refine brI (fun e => ?_) (fun e => ?_) <;> conv => whnf
    · refine nzI (by omega) ?_
      conv => whnf
      rw [if_pos e] at h1
      rw [ldv_t ⟨by omega, by omega⟩ ⟨by omega, by omega⟩ (by omega)]
      exact ⟨trivial, h1⟩
    · refine nzI (by omega) ?_
      conv => whnf
      rw [if_neg e] at h1
      rw [ldv_t ⟨by omega, by omega⟩ ⟨by omega, by omega⟩ (by omega)]
      exact ⟨trivial, h1⟩
-- counts
noncomputable def ctP (p : Int → Prop) : Nat → Nat
  | 0 => 0
  | n + 1 => ctP p n + @ite Nat (p (n : Int)) (Classical.propDecidable _) 1 0
theorem ctP_t {p : Int → Prop} {n : Nat} (h : p (n : Int)) : ctP p (n + 1) = ctP p n + 1 := by
  unfold ctP
  rw [@if_pos _ (Classical.propDecidable _) h]
  cases n <;> rfl
theorem ctP_f {p : Int → Prop} {n : Nat} (h : ¬ p (n : Int)) : ctP p (n + 1) = ctP p n := by
  show ctP p n + @ite Nat (p (n : Int)) (Classical.propDecidable _) 1 0 = _
  rw [@if_neg _ (Classical.propDecidable _) h]
  rfl
theorem ctP_le (p : Int → Prop) : ∀ n, ctP p n ≤ n
  | 0 => Nat.le_refl 0
  | n + 1 => by
    have := ctP_le p n
    by_cases h : p (n : Int)
    · rw [ctP_t h]; omega
    · rw [ctP_f h]; omega
theorem ctP_cg {p q : Int → Prop} : ∀ {n : Nat}, (∀ i : Nat, i < n → (p (i : Int) ↔ q (i : Int))) → ctP p n = ctP q n
  | 0, _ => rfl
  | n + 1, h => by
    have := ctP_cg (p := p) (q := q) (n := n) (fun i hi => h i (by omega))
    by_cases hp : p (n : Int)
    · rw [ctP_t hp, ctP_t ((h n (by omega)).mp hp), this]
    · rw [ctP_f hp, ctP_f (fun q => hp ((h n (by omega)).mpr q)), this]
/-- how many of a subset lie below are no more than how many are set -/
theorem ctP_pc {p : Int → Prop} {S : Nat} : ∀ {n : Nat}, (∀ i : Nat, i < n → p (i : Int) → S.testBit i = true) → ctP p n ≤ pcn n S
  | 0, _ => Nat.le_refl 0
  | n + 1, h => by
    have ih := ctP_pc (p := p) (S := S) (n := n) (fun i hi => h i (by omega))
    show _ ≤ pcn n S + (bif S.testBit n then 1 else 0)
    by_cases hp : p (n : Int)
    · rw [ctP_t hp, h n (by omega) hp]; show _ ≤ pcn n S + 1; omega
    · rw [ctP_f hp]; omega
theorem pcn_mo {S : Nat} : ∀ {m n : Nat}, m ≤ n → pcn m S ≤ pcn n S
  | m, n, h => by
    induction n with
    | zero => have : m = 0 := by omega
              subst this; exact Nat.le_refl _
    | succ n ih =>
      by_cases hq : m = n + 1
      · subst hq; exact Nat.le_refl _
      · have := ih (by omega)
        show _ ≤ pcn n S + _
        omega
theorem ctP_pI {p : Int → Prop} {s : Int} {n : Nat} (h0 : 0 ≤ s) (h1 : s < 4096) (hn : n ≤ 12) (h : ∀ i : Nat, i < n → p (i : Int) → hasb s i) : (ctP p n : Int) ≤ pI s := by
  have h2 := ctP_pc (p := p) (S := s.toNat) (n := n) (fun i hi hp => by
    have := h i hi hp
    rw [hb_iff h0 (by omega) (by omega) (by omega), Int.toNat_natCast] at this
    exact this)
  have h3 := pcn_mo (S := s.toNat) hn
  unfold pI
  omega
theorem x50 {d : Nat} {k : Int} {I : ME} {Q : Option MV → ME → Prop} (hd : 2 ≤ d) (hz0 : 0 ≤ I 1 5) (hz : I 1 5 ≤ 12) (h : Q (some (nt ((ctP (fun t => heC I t k) (I 1 5).toNat : Nat) : Int))) I) : EvM d 50 [rf 1, nt k] I Q := by
  refine EvM.go [4] (T := T_50) rfl rfl rfl rfl ?_
  conv => whnf
  refine ⟨trivial, Ev.to (ls' := [some (rf 1), some (nt k), some (nt ((ctP (fun t => heC I t k) 0 : Nat) : Int)), some (nt ((0 : Nat) : Int))]) rfl rfl (Ev.up (I 1 5).toNat (fun i => [some (rf 1), some (nt k), some (nt ((ctP (fun t => heC I t k) i : Nat) : Int)), some (nt (i : Nat))]) (fun _ => I) ?_ ?_ 0 (Nat.zero_le _))⟩
  · intro i hi ih
    have hc := ctP_le (fun t => heC I t k) i
    refine Ev.go [4] (T := T_50) rfl rfl ?_
    conv => whnf
    refine brI (fun _ => ?_) (fun _ => by exfalso; omega)
    conv => whnf
    refine ⟨by omega, x46 (by omega) hz (fun hp => ?_) (fun hp => ?_)⟩ <;> conv => whnf
    · refine ⟨trivial, Ev.to ?_ rfl ih⟩
      rw [ctP_t (p := fun t => heC I t k) hp, iad_e (by omega), iad_e (by omega)]; rfl
    · refine ⟨trivial, Ev.to ?_ rfl ih⟩
      rw [ctP_f (p := fun t => heC I t k) hp, iad_e (by omega)]; rfl
  · refine Ev.go [4] (T := T_50) rfl rfl ?_
    conv => whnf
    refine brI (fun _ => by exfalso; omega) (fun _ => ?_)
    conv => whnf
    exact ⟨trivial, h⟩
/-- a ticket threatens a thing -/
def thC (I : ME) (k th t : Int) : Prop := I 3 t = th ∧ heC I t k ∧ I 5 t = 0 ∧ ¬ (pP k ∧ hasb (I 6 k) (I 3 t))
theorem x54 {d : Nat} {k th : Int} {I : ME} {Q : Option MV → ME → Prop} (hd : 3 ≤ d) (hz0 : 0 ≤ I 1 5) (hz : I 1 5 ≤ 12) (h : Q (some (nt ((ctP (thC I k th) (I 1 5).toNat : Nat) : Int))) I) : EvM d 54 [rf 1, nt k, nt th] I Q := by
  refine EvM.go [5] (T := T_54) rfl rfl rfl rfl ?_
  conv => whnf
  refine ⟨trivial, Ev.to (ls' := [some (rf 1), some (nt k), some (nt th), some (nt ((ctP (thC I k th) 0 : Nat) : Int)), some (nt ((0 : Nat) : Int))]) rfl rfl (Ev.up (I 1 5).toNat (fun i => [some (rf 1), some (nt k), some (nt th), some (nt ((ctP (thC I k th) i : Nat) : Int)), some (nt (i : Nat))]) (fun _ => I) ?_ ?_ 0 (Nat.zero_le _))⟩
  · intro i hi ih
    have hc := ctP_le (thC I k th) i
    refine Ev.go [5] (T := T_54) rfl rfl ?_
    conv => whnf
    refine brI (fun _ => ?_) (fun _ => by exfalso; omega)
    conv => whnf
    refine anI (by omega) ?_
    conv => whnf
    refine brI (fun e => ?_) (fun e => ?_) <;> conv => whnf
    · refine ⟨by omega, x53 (by omega) hz (fun hp => ?_) (fun hp => ?_)⟩ <;> conv => whnf
      · refine ⟨trivial, Ev.to ?_ rfl ih⟩
        rw [ctP_t (p := thC I k th) ⟨e, hp⟩, iad_e (by omega), iad_e (by omega)]; rfl
      · refine ⟨trivial, Ev.to ?_ rfl ih⟩
        rw [ctP_f (p := thC I k th) (fun q => hp q.2), iad_e (by omega)]; rfl
    · refine ⟨trivial, Ev.to ?_ rfl ih⟩
      rw [ctP_f (p := thC I k th) (fun q => e q.1), iad_e (by omega)]; rfl
  · refine Ev.go [5] (T := T_54) rfl rfl ?_
    conv => whnf
    refine brI (fun _ => by exfalso; omega) (fun _ => ?_)
    conv => whnf
    exact ⟨trivial, h⟩
theorem m251 {d : Nat} {k : Int} {I : ME} {Q : Option MV → ME → Prop} (hd : 1 ≤ d) (hz0 : 0 ≤ I 53 6) (hz : I 53 6 ≤ 12) (h : Q (some (nt ((ctP (fun t => hasb (I 53 7) t ∧ I 54 (48 + 3 * t + 1) = k) (I 53 6).toNat : Nat) : Int))) I) : EvM d 251 [rf 53, nt k] I Q := by
  refine EvM.go [4] (T := T_251) rfl rfl rfl rfl ?_
  conv => whnf
  refine ⟨trivial, Ev.to (ls' := [some (rf 53), some (nt k), some (nt ((ctP (fun t => hasb (I 53 7) t ∧ I 54 (48 + 3 * t + 1) = k) 0 : Nat) : Int)), some (nt ((0 : Nat) : Int))]) rfl rfl (Ev.up (I 53 6).toNat (fun i => [some (rf 53), some (nt k), some (nt ((ctP (fun t => hasb (I 53 7) t ∧ I 54 (48 + 3 * t + 1) = k) i : Nat) : Int)), some (nt (i : Nat))]) (fun _ => I) ?_ ?_ 0 (Nat.zero_le _))⟩
  · intro i hi ih
    have hc := ctP_le (fun t => hasb (I 53 7) t ∧ I 54 (48 + 3 * t + 1) = k) i
    refine Ev.go [4] (T := T_251) rfl rfl ?_
    conv => whnf
    refine brI (fun _ => ?_) (fun _ => by exfalso; omega)
    conv => whnf
    refine ⟨by omega, m188 (fun hp => ?_) (fun hp => ?_)⟩ <;> conv => whnf
    · refine ⟨by omega, m198 (by omega) (by omega) ?_⟩
      conv => whnf
      refine brI (fun e => ?_) (fun e => ?_) <;> conv => whnf
      · refine ⟨trivial, Ev.to ?_ rfl ih⟩
        rw [ctP_t (p := fun t => hasb (I 53 7) t ∧ I 54 (48 + 3 * t + 1) = k) ⟨hp, e⟩, iad_e (by omega), iad_e (by omega)]; rfl
      · refine ⟨trivial, Ev.to ?_ rfl ih⟩
        rw [ctP_f (p := fun t => hasb (I 53 7) t ∧ I 54 (48 + 3 * t + 1) = k) (fun q => e q.2), iad_e (by omega), iad_e (by omega), Int.add_zero]; rfl
    · refine ⟨trivial, Ev.to ?_ rfl ih⟩
      rw [ctP_f (p := fun t => hasb (I 53 7) t ∧ I 54 (48 + 3 * t + 1) = k) (fun q => hp q.1), iad_e (by omega), iad_e (by omega), Int.add_zero]; rfl
  · refine Ev.go [4] (T := T_251) rfl rfl ?_
    conv => whnf
    refine brI (fun _ => by exfalso; omega) (fun _ => ?_)
    conv => whnf
    exact ⟨trivial, h⟩
theorem x48 {d : Nat} {m : Int} {I : ME} {Q : Option MV → ME → Prop} (hd : 2 ≤ d) (h0 : 0 ≤ I 1 6) (h1 : I 1 6 < 4096) (h : Q (some (nt (wyI (pI (I 1 6)) m))) I) : EvM d 48 [rf 1, nt m] I Q := by
  have hb := pI_bd (I 1 6)
  refine EvM.go [] (T := T_48) rfl rfl rfl rfl ?_
  conv => whnf
  refine ⟨by omega, x39 (by omega) h0 h1 ?_⟩
  conv => whnf
  refine ⟨by omega, x183 hb.1 hb.2 ?_⟩
  conv => whnf
  exact ⟨trivial, h⟩
theorem m229 {d : Nat} {m : Int} {I : ME} {Q : Option MV → ME → Prop} (hd : 1 ≤ d) (h0 : 0 ≤ I 53 7) (h1 : I 53 7 < 4096) (k1 : (0 ≤ m ∧ m ≤ pI (I 53 7)) → Q (some (nt 1)) I) (k0 : ¬ (0 ≤ m ∧ m ≤ pI (I 53 7)) → Q (some (nt 0)) I) : EvM d 229 [rf 53, nt m] I Q := by
  refine EvM.go [] (T := T_229) rfl rfl rfl rfl ?_
  conv => whnf
  refine ⟨by omega, m189p h0 h1 ?_⟩
  conv => whnf
  refine ⟨by omega, m187 (fun q => ?_) (fun q => ?_)⟩ <;> conv => whnf
  · exact ⟨trivial, k1 q⟩
  · exact ⟨trivial, k0 q⟩
theorem m230 {d : Nat} {m s : Int} {I : ME} {Q : Option MV → ME → Prop} (hd : 1 ≤ d) (h0 : 0 ≤ s) (h1 : s < 4096) (h : Q (some (nt (if m < pI s then m else pI s))) I) : EvM d 230 [nt m, nt s] I Q := by
  refine EvM.go [] (T := T_230) rfl rfl rfl rfl ?_
  conv => whnf
  refine ⟨by omega, m189p h0 h1 ?_⟩
  conv => whnf
  refine brI (fun q => ?_) (fun q => ?_) <;> conv => whnf
  · rw [if_pos q] at h; exact ⟨trivial, h⟩
  · rw [if_neg q] at h
    refine ⟨by omega, m189p h0 h1 ?_⟩
    conv => whnf
    exact ⟨trivial, h⟩
