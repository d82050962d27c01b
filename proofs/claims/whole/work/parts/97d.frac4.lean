/-! KEEPS, FORGED, ODDS, DOUBT of the model, and both sides -/
abbrev hmP (I : ME) (k t : Int) : Prop := hasb (I 53 7) t ∧ I 54 (48 + 3 * t + 1) = k
theorem m252 {d : Nat} {k m p : Int} {I : ME} {Q : Option MV → ME → Prop} (hd : 4 ≤ d) (hz0 : 0 ≤ I 53 6) (hz : I 53 6 ≤ 12) (h6 : 0 ≤ I 53 7 ∧ I 53 7 < 4096)
    (h0 : ¬ ((pP k ∧ 0 ≤ m ∧ m ≤ pI (I 53 7)) ∧ 0 ≤ p ∧ p ≤ 1) → Q (some (lg NoF)) I) (h1 : (pP k ∧ 0 ≤ m ∧ m ≤ pI (I 53 7)) ∧ 0 ≤ p ∧ p ≤ 1 → Q (some (lg (frI (wyI (pI (I 53 7) - (ctP (hmP I k) (I 53 6).toNat : Nat)) m) (wyI (pI (I 53 7)) m) p))) I) : EvM d 252 [rf 53, nt k, nt m, nt p] I Q := by
  have hb := pI_bd (I 53 7)
  refine EvM.go [] (T := T_252) rfl rfl rfl rfl ?_
  conv => whnf
  refine ⟨by omega, m195 (by omega) (fun a => ?_) (fun a => ?_)⟩ <;> conv => whnf
  · refine ⟨by omega, m229 (by omega) h6.1 h6.2 (fun b => ?_) (fun b => ?_)⟩ <;> conv => whnf
    · refine ⟨by omega, m236 (by omega) (fun q => ?_) (fun q => ?_)⟩ <;> conv => whnf
      · have hc := ctP_pI (p := hmP I k) (n := (I 53 6).toNat) h6.1 h6.2 (by omega) (fun i hi q => q.1)
        have hw := wyI_bd (n := pI (I 53 7) - (ctP (hmP I k) (I 53 6).toNat : Nat)) (k := m) (by omega) (by omega)
        have hw2 := wyI_bd (n := pI (I 53 7)) (k := m) hb.1 hb.2
        have hw3 := wyI_pos (n := pI (I 53 7)) (k := m) hb.2 b.1 b.2
        refine ⟨by omega, m189p h6.1 h6.2 ?_⟩
        conv => whnf
        refine ⟨by omega, m230 (by omega) h6.1 h6.2 ?_⟩
        rw [show (if m < pI (I 53 7) then m else pI (I 53 7)) = m by split <;> omega]
        conv => whnf
        refine ⟨by omega, m251 (by omega) hz0 hz ?_⟩
        conv => whnf
        rw [show ctP (fun t => hasb (I 53 7) t ∧ I 54 (48 + 3 * t + 1) = k) (I 53 6).toNat = ctP (hmP I k) (I 53 6).toNat from rfl]
        rw [isb_e (by omega)]
        refine ⟨by omega, m231 (by omega) (by omega) ?_⟩
        conv => whnf
        refine ⟨by omega, m231 (by omega) (by omega) ?_⟩
        conv => whnf
        refine ⟨by omega, m235 (by omega) (by omega) (by omega) q ?_⟩
        conv => whnf
        exact ⟨trivial, h1 ⟨⟨a, b⟩, q⟩⟩
      · exact ⟨trivial, h0 (fun r => q r.2)⟩
    · exact ⟨trivial, h0 (fun r => b r.1.2)⟩
  · exact ⟨trivial, h0 (fun r => a r.1.1)⟩
theorem m254 {d : Nat} {s m p : Int} {I : ME} {Q : Option MV → ME → Prop} (hd : 4 ≤ d) (h6 : 0 ≤ I 53 7 ∧ I 53 7 < 4096) (hs : -2147483648 ≤ s ∧ s ≤ 2147483647)
    (h0 : ¬ ((ian s (ixr (I 53 7) (-1)) = 0 ∧ 0 ≤ m ∧ m ≤ pI (I 53 7)) ∧ 0 ≤ p ∧ p ≤ 1) → Q (some (lg NoF)) I) (h1 : (ian s (ixr (I 53 7) (-1)) = 0 ∧ 0 ≤ m ∧ m ≤ pI (I 53 7)) ∧ 0 ≤ p ∧ p ≤ 1 → Q (some (lg (frI (wyI (pI (I 53 7) - pI s) (m - pI s)) (wyI (pI (I 53 7)) m) p))) I) : EvM d 254 [rf 53, nt s, nt m, nt p] I Q := by
  have hb := pI_bd (I 53 7)
  have hb2 := pI_bd s
  refine EvM.go [] (T := T_254) rfl rfl rfl rfl ?_
  conv => whnf
  refine ⟨by omega, m227 (fun a => ?_) (fun a => ?_)⟩ <;> conv => whnf
  · obtain ⟨a1, a2⟩ := areIn_sub hs h6.1 h6.2 a.2
    have hm := pI_mono a1.1 a1.2 h6.1 h6.2 (fun u u0 u1 q => a2 u u0 (by omega) q)
    refine ⟨by omega, m229 (by omega) h6.1 h6.2 (fun b => ?_) (fun b => ?_)⟩ <;> conv => whnf
    · refine ⟨by omega, m236 (by omega) (fun q => ?_) (fun q => ?_)⟩ <;> conv => whnf
      · have hw := wyI_bd (n := pI (I 53 7) - pI s) (k := m - pI s) (by omega) (by omega)
        have hw2 := wyI_bd (n := pI (I 53 7)) (k := m) hb.1 hb.2
        have hw3 := wyI_pos (n := pI (I 53 7)) (k := m) hb.2 b.1 b.2
        refine ⟨by omega, m189p h6.1 h6.2 ?_⟩
        conv => whnf
        refine ⟨by omega, m230 (by omega) h6.1 h6.2 ?_⟩
        rw [show (if m < pI (I 53 7) then m else pI (I 53 7)) = m by split <;> omega]
        conv => whnf
        refine ⟨by omega, m189p a1.1 a1.2 ?_⟩
        conv => whnf
        refine ⟨by omega, m189p a1.1 a1.2 ?_⟩
        conv => whnf
        rw [isb_e (by omega), isb_e (by omega)]
        refine ⟨by omega, m231 (by omega) (by omega) ?_⟩
        conv => whnf
        refine ⟨by omega, m231 (by omega) (by omega) ?_⟩
        conv => whnf
        refine ⟨by omega, m235 (by omega) (by omega) (by omega) q ?_⟩
        conv => whnf
        exact ⟨trivial, h1 ⟨⟨a.2, b⟩, q⟩⟩
      · exact ⟨trivial, h0 (fun r => q r.2)⟩
    · exact ⟨trivial, h0 (fun r => b r.1.2)⟩
  · refine ⟨trivial, h0 (fun r => a ⟨?_, r.1.1⟩)⟩
    exact (areIn_sub hs h6.1 h6.2 r.1.1).1.1
def tmP (I : ME) (k th t : Int) : Prop := hasb (I 53 7) t ∧ I 54 (48 + 3 * t + 2) ≠ 1 ∧ I 54 (48 + 3 * t + 1) = k ∧ I 54 (48 + 3 * t) = th
theorem m240 {d : Nat} {k m p : Int} {I : ME} {Q : Option MV → ME → Prop} (hd : 4 ≤ d) (hk : k ≤ 2147483647) (hz0 : 0 ≤ I 53 6) (hz : I 53 6 ≤ 12) (h6 : 0 ≤ I 53 7 ∧ I 53 7 < 4096)
    (h0 : ¬ ((lvC k ∧ 0 ≤ m ∧ m ≤ pI (I 53 7)) ∧ 0 ≤ p ∧ p ≤ 1) → Q (some (lg NoF)) I)
    (h1 : (lvC k ∧ 0 ≤ m ∧ m ≤ pI (I 53 7)) ∧ 0 ≤ p ∧ p ≤ 1 → hasb (I 58 (k / 10)) (k % 10) → Q (some (lg p)) I)
    (h2 : (lvC k ∧ 0 ≤ m ∧ m ≤ pI (I 53 7)) ∧ 0 ≤ p ∧ p ≤ 1 → ¬ hasb (I 58 (k / 10)) (k % 10) → Q (some (lg (frI (wyI (pI (I 53 7) - (ctP (tmP I (k / 10) (k % 10)) (I 53 6).toNat : Nat)) m) (wyI (pI (I 53 7)) m) p))) I) : EvM d 240 [rf 53, nt k, nt m, nt p] I Q := by
  have hb := pI_bd (I 53 7)
  have loop : (lvC k ∧ 0 ≤ m ∧ m ≤ pI (I 53 7)) ∧ 0 ≤ p ∧ p ≤ 1 → ¬ hasb (I 58 (k / 10)) (k % 10) → Ev d 240 73 [some (rf 53), some (nt k), some (nt m), some (nt p), some (nt 0), some (nt 0), none] [] I Q := by
    intro hok hn
    have h2 := h2 hok hn
    obtain ⟨⟨a, b⟩, q⟩ := hok
    refine Ev.to (ls' := [some (rf 53), some (nt k), some (nt m), some (nt p), some (nt ((ctP (tmP I (k / 10) (k % 10)) 0 : Nat) : Int)), some (nt ((0 : Nat) : Int)), none]) rfl rfl (Ev.up (I 53 6).toNat (fun i => [some (rf 53), some (nt k), some (nt m), some (nt p), some (nt ((ctP (tmP I (k / 10) (k % 10)) i : Nat) : Int)), some (nt (i : Nat)), none]) (fun _ => I) ?_ ?_ 0 (Nat.zero_le _))
    · intro i hi ih
      have hc := ctP_le (tmP I (k / 10) (k % 10)) i
      have no : ¬ tmP I (k / 10) (k % 10) i → Ev d 240 73 [some (rf 53), some (nt k), some (nt m), some (nt p), some (nt (iad ((ctP (tmP I (k / 10) (k % 10)) i : Nat) : Int) 0)), some (nt (iad (i : Int) 1)), none] [] I Q := fun hx => by
        refine Ev.to ?_ rfl ih
        rw [ctP_f hx, iad_e (by omega), iad_e (by omega), Int.add_zero]; rfl
      refine Ev.go [73] (T := T_240) rfl rfl ?_
      conv => whnf
      refine brI (fun _ => ?_) (fun _ => by exfalso; omega)
      conv => whnf
      refine ⟨by omega, m188 (fun e1 => ?_) (fun e1 => ?_)⟩ <;> conv => whnf
      · refine ⟨by omega, m199 (by omega) (by omega) (fun e2 => ?_) (fun e2 => ?_)⟩ <;> conv => whnf
        · exact ⟨trivial, no (fun x => x.2.1 e2)⟩
        · refine ⟨by omega, m198 (by omega) (by omega) ?_⟩
          conv => whnf
          refine nzI (by decide) ?_
          conv => whnf
          rw [idv_q a.1 hk (by decide)]
          refine brI (fun e3 => ?_) (fun e3 => ?_) <;> conv => whnf
          · refine ⟨by omega, m197 (by omega) (by omega) ?_⟩
            conv => whnf
            refine nzI (by decide) ?_
            conv => whnf
            rw [irm_q a.1 hk (by decide)]
            refine brI (fun e4 => ?_) (fun e4 => ?_) <;> conv => whnf
            · refine ⟨trivial, Ev.to ?_ rfl ih⟩
              rw [ctP_t (p := tmP I (k / 10) (k % 10)) ⟨e1, e2, e3, e4⟩, iad_e (by omega), iad_e (by omega)]; rfl
            · exact ⟨trivial, no (fun x => e4 x.2.2.2)⟩
          · exact ⟨trivial, no (fun x => e3 x.2.2.1)⟩
      · exact ⟨trivial, no (fun x => e1 x.1)⟩
    · have hc := ctP_pI (p := tmP I (k / 10) (k % 10)) (n := (I 53 6).toNat) h6.1 h6.2 (by omega) (fun i hi q => q.1)
      have hw := wyI_bd (n := pI (I 53 7) - (ctP (tmP I (k / 10) (k % 10)) (I 53 6).toNat : Nat)) (k := m) (by omega) (by omega)
      have hw2 := wyI_bd (n := pI (I 53 7)) (k := m) hb.1 hb.2
      have hw3 := wyI_pos (n := pI (I 53 7)) (k := m) hb.2 b.1 b.2
      refine Ev.go [] (T := T_240) rfl rfl ?_
      conv => whnf
      refine brI (fun _ => by exfalso; omega) (fun _ => ?_)
      conv => whnf
      refine ⟨by omega, m189p h6.1 h6.2 ?_⟩
      conv => whnf
      refine ⟨by omega, m230 (by omega) h6.1 h6.2 ?_⟩
      rw [show (if m < pI (I 53 7) then m else pI (I 53 7)) = m by split <;> omega]
      conv => whnf
      rw [isb_e (by omega)]
      refine ⟨by omega, m231 (by omega) (by omega) ?_⟩
      conv => whnf
      refine ⟨by omega, m231 (by omega) (by omega) ?_⟩
      conv => whnf
      refine ⟨by omega, m235 (by omega) (by omega) (by omega) q ?_⟩
      conv => whnf
      exact ⟨trivial, h2⟩
  refine EvM.go [73] (T := T_240) rfl rfl rfl rfl ?_
  conv => whnf
  refine brI (fun a0 => ?_) (fun a0 => ?_) <;> conv => whnf
  · exact ⟨trivial, h0 (fun r => by omega)⟩
  · refine nzI (by decide) ?_
    conv => whnf
    rw [idv_q (by omega) hk (by decide)]
    refine ⟨by omega, m195 (by omega) (fun a1 => ?_) (fun a1 => ?_)⟩ <;> conv => whnf
    · refine nzI (by decide) ?_
      conv => whnf
      rw [irm_q (by omega) hk (by decide)]
      refine ⟨by omega, m196 (by omega) (fun a2 => ?_) (fun a2 => ?_)⟩ <;> conv => whnf
      · refine ⟨by omega, m229 (by omega) h6.1 h6.2 (fun b => ?_) (fun b => ?_)⟩ <;> conv => whnf
        · refine ⟨by omega, m236 (by omega) (fun q => ?_) (fun q => ?_)⟩ <;> conv => whnf
          · refine nzI (by decide) ?_
            conv => whnf
            rw [idv_q (by omega) hk (by decide)]
            refine anI (by omega) ?_
            conv => whnf
            refine nzI (by decide) ?_
            conv => whnf
            rw [irm_q (by omega) hk (by decide)]
            refine ⟨by omega, m188 (fun e1 => ?_) (fun e1 => ?_)⟩ <;> conv => whnf
            · exact ⟨trivial, h1 ⟨⟨by omega, b⟩, q⟩ e1⟩
            · exact ⟨trivial, loop ⟨⟨by omega, b⟩, q⟩ e1⟩
          · exact ⟨trivial, h0 (fun r => q r.2)⟩
        · exact ⟨trivial, h0 (fun r => b r.1.2)⟩
      · exact ⟨trivial, h0 (fun r => by omega)⟩
    · exact ⟨trivial, h0 (fun r => by omega)⟩
theorem m253 {d : Nat} {k x : Int} {I : ME} {Q : Option MV → ME → Prop} (hd : 4 ≤ d) (hz0 : 0 ≤ I 53 6) (hz : I 53 6 ≤ 12) (h6 : 0 ≤ I 53 7 ∧ I 53 7 < 4096)
    (h0 : ¬ (pP k ∧ 1 ≤ x ∧ x ≤ 12) → Q (some (nt (-1))) I) (h1 : (pP k ∧ 1 ≤ x ∧ x ≤ 12) → Q (some (nt (dbF (pI (I 53 7) - (ctP (hmP I k) (I 53 6).toNat : Nat)) (pI (I 53 7)) x ((pI (I 53 7)).toNat + 1) 0))) I) : EvM d 253 [rf 53, nt k, nt x] I Q := by
  have hb := pI_bd (I 53 7)
  refine EvM.go [33] (T := T_253) rfl rfl rfl rfl ?_
  conv => whnf
  refine ⟨by omega, m195 (by omega) (fun a => ?_) (fun a => ?_)⟩ <;> conv => whnf
  · refine ⟨by omega, m187 (fun b => ?_) (fun b => ?_)⟩ <;> conv => whnf
    · have h1 := h1 ⟨a, b⟩
      have hc := ctP_pI (p := hmP I k) (n := (I 53 6).toNat) h6.1 h6.2 (by omega) (fun i hi q => q.1)
      refine ⟨by omega, m189p h6.1 h6.2 ?_⟩
      conv => whnf
      refine ⟨trivial, ?_⟩
      have key : ∀ f m : Nat, (m : Int) + f = pI (I 53 7) + 1 → Q (some (nt (dbF (pI (I 53 7) - (ctP (hmP I k) (I 53 6).toNat : Nat)) (pI (I 53 7)) x f m))) I → Ev d 253 33 [some (rf 53), some (nt k), some (nt x), some (nt (pI (I 53 7))), some (nt (m : Int))] [] I Q := by
        intro f
        induction f with
        | zero =>
          intro m hm hq
          refine Ev.go [] (T := T_253) rfl rfl ?_
          conv => whnf
          refine brI (fun _ => ?_) (fun _ => by exfalso; omega)
          conv => whnf
          exact ⟨trivial, hq⟩
        | succ f ih =>
          intro m hm hq
          have hq : Q (some (nt (if 12 * wyI (pI (I 53 7) - (ctP (hmP I k) (I 53 6).toNat : Nat)) m < x * wyI (pI (I 53 7)) m then (m : Int) else dbF (pI (I 53 7) - (ctP (hmP I k) (I 53 6).toNat : Nat)) (pI (I 53 7)) x f ((m : Int) + 1)))) I := hq
          have hw := wyI_bd (n := pI (I 53 7) - (ctP (hmP I k) (I 53 6).toNat : Nat)) (k := m) (by omega) (by omega)
          have hw2 := wyI_bd (n := pI (I 53 7)) (k := m) hb.1 hb.2
          have hp : 0 ≤ x * wyI (pI (I 53 7)) m ∧ x * wyI (pI (I 53 7)) m ≤ 12000 := ⟨Int.mul_nonneg (by omega) (by omega), by
            have := Int.mul_le_mul (a := x) (c := 12) (b := wyI (pI (I 53 7)) m) (d := 1000) (by omega) (by omega) (by omega) (by omega)
            omega⟩
          refine Ev.go [33] (T := T_253) rfl rfl ?_
          conv => whnf
          refine brI (fun _ => by exfalso; omega) (fun _ => ?_)
          conv => whnf
          refine ⟨by omega, m251 (by omega) hz0 hz ?_⟩
          conv => whnf
          rw [show ctP (fun t => hasb (I 53 7) t ∧ I 54 (48 + 3 * t + 1) = k) (I 53 6).toNat = ctP (hmP I k) (I 53 6).toNat from rfl]
          rw [isb_e (by omega)]
          refine ⟨by omega, m231 (by omega) (by omega) ?_⟩
          conv => whnf
          refine ⟨by omega, m231 (by omega) (by omega) ?_⟩
          conv => whnf
          rw [lml_e (by omega), lml_e (by omega)]
          refine brI (fun e => ?_) (fun e => ?_) <;> (rw [lcm_lt] at e) <;> conv => whnf
          · rw [if_pos e] at hq
            exact ⟨trivial, hq⟩
          · rw [if_neg e] at hq
            refine ⟨trivial, Ev.to ?_ rfl (ih (m + 1) (by omega) hq)⟩
            rw [iad_e (by omega)]
            rfl
      exact key _ 0 (by omega) h1
    · exact ⟨trivial, h0 (fun r => b r.2)⟩
  · exact ⟨trivial, h0 (fun r => a r.1)⟩
theorem Rel.held {c : Int} {I : ME} (h : Rel c I) (k : Int) : ctP (hmP I k) (I 53 6).toNat = ctP (fun t => heC I t k) (I 1 5).toNat := by
  have hf := h.f
  rw [show I 53 6 = I 1 5 by omega]
  refine ctP_cg fun i hi => ?_
  have := (h.t (t := (i : Int)) (by omega) (by omega)).2.2.1
  unfold hmP
  rw [this, show I 53 7 = I 1 6 by omega]
  constructor
  · intro q; exact ⟨by omega, q.1, q.2⟩
  · intro q; exact q.2
theorem op17 {k m p : Int} : OpL 147 252 [nt k, nt m, nt p] := by
  intro c I hc0 hc h
  have hf := h.f
  have hm := h.mono
  have e7 : I 53 7 = I 1 6 := by omega
  have hh := h.held k
  refine x147 (by omega) (by omega) (by omega) (by omega) (fun q => ?_) (fun q => ?_)
  · refine ⟨_, rfl, m252 (by omega) (by omega) (by omega) (by omega) (fun _ => ⟨rfl, hm, rfl⟩) (fun r => ?_)⟩
    rw [e7] at r; exact absurd r q
  · refine ⟨_, rfl, m252 (by omega) (by omega) (by omega) (by omega) (fun r => ?_) (fun r => ⟨?_, hm, rfl⟩)⟩
    · rw [e7] at r; exact absurd q r
    · rw [hh, e7]
theorem op19 {s m p : Int} (hs : -2147483648 ≤ s ∧ s ≤ 2147483647) : OpL 149 254 [nt s, nt m, nt p] := by
  intro c I hc0 hc h
  have hf := h.f
  have hm := h.mono
  have e7 : I 53 7 = I 1 6 := by omega
  refine x149 (by omega) (by omega) hs (fun q => ?_) (fun q => ?_)
  · refine ⟨_, rfl, m254 (by omega) (by omega) hs (fun _ => ⟨rfl, hm, rfl⟩) (fun r => ?_)⟩
    rw [e7] at r; exact absurd r q
  · refine ⟨_, rfl, m254 (by omega) (by omega) hs (fun r => ?_) (fun r => ⟨?_, hm, rfl⟩)⟩
    · rw [e7] at r; exact absurd q r
    · rw [e7]
theorem op10 {k m p : Int} (hk : k ≤ 2147483647) : OpL 140 240 [nt k, nt m, nt p] := by
  intro c I hc0 hc h
  have hf := h.f
  have hm := h.mono
  have e7 : I 53 7 = I 1 6 := by omega
  have e58 : lvC k → I 58 (k / 10) = I 6 (k / 10) := fun q => (h.p (p := k / 10) (by omega)).2
  have hct : lvC k → ¬ hasb (I 6 (k / 10)) (k % 10) → ctP (tmP I (k / 10) (k % 10)) (I 53 6).toNat = ctP (thC I (k / 10) (k % 10)) (I 1 5).toNat := fun hl hn => by
    rw [show I 53 6 = I 1 5 by omega]
    refine ctP_cg fun i hi => ?_
    obtain ⟨t1, t2, t3, t4⟩ := h.t (t := (i : Int)) (by omega) (by omega)
    unfold tmP thC heC
    rw [t2, t3, t4, e7]
    constructor
    · rintro ⟨a, b, c, e⟩
      refine ⟨e, ⟨by omega, a, c⟩, by omega, fun q => hn ?_⟩
      rw [← e]; exact q.2
    · rintro ⟨a, b, c, e⟩
      exact ⟨b.2.1, by omega, b.2.2, a⟩
  refine x140 (by omega) hk (by omega) (by omega) (by omega) (fun q => ?_) (fun q1 q2 => ?_) (fun q1 q2 => ?_)
  · refine ⟨_, rfl, m240 (by omega) hk (by omega) (by omega) (by omega) (fun _ => ⟨rfl, hm, rfl⟩) (fun r => ?_) (fun r => ?_)⟩
    · rw [e7] at r; exact absurd r q
    · rw [e7] at r; exact absurd r q
  · refine ⟨_, rfl, m240 (by omega) hk (by omega) (by omega) (by omega) (fun r => ?_) (fun _ _ => ⟨rfl, hm, rfl⟩) (fun r1 r2 => ?_)⟩
    · rw [e7] at r; exact absurd q1 r
    · rw [e58 q1.1.1] at r2; exact absurd q2 r2
  · refine ⟨_, rfl, m240 (by omega) hk (by omega) (by omega) (by omega) (fun r => ?_) (fun r1 r2 => ?_) (fun r1 r2 => ⟨?_, hm, rfl⟩)⟩
    · rw [e7] at r; exact absurd q1 r
    · rw [e58 q1.1.1] at r2; exact absurd r2 q2
    · rw [hct q1.1.1 q2, e7]
theorem op18 {k x : Int} : OpI 148 253 [nt k, nt x] := by
  intro c I hc0 hc h
  have hf := h.f
  have hm := h.mono
  have e7 : I 53 7 = I 1 6 := by omega
  have hh := h.held k
  refine x148 (by omega) (by omega) (by omega) (by omega) (fun q => ?_) (fun q => ?_)
  · exact ⟨_, rfl, m253 (by omega) (by omega) (by omega) (by omega) (fun _ => ⟨rfl, hm, rfl⟩) (fun r => absurd r q)⟩
  · refine ⟨_, rfl, m253 (by omega) (by omega) (by omega) (by omega) (fun r => absurd q r) (fun r => ⟨?_, hm, rfl⟩)⟩
    rw [hh, e7]
