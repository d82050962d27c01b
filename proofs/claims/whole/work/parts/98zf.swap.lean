/-! PAIRS of tickets: the first of the least; SWAP, the class -/
noncomputable def prS (ok : Int → Int → Prop) (v : Int → Int → Int) (a b : Int) (s : Int × Int) : Int × Int := @ite _ (ok a b ∧ (s.1 = -2 ∨ v a b < s.2)) (Classical.propDecidable _) (20 * a + b, v a b) s
theorem prS_t {ok : Int → Int → Prop} {v : Int → Int → Int} {a b : Int} {s : Int × Int} (h : ok a b ∧ (s.1 = -2 ∨ v a b < s.2)) : prS ok v a b s = (20 * a + b, v a b) := @if_pos _ (Classical.propDecidable _) h _ _ _
theorem prS_f {ok : Int → Int → Prop} {v : Int → Int → Int} {a b : Int} {s : Int × Int} (h : ¬ (ok a b ∧ (s.1 = -2 ∨ v a b < s.2))) : prS ok v a b s = s := @if_neg _ (Classical.propDecidable _) h _ _ _
noncomputable def prI (ok : Int → Int → Prop) (v : Int → Int → Int) (a : Nat) (s : Int × Int) : Nat → Int × Int
  | 0 => s
  | j + 1 => prS ok v (a : Int) ((a + 1 + j : Nat) : Int) (prI ok v a s j)
noncomputable def prO (ok : Int → Int → Prop) (v : Int → Int → Int) (n : Nat) : Nat → Int × Int
  | 0 => (-2, 0)
  | a + 1 => prI ok v a (prO ok v n a) (n - (a + 1))
theorem prI_p {ok : Int → Int → Prop} {v : Int → Int → Int} {a : Nat} {s : Int × Int} (hs : s.1 = -2 ∨ 0 ≤ s.1) : ∀ j : Nat, (prI ok v a s j).1 = -2 ∨ 0 ≤ (prI ok v a s j).1
  | 0 => hs
  | j + 1 => by
    have ih := prI_p (ok := ok) (v := v) (a := a) hs j
    show (prS ok v (a : Int) ((a + 1 + j : Nat) : Int) (prI ok v a s j)).1 = -2 ∨ 0 ≤ (prS ok v (a : Int) ((a + 1 + j : Nat) : Int) (prI ok v a s j)).1
    by_cases h : ok (a : Int) ((a + 1 + j : Nat) : Int) ∧ ((prI ok v a s j).1 = -2 ∨ v (a : Int) ((a + 1 + j : Nat) : Int) < (prI ok v a s j).2)
    · rw [prS_t h]; right; show 0 ≤ 20 * (a : Int) + ((a + 1 + j : Nat) : Int); omega
    · rw [prS_f h]; exact ih
theorem prO_p {ok : Int → Int → Prop} {v : Int → Int → Int} {n : Nat} : ∀ a : Nat, (prO ok v n a).1 = -2 ∨ 0 ≤ (prO ok v n a).1
  | 0 => Or.inl rfl
  | a + 1 => prI_p (prO_p a) _
def swL (L : LT) (a b : Int) : LT := Lho (Lho L a (tHo L b)) b (tHo L a)
noncomputable def swV (ln : lz_L) (L : LT) (m a b : Int) : Int := smA ln (swL L a b) (tHo L a) m + smA ln (swL L a b) (tHo L b) m
def swG (ln : lz_L) (L : LT) (m a b : Int) : Prop := smA ln (swL L a b) (tHo L a) m ≤ smA ln L (tHo L a) m ∧ smA ln (swL L a b) (tHo L b) m ≤ smA ln L (tHo L b) m ∧ swV ln L m a b < smA ln L (tHo L a) m + smA ln L (tHo L b) m
def swC (L : LT) (a b : Int) : Prop := hasb (tIn L) a ∧ hasb (tIn L) b ∧ tHo L a ≠ tHo L b ∧ tHo L a ≠ -1 ∧ tHo L b ≠ -1
def swK_ (ln : lz_L) (L : LT) (m a b : Int) : Prop := swC L a b ∧ swG ln L m a b
theorem fu_4 {f : gF} {A B p q : Int} (hp : f A = p) (hq : f B = q) (h : A ≠ B) : fu (fu (fu (fu f A q) B p) A p) B q = f := by
  funext j
  unfold fu
  by_cases h1 : j = B
  · rw [if_pos h1, h1, hq]
  · rw [if_neg h1]
    by_cases h2 : j = A
    · rw [if_pos h2, h2, hp]
    · rw [if_neg h2, if_neg h1, if_neg h2]
theorem swL_bk {L : LT} {a b : Int} (h : a ≠ b) : Lho (Lho (swL L a b) a (tHo L a)) b (tHo L b) = L := by
  show (tSz L, tIn L, tDr L, tLv L, tTh L, fu (fu (fu (fu (tHo L) a (tHo L b)) b (tHo L a)) a (tHo L a)) b (tHo L b), tBl L, tLo L) = L
  rw [fu_4 rfl rfl h]
  rfl
theorem x71 {d : Nat} {ln : lz_L} {L : LT} {a b : Int} {I : ME} {Q : Option MV → ME → Prop} (hd : 2 ≤ d) (hC : CX ln L I) (ha : 0 ≤ a ∧ a < tSz L) (hb : 0 ≤ b ∧ b < tSz L) (h1 : swC L a b → Q (some (nt 1)) I) (h0 : ¬ swC L a b → Q (some (nt 0)) I) : EvM d 71 [rf 24, nt a, nt b] I Q := by
  refine EvM.go [] (T := T_71) rfl rfl rfl rfl ?_
  conv => whnf
  refine ⟨by omega, x44L (by omega) hC ha ?_⟩
  conv => whnf
  refine ⟨by omega, x44L (by omega) hC hb ?_⟩
  conv => whnf
  refine ⟨by omega, x37L (by omega) hC (fun z1 => ?_) (fun z1 => ?_)⟩ <;> conv => whnf
  · refine ⟨by omega, x37L (by omega) hC (fun z2 => ?_) (fun z2 => ?_)⟩ <;> conv => whnf
    · refine brI (fun z3 => ?_) (fun z3 => ?_) <;> conv => whnf
      · exact ⟨trivial, h0 (fun w => w.2.2.1 z3)⟩
      · refine brI (fun z4 => ?_) (fun z4 => ?_) <;> conv => whnf
        · exact ⟨trivial, h0 (fun w => w.2.2.2.1 z4)⟩
        · refine brI (fun z5 => ?_) (fun z5 => ?_) <;> conv => whnf
          · exact ⟨trivial, h0 (fun w => w.2.2.2.2 z5)⟩
          · exact ⟨trivial, h1 ⟨z1.2, z2.2, z3, z4, z5⟩⟩
    · exact ⟨trivial, h0 (fun w => z2 ⟨hb, w.2.1⟩)⟩
  · exact ⟨trivial, h0 (fun w => z1 ⟨ha, w.1⟩)⟩
theorem x72 {d : Nat} {ln : lz_L} {L : LT} {a b m : Int} {I : ME} {Q : Option MV → ME → Prop} (hd : 8 ≤ d) (hC : CX ln L I) (ha : 0 ≤ a ∧ a < tSz L) (hb : 0 ≤ b ∧ b < tSz L) (hab : a ≠ b) (hka : pP (tHo L a)) (hkb : pP (tHo L b)) (hm : cdW L m) (h25 : ∀ p, pP p → I 25 p = smA ln L p m)
    (h : ∀ J r, Fr [11, 12, 13, 20, 21, 22, 23, 24] I J → CX ln L J → J 24 12 = I 24 12 → J 24 13 = swV ln L m a b → (r = 1 ∧ swG ln L m a b ∨ r = 0 ∧ ¬ swG ln L m a b) → Q (some (nt r)) J) : EvM d 72 [rf 24, nt a, nt b, nt m] I Q := by
  have hO := hC.2.1
  have g := hO.f
  have hpI := pI_bd (tIn L)
  have hm12 : 0 ≤ m ∧ m ≤ 12 := ⟨hm.1, by have := hm.2; omega⟩
  refine EvM.go [] (T := T_72) rfl rfl rfl rfl ?_
  conv => whnf
  refine ⟨by omega, x44L (by omega) hC ha ?_⟩
  conv => whnf
  refine ⟨by omega, x44L (by omega) hC hb ?_⟩
  conv => whnf
  refine ⟨by omega, x45L (by omega) hC ha (Or.inr hkb) (fun hX1 => ?_)⟩
  conv => whnf
  refine ⟨by omega, x45L (by omega) hX1 hb (Or.inr hka) (fun hX2 => ?_)⟩
  conv => whnf
  refine ⟨by omega, x63 (by omega) hX2 hka hm12 (fun J1 hF1 hX3 => ?_)⟩
  conv => whnf
  refine ⟨by omega, x63 (by omega) hX3 hkb hm12 (fun J2 hF2 hX4 => ?_)⟩
  conv => whnf
  refine ⟨by omega, x45L (by omega) hX4 ha (Or.inr hka) (fun hX5 => ?_)⟩
  conv => whnf
  refine ⟨by omega, x45L (by omega) hX5 hb (Or.inr hkb) (fun hX6 => ?_)⟩
  conv => whnf
  have hX6 : CX ln L (upd_ (upd_ J2 4 a (tHo L a)) 4 b (tHo L b)) := by
    have e := swL_bk (L := L) hab
    unfold swL at e
    rw [e] at hX6
    exact hX6
  have hF6 : Fr [4, 11, 12, 13, 20, 21, 22, 23, 24] I (upd_ (upd_ J2 4 a (tHo L a)) 4 b (tHo L b)) := fr_up (fr_up (((fr_up (fr_up Fr.rfl' (by decide)) (by decide)).tr (hF1.sub (by decide))).tr (hF2.sub (by decide))) (by decide)) (by decide)
  have b1 := smA_bd (ln := ln) (m := m) hX2.2.1 hka
  have b2 := smA_bd (ln := ln) (m := m) hX2.2.1 hkb
  have b3 := smA_bd (ln := ln) (m := m) hO hka
  have b4 := smA_bd (ln := ln) (m := m) hO hkb
  have eV : iad (smA ln (swL L a b) (tHo L a) m) (smA ln (swL L a b) (tHo L b) m) = swV ln L m a b := by rw [iad_e (by unfold swL; omega)]; rfl
  rw [show iad (smA ln (Lho (Lho L a (tHo L b)) b (tHo L a)) (tHo L a) m) (smA ln (Lho (Lho L a (tHo L b)) b (tHo L a)) (tHo L b) m) = swV ln L m a b from eV]
  have hK := fun (r : Int) (hr : r = 1 ∧ swG ln L m a b ∨ r = 0 ∧ ¬ swG ln L m a b) => h (upd_ (upd_ (upd_ J2 4 a (tHo L a)) 4 b (tHo L b)) 24 13 (swV ln L m a b)) r (Fr.back (fr_up hF6 (by decide)) (by rw [up_c (by decide), hX6.f.2.2.2.2.2.1, hC.f.2.2.2.2.2.1])) (hX6.fr (fun c hc => up_c (by omega))) (by
    rw [up_ne (by decide), up_c (by decide), up_c (by decide), hF2 24 (by decide), hF1 24 (by decide), up_c (by decide), up_c (by decide)]) (by rw [up_eq]) hr
  have e25 : upd_ (upd_ (upd_ J2 4 a (tHo L a)) 4 b (tHo L b)) 24 13 (swV ln L m a b) 25 = I 25 := by
    rw [up_c (by decide), up_c (by decide), up_c (by decide), hF2 25 (by decide), hF1 25 (by decide), up_c (by decide), up_c (by decide)]
  refine anI (by omega) ?_
  conv => whnf
  rw [e25, h25 _ hka]
  refine brI (fun z => ?_) (fun z => ?_) <;> conv => whnf
  · exact ⟨trivial, hK 0 (Or.inr ⟨rfl, fun w => by have := w.1; unfold swL at this; omega⟩)⟩
  · refine anI (by omega) ?_
    conv => whnf
    rw [e25, h25 _ hkb]
    refine brI (fun z2 => ?_) (fun z2 => ?_) <;> conv => whnf
    · exact ⟨trivial, hK 0 (Or.inr ⟨rfl, fun w => by have := w.2.1; unfold swL at this; omega⟩)⟩
    · refine anI (by omega) ?_
      conv => whnf
      refine anI (by omega) ?_
      conv => whnf
      rw [e25, h25 _ hka, h25 _ hkb, iad_e (by omega)]
      refine brI (fun z3 => ?_) (fun z3 => ?_) <;> conv => whnf
      · exact ⟨trivial, hK 1 (Or.inl ⟨rfl, ⟨by unfold swL; omega, by unfold swL; omega, z3⟩⟩)⟩
      · exact ⟨trivial, hK 0 (Or.inr ⟨rfl, fun w => z3 w.2.2⟩)⟩
theorem x70 {d : Nat} {ln : lz_L} {L : LT} {m : Int} {I : ME} {Q : Option MV → ME → Prop} (hd : 9 ≤ d) (hC : CX ln L I) (hm : cdW L m)
    (h : ∀ J, Fr [11, 12, 13, 20, 21, 22, 23, 24, 25] I J → CX ln L J → Q (some (nt (prO (swK_ ln L m) (swV ln L m) (tSz L).toNat (tSz L).toNat).1)) J) : EvM d 70 [rf 24, nt m] I Q := by
  have hO := hC.2.1
  have g := hO.f
  have hpI := pI_bd (tIn L)
  have hm12 : 0 ≤ m ∧ m ≤ 12 := ⟨hm.1, by have := hm.2; omega⟩
  have inner : ∀ (r j a : Nat) (s0 s : Int × Int) (J : ME) (Q' : Option MV → ME → Prop), a + 1 + j + r = (tSz L).toNat → s = prI (swK_ ln L m) (swV ln L m) a s0 j → Fr [11, 12, 13, 20, 21, 22, 23, 24, 25] I J → CX ln L J → (∀ p, pP p → J 25 p = smA ln L p m) → (s.1 ≠ -2 → J 24 12 = s.2) →
      (∀ (s : Int × Int) (J : ME), s = prI (swK_ ln L m) (swV ln L m) a s0 ((tSz L).toNat - (a + 1)) → Fr [11, 12, 13, 20, 21, 22, 23, 24, 25] I J → CX ln L J → (∀ p, pP p → J 25 p = smA ln L p m) → (s.1 ≠ -2 → J 24 12 = s.2) → Ev d 70 122 [some (rf 24), some (nt m), some (nt s.1), some (nt (a : Int)), some (nt (((tSz L).toNat : Nat) : Int))] [] J Q') →
      Ev d 70 50 [some (rf 24), some (nt m), some (nt s.1), some (nt (a : Int)), some (nt ((a + 1 + j : Nat) : Int))] [] J Q' := by
    intro r
    induction r with
    | zero =>
      intro j a s0 s J Q' hr hs hF hX h25 h12 hn
      have f := hX.f
      refine Ev.go [122] (T := T_70) rfl rfl ?_
      conv => whnf
      refine ⟨by omega, x35 ?_⟩
      rw [f.1]
      conv => whnf
      refine brI (fun z => ?_) (fun z => ?_)
      all_goals first | (exfalso; omega) | skip
      conv => whnf
      rw [show ((a + 1 + j : Nat) : Int) = (((tSz L).toNat : Nat) : Int) by omega]
      refine ⟨trivial, hn s J ?_ hF hX h25 h12⟩
      rw [show (tSz L).toNat - (a + 1) = j by omega]; exact hs
    | succ r ih =>
      intro j a s0 s J Q' hr hs hF hX h25 h12 hn
      have f := hX.f
      have ei : iad ((a + 1 + j : Nat) : Int) 1 = ((a + 1 + (j + 1) : Nat) : Int) := by rw [iad_e (by omega)]; omega
      have ha : 0 ≤ (a : Int) ∧ (a : Int) < tSz L := by omega
      have hb : 0 ≤ ((a + 1 + j : Nat) : Int) ∧ ((a + 1 + j : Nat) : Int) < tSz L := by omega
      have hab : (a : Int) ≠ ((a + 1 + j : Nat) : Int) := by omega
      have hn1 : prI (swK_ ln L m) (swV ln L m) a s0 (j + 1) = prS (swK_ ln L m) (swV ln L m) (a : Int) ((a + 1 + j : Nat) : Int) s := by rw [hs]; rfl
      have same : ∀ J2, (¬ (swK_ ln L m (a : Int) ((a + 1 + j : Nat) : Int) ∧ (s.1 = -2 ∨ swV ln L m (a : Int) ((a + 1 + j : Nat) : Int) < s.2))) → Fr [11, 12, 13, 20, 21, 22, 23, 24, 25] I J2 → CX ln L J2 → J2 25 = J 25 → J2 24 12 = J 24 12 → Ev d 70 50 [some (rf 24), some (nt m), some (nt s.1), some (nt (a : Int)), some (nt (iad ((a + 1 + j : Nat) : Int) 1))] [] J2 Q' := fun J2 hc hF2 hX2 e25 e12 => by
        rw [ei]
        exact ih (j + 1) a s0 s J2 Q' (by omega) (by rw [hn1, prS_f hc]) hF2 hX2 (by rw [e25]; exact h25) (by rw [e12]; exact h12) hn
      refine Ev.go [50] (T := T_70) rfl rfl ?_
      conv => whnf
      refine ⟨by omega, x35 ?_⟩
      rw [f.1]
      conv => whnf
      refine brI (fun z => ?_) (fun z => ?_)
      all_goals first | (exfalso; omega) | skip
      conv => whnf
      refine ⟨by omega, x71 (by omega) hX ha hb (fun z1 => ?_) (fun z1 => ?_)⟩ <;> conv => whnf
      · have hka : pP (tHo L (a : Int)) := (hO.t ha.1 (by omega)).2.1.resolve_left z1.2.2.2.1
        have hkb : pP (tHo L ((a + 1 + j : Nat) : Int)) := (hO.t hb.1 (by omega)).2.1.resolve_left z1.2.2.2.2
        refine ⟨by omega, x72 (by omega) hX ha hb hab hka hkb hm h25 (fun J2 rr hF2 hX2 e12 e13 hrr => ?_)⟩
        have hF3 : Fr [11, 12, 13, 20, 21, 22, 23, 24, 25] I J2 := hF.tr (hF2.sub (by decide))
        have e25 : J2 25 = J 25 := hF2 25 (by decide)
        rcases hrr with ⟨rfl, hG⟩ | ⟨rfl, hG⟩ <;> conv => whnf
        · have new : (s.1 = -2 ∨ swV ln L m (a : Int) ((a + 1 + j : Nat) : Int) < s.2) → Ev d 70 50 [some (rf 24), some (nt m), some (nt (iad (iml 20 (a : Int)) ((a + 1 + j : Nat) : Int))), some (nt (a : Int)), some (nt (iad ((a + 1 + j : Nat) : Int) 1))] [] (upd_ J2 24 12 (J2 24 13)) Q' := fun hc => by
            rw [ei, iml_e (by omega), iad_e (by omega)]
            exact ih (j + 1) a s0 (20 * (a : Int) + ((a + 1 + j : Nat) : Int), swV ln L m (a : Int) ((a + 1 + j : Nat) : Int)) _ Q' (by omega) (by rw [hn1, prS_t ⟨⟨z1, hG⟩, hc⟩]) (fr_up hF3 (by decide)) (hX2.fr (fun c hc => up_c (by omega))) (fun p hp => by rw [up_c (by decide), e25]; exact h25 p hp) (fun _ => by rw [up_eq]; exact e13) hn
          refine brI (fun z2 => ?_) (fun z2 => ?_) <;> conv => whnf
          · exact ⟨trivial, new (Or.inl z2)⟩
          · have h12' := h12 z2
            rw [e13, e12, h12']
            refine brI (fun z3 => ?_) (fun z3 => ?_) <;> conv => whnf
            · exact ⟨trivial, new (Or.inr z3)⟩
            · exact ⟨trivial, same J2 (fun w => w.2.elim z2 z3) hF3 hX2 e25 e12⟩
        · exact ⟨trivial, same J2 (fun w => hG w.1.2) hF3 hX2 e25 e12⟩
      · exact ⟨trivial, same J (fun w => z1 w.1.1) hF hX rfl rfl⟩
  have outer : ∀ (r a : Nat) (x : Option MV) (s : Int × Int) (J : ME), a + r = (tSz L).toNat → s = prO (swK_ ln L m) (swV ln L m) (tSz L).toNat a → Fr [11, 12, 13, 20, 21, 22, 23, 24, 25] I J → CX ln L J → (∀ p, pP p → J 25 p = smA ln L p m) → (s.1 ≠ -2 → J 24 12 = s.2) →
      Ev d 70 34 [some (rf 24), some (nt m), some (nt s.1), some (nt (a : Int)), x] [] J Q := by
    intro r
    induction r with
    | zero =>
      intro a x s J hr hs hF hX h25 h12
      have f := hX.f
      refine Ev.go [] (T := T_70) rfl rfl ?_
      conv => whnf
      refine ⟨by omega, x35 ?_⟩
      rw [f.1]
      conv => whnf
      refine brI (fun z => ?_) (fun z => ?_)
      all_goals first | (exfalso; omega) | skip
      conv => whnf
      have e : a = (tSz L).toNat := by omega
      rw [e] at hs
      subst hs
      exact ⟨trivial, h J hF hX⟩
    | succ r ih =>
      intro a x s J hr hs hF hX h25 h12
      have f := hX.f
      have ei : iad (a : Int) 1 = ((a + 1 + 0 : Nat) : Int) := by rw [iad_e (by omega)]; rfl
      refine Ev.go [34, 50] (T := T_70) rfl rfl ?_
      conv => whnf
      refine ⟨by omega, x35 ?_⟩
      rw [f.1]
      conv => whnf
      refine brI (fun z => ?_) (fun z => ?_)
      all_goals first | (exfalso; omega) | skip
      conv => whnf
      rw [ei]
      refine ⟨trivial, inner ((tSz L).toNat - (a + 1)) 0 a s s J Q (by omega) rfl hF hX h25 h12 (fun s2 J2 hs2 hF2 hX2 h25' h12' => ?_)⟩
      refine Ev.go [34] (T := T_70) rfl rfl ?_
      conv => whnf
      rw [ei]
      exact ⟨trivial, ih (a + 1) _ s2 J2 (by omega) (by rw [hs2, hs]; rfl) hF2 hX2 h25' h12'⟩
  have first : ∀ (r k : Nat) (x y : Option MV) (J : ME), k + r = 6 → Fr [11, 12, 13, 20, 21, 22, 23, 24, 25] I J → CX ln L J → (∀ p : Int, 0 ≤ p → p < k → J 25 p = smA ln L p m) → Ev d 70 2 [some (rf 24), some (nt m), some (nt (k : Int)), none, none] [] J Q := by
    intro r
    induction r with
    | zero =>
      intro k x y J hr hF hX h25
      refine Ev.go [34] (T := T_70) rfl rfl ?_
      conv => whnf
      refine brI (fun z => ?_) (fun z => ?_)
      all_goals first | (exfalso; omega) | skip
      conv => whnf
      exact ⟨trivial, outer _ 0 none (-2, 0) J (Nat.zero_add _) rfl hF hX (fun p hp => h25 p hp.1 (by have := hp.2; omega)) (fun z => absurd rfl z)⟩
    | succ r ih =>
      intro k x y J hr hF hX h25
      have hk : pP (k : Int) := by omega
      have ei : iad (k : Int) 1 = ((k + 1 : Nat) : Int) := by rw [iad_e (by omega)]; rfl
      refine Ev.go [2] (T := T_70) rfl rfl ?_
      conv => whnf
      refine brI (fun z => ?_) (fun z => ?_)
      all_goals first | (exfalso; omega) | skip
      conv => whnf
      refine ⟨by omega, x63 (by omega) hX hk hm12 (fun J2 hF2 hX2 => ?_)⟩
      conv => whnf
      refine anI (by omega) ?_
      conv => whnf
      rw [ei]
      refine ⟨trivial, ih (k + 1) none none _ (by omega) (fr_up (hF.tr (hF2.sub (by decide))) (by decide)) (hX2.fr (fun c hc => up_c (by omega))) (fun p p0 p1 => ?_)⟩
      rw [up_any]
      by_cases w : p = (k : Int)
      · rw [if_pos w, w]
      · rw [if_neg w, hF2 25 (by decide)]; exact h25 p p0 (by omega)
  refine EvM.go [2] (T := T_70) rfl rfl rfl rfl ?_
  conv => whnf
  exact ⟨trivial, first 6 0 none none I rfl Fr.rfl' hC (fun p p0 p1 => by exfalso; omega)⟩
