/-! THE FAIREST way: the class weighs shares -/
/-- the in-th ticket lies at its place -/
def nmT (L : LT) (J : ME) : Prop := ∀ u : Nat, isT L (u : Int) → J 28 ((rkT L u : Nat) : Int) = (u : Int)
theorem nmT_i {L : LT} {J : ME} (h : nmT L J) {i : Nat} (hi : i < mnT L) : ∃ u : Nat, isT L (u : Int) ∧ rkT L u = i ∧ J 28 (i : Int) = (u : Int) := by
  obtain ⟨u, a, b, c⟩ := rkT_ex (tSz L).toNat hi
  have hu : isT L (u : Int) := ⟨by omega, b⟩
  have := h u hu
  rw [c] at this
  exact ⟨u, hu, c, this⟩
theorem x76 {d : Nat} {ln : lz_L} {L : LT} {I : ME} {Q : Option MV → ME → Prop} (hd : 2 ≤ d) (hC : CX ln L I) (h6 : pI (tIn L) ≤ 6) (h : ∀ J, Fr [28] I J → nmT L J → Q (some (nt ((mnT L : Nat) : Int))) J) : EvM d 76 [rf 24] I Q := by
  have hO := hC.2.1
  have g := hO.f
  have hmn := mnT_pI hO
  have loop : ∀ (r i : Nat) (J : ME), i + r = (tSz L).toNat → Fr [28] I J → (∀ u : Nat, u < i → isT L (u : Int) → J 28 ((rkT L u : Nat) : Int) = (u : Int)) → Ev d 76 4 [some (rf 24), some (nt ((rkT L i : Nat) : Int)), some (nt (i : Int))] [] J Q := by
    intro r
    induction r with
    | zero =>
      intro i J hr hF hu
      have f := (hC.fr (J := J) (fun c hc => hF c (by simp; omega))).f
      refine Ev.go [] (T := T_76) rfl rfl ?_
      conv => whnf
      refine ⟨by omega, x35 ?_⟩
      rw [f.1]
      conv => whnf
      refine brI (fun z => by exfalso; omega) (fun z => ?_)
      conv => whnf
      have e : i = (tSz L).toNat := by omega
      subst e
      exact ⟨trivial, h J hF (fun u hiu => hu u (by have := hiu.1.2; omega) hiu)⟩
    | succ r ih =>
      intro i J hr hF hu
      have hX := hC.fr (J := J) (fun c hc => hF c (by simp; omega))
      have f := hX.f
      have ei : iad (i : Int) 1 = ((i + 1 : Nat) : Int) := by rw [iad_e (by omega)]; rfl
      have hle := rkT_m (L := L) (show i ≤ (tSz L).toNat by omega)
      refine Ev.go [4] (T := T_76) rfl rfl ?_
      conv => whnf
      refine ⟨by omega, x35 ?_⟩
      rw [f.1]
      conv => whnf
      refine brI (fun z => ?_) (fun z => by exfalso; omega)
      conv => whnf
      refine ⟨by omega, x37L (by omega) hX (fun z1 => ?_) (fun z1 => ?_)⟩ <;> conv => whnf
      · have hlt : rkT L i < mnT L := rkT_lt z1.2 (by omega)
        refine brI (fun z2 => ?_) (fun z2 => by exfalso; omega)
        conv => whnf
        refine anI (by omega) ?_
        conv => whnf
        rw [ei, show iad ((rkT L i : Nat) : Int) 1 = ((rkT L (i + 1) : Nat) : Int) by rw [rkT_s z1.2, iad_e (by omega)]; rfl]
        refine ⟨trivial, ih (i + 1) _ (by omega) (fr_up hF (by decide)) (fun u hlt2 hiu => ?_)⟩
        rw [up_any]
        by_cases w : u = i
        · rw [if_pos (by rw [w]), w]
        · have hlt3 : u < i := by omega
          have := rkT_lt hiu.2 hlt3
          rw [if_neg (by omega)]
          exact hu u hlt3 hiu
      · have hin : ¬ hasb (tIn L) (i : Int) := fun w => z1 ⟨by omega, w⟩
        rw [ei, ← rkT_n hin]
        refine ⟨trivial, ih (i + 1) J (by omega) hF (fun u hlt2 hiu => ?_)⟩
        by_cases w : u = i
        · rw [w] at hiu; exact absurd hiu.2 hin
        · exact hu u (by omega) hiu
  refine EvM.go [4] (T := T_76) rfl rfl rfl rfl ?_
  conv => whnf
  exact ⟨trivial, loop _ 0 I (Nat.zero_add _) Fr.rfl' (fun u hu => absurd hu (Nat.not_lt_zero _))⟩
/-- one holds a share, nobody the rest -/
noncomputable def shH (L : LT) (k s : Int) : gF := fun u => @ite _ (isT L u) (Classical.propDecidable _) (if hasb s ((rkT L u.toNat : Nat) : Int) then k else -1) (tHo L u)
theorem shH_t {L : LT} {k s u : Int} (h : isT L u) : shH L k s u = if hasb s ((rkT L u.toNat : Nat) : Int) then k else -1 := @if_pos _ (Classical.propDecidable _) h _ _ _
theorem shH_f {L : LT} {k s u : Int} (h : ¬ isT L u) : shH L k s u = tHo L u := @if_neg _ (Classical.propDecidable _) h _ _ _
noncomputable def shV (ln : lz_L) (L : LT) (m k s : Int) : Int := smA ln (Lsh L (shH L k s)) k m
theorem ix64 {k s : Int} (hk : 0 ≤ k ∧ k < 3) (hs : 0 ≤ s ∧ s < 64) : iro (isl k 6) s = 64 * k + s := by
  have h : k = 0 ∨ k = 1 ∨ k = 2 := by omega
  have e1 : isl 0 6 = 0 := by decide
  have e2 : isl 1 6 = 64 := by decide
  have e3 : isl 2 6 = 128 := by decide
  have es : ((s.toNat : Nat) : Int) = s := by omega
  rcases h with rfl | rfl | rfl
  · rw [e1]
    have := iro_nat (a := 0) (b := s.toNat) (by omega) (by omega)
    rw [Nat.zero_or, es] at this
    rw [show ((0 : Nat) : Int) = 0 from rfl] at this
    rw [this]; omega
  · rw [e2]
    have := iro_nat (a := 2 ^ 6) (b := s.toNat) (by omega) (by omega)
    have e := Nat.two_pow_add_eq_or_of_lt (i := 6) (b := s.toNat) (by omega) 1
    rw [Nat.mul_one] at e
    rw [← e, es] at this
    rw [show ((2 ^ 6 : Nat) : Int) = 64 from rfl] at this
    rw [this]
    omega
  · rw [e3]
    have := iro_nat (a := 2 ^ 7) (b := s.toNat) (by omega) (by omega)
    have e := Nat.two_pow_add_eq_or_of_lt (i := 7) (b := s.toNat) (by omega) 1
    rw [Nat.mul_one] at e
    rw [← e, es] at this
    rw [show ((2 ^ 7 : Nat) : Int) = 128 from rfl] at this
    rw [this]
    omega
def faC : List Nat := [4, 11, 12, 13, 20, 21, 22, 23, 29, 30]
theorem x77 {d : Nat} {ln : lz_L} {L : LT} {m : Int} {P : Nat} {I : ME} {Q : Option MV → ME → Prop} (hd : 8 ≤ d) (hC : CX ln L I) (hm : cdW L m) (hP : 0 < P) (hP3 : P ≤ 3) (h6 : pI (tIn L) ≤ 6) (hn : nmT L I)
    (h : ∀ J, Fr [11, 12, 13, 20, 21, 22, 23, 29, 30] I J → CX ln L J → (∀ s k : Int, 0 ≤ s → s < ((2 ^ mnT L : Nat) : Int) → 0 ≤ k → k < P → J 30 (64 * k + s) = shV ln L m k s) → Q none J) : EvM d 77 [rf 24, nt (P : Int), nt m, nt ((mnT L : Nat) : Int)] I Q := by
  have hO := hC.2.1
  have g := hO.f
  have hmn := mnT_pI hO
  have hpI := pI_bd (tIn L)
  have hm12 : 0 ≤ m ∧ m ≤ 12 := ⟨hm.1, by have := hm.2; omega⟩
  have hmn6 : mnT L ≤ 6 := by omega
  have h64 := p6 hmn6
  have e2 := isl_nat (k := mnT L) (by omega)
  -- the third walk: the holders come back
  have back : ∀ (r i : Nat) (x5 x6 : Option MV) (hh : gF) (J : ME), i + r = mnT L → hS L hh → Fr faC I J → CX ln (Lsh L hh) J → (∀ u : Nat, isT L (u : Int) → rkT L u < i → hh (u : Int) = tHo L (u : Int)) → (∀ u : Nat, isT L (u : Int) → J 29 ((rkT L u : Nat) : Int) = tHo L (u : Int)) → (∀ s k : Int, 0 ≤ s → s < ((2 ^ mnT L : Nat) : Int) → 0 ≤ k → k < P → J 30 (64 * k + s) = shV ln L m k s) →
      Ev d 77 140 [some (rf 24), some (nt (P : Int)), some (nt m), some (nt ((mnT L : Nat) : Int)), some (nt (i : Int)), x5, x6] [] J Q := by
    intro r
    induction r with
    | zero =>
      intro i x5 x6 hh J hr hs hF hX hu h29 h30
      refine Ev.go [] (T := T_77) rfl rfl ?_
      conv => whnf
      refine brI (fun z => by exfalso; omega) (fun z => ?_)
      conv => whnf
      have eh : hh = tHo L := by
        funext u
        by_cases w : isT L u
        · have := hu u.toNat (by rw [show ((u.toNat : Nat) : Int) = u by omega]; exact w) (by
            have := rkT_lt (L := L) (u := u.toNat) (v := (tSz L).toNat) (by rw [show ((u.toNat : Nat) : Int) = u by omega]; exact w.2) (by omega)
            have e3 : mnT L = rkT L (tSz L).toNat := rfl
            omega)
          rw [show ((u.toNat : Nat) : Int) = u by omega] at this
          exact this
        · exact hs.1 u w
      rw [eh, Lsh_id] at hX
      exact ⟨trivial, h J (Fr.back hF (by rw [hX.f.2.2.2.2.2.1, hC.f.2.2.2.2.2.1])) hX h30⟩
    | succ r ih =>
      intro i x5 x6 hh J hr hs hF hX hu h29 h30
      have ei : iad (i : Int) 1 = ((i + 1 : Nat) : Int) := by rw [iad_e (by omega)]; rfl
      obtain ⟨t, ht, hrk, e28⟩ := nmT_i hn (show i < mnT L by omega)
      have j28 : J 28 (i : Int) = (t : Int) := by rw [hF 28 (by decide)]; exact e28
      have j29 : J 29 (i : Int) = tHo L (t : Int) := by have := h29 t ht; rw [hrk] at this; exact this
      have hTt := (hO.t ht.1.1 (by have := ht.1.2; omega)).2.1
      refine Ev.go [140] (T := T_77) rfl rfl ?_
      conv => whnf
      refine brI (fun z => ?_) (fun z => by exfalso; omega)
      conv => whnf
      refine anI (by omega) ?_
      conv => whnf
      refine anI (by omega) ?_
      conv => whnf
      rw [j28, j29]
      refine ⟨by omega, x45L (by omega) hX ht.1 hTt (fun hX2 => ?_)⟩
      rw [Lsh_ho] at hX2
      conv => whnf
      rw [ei]
      refine ⟨trivial, ih (i + 1) _ _ (fu hh (t : Int) (tHo L (t : Int))) _ (by omega) (hS_fu hs ht hTt) (fr_up hF (by decide)) hX2 (fun u hiu hlt => ?_) (fun u hiu => by rw [up_c (by decide)]; exact h29 u hiu) (fun s k a b c e => by rw [up_c (by decide)]; exact h30 s k a b c e)⟩
      by_cases w : u = t
      · rw [w, fu_eq]
      · rw [fu_ne (by omega)]
        refine hu u hiu ?_
        have : rkT L u ≠ i := fun z => w (rkT_inj hiu.2 ht.2 (by omega))
        omega
  -- one share of one person
  have inner : ∀ (r i s k : Nat) (hh : gF) (J : ME) (Q' : Option MV → ME → Prop), i + r = mnT L → k < P → s < 2 ^ mnT L → hS L hh → Fr faC I J → CX ln (Lsh L hh) J → (∀ u : Nat, isT L (u : Int) → rkT L u < i → hh (u : Int) = shH L (k : Int) (s : Int) (u : Int)) →
      (∀ J2, Fr faC J J2 → J2 29 = J 29 → J2 30 = J 30 → CX ln (Lsh L (shH L (k : Int) (s : Int))) J2 → Ev d 77 102 [some (rf 24), some (nt (P : Int)), some (nt m), some (nt ((mnT L : Nat) : Int)), some (nt (s : Int)), some (nt (k : Int)), some (nt ((mnT L : Nat) : Int))] [] J2 Q') →
      Ev d 77 59 [some (rf 24), some (nt (P : Int)), some (nt m), some (nt ((mnT L : Nat) : Int)), some (nt (s : Int)), some (nt (k : Int)), some (nt (i : Int))] [] J Q' := by
    intro r
    induction r with
    | zero =>
      intro i s k hh J Q' hr hk hsl hs hF hX hu hq
      refine Ev.go [102] (T := T_77) rfl rfl ?_
      conv => whnf
      refine brI (fun z => by exfalso; omega) (fun z => ?_)
      conv => whnf
      have eh : hh = shH L (k : Int) (s : Int) := by
        funext u
        by_cases w : isT L u
        · have := hu u.toNat (by rw [show ((u.toNat : Nat) : Int) = u by omega]; exact w) (by
            have := rkT_lt (L := L) (u := u.toNat) (v := (tSz L).toNat) (by rw [show ((u.toNat : Nat) : Int) = u by omega]; exact w.2) (by omega)
            have e3 : mnT L = rkT L (tSz L).toNat := rfl
            omega)
          rw [show ((u.toNat : Nat) : Int) = u by omega] at this
          exact this
        · rw [shH_f w]; exact hs.1 u w
      rw [eh] at hX
      have e : i = mnT L := by omega
      rw [e]
      exact ⟨trivial, hq J Fr.rfl' rfl rfl hX⟩
    | succ r ih =>
      intro i s k hh J Q' hr hk hsl hs hF hX hu hq
      have ei : iad (i : Int) 1 = ((i + 1 : Nat) : Int) := by rw [iad_e (by omega)]; rfl
      obtain ⟨t, ht, hrk, e28⟩ := nmT_i hn (show i < mnT L by omega)
      have j28 : J 28 (i : Int) = (t : Int) := by rw [hF 28 (by decide)]; exact e28
      have nx : ∀ kk : Int, kk = (if hasb (s : Int) (i : Int) then (k : Int) else -1) → Ev d 77 93 [some (rf 24), some (nt (P : Int)), some (nt m), some (nt ((mnT L : Nat) : Int)), some (nt (s : Int)), some (nt (k : Int)), some (nt (i : Int))] [nt kk, nt (t : Int), rf 1] J Q' := by
        intro kk hkk
        have hpH : pH kk := by
          rw [hkk]
          by_cases w : hasb (s : Int) (i : Int)
          · rw [if_pos w]; exact Or.inr ⟨by omega, by omega⟩
          · rw [if_neg w]; exact Or.inl rfl
        refine Ev.go [59] (T := T_77) rfl rfl ?_
        conv => whnf
        refine ⟨by omega, x45L (by omega) hX ht.1 hpH (fun hX2 => ?_)⟩
        rw [Lsh_ho] at hX2
        conv => whnf
        rw [ei]
        refine ⟨trivial, ih (i + 1) s k (fu hh (t : Int) kk) _ Q' (by omega) hk hsl (hS_fu hs ht hpH) (fr_up hF (by decide)) hX2 (fun u hiu hlt => ?_) (fun J2 hF2 a b hX3 => ?_)⟩
        · by_cases w : u = t
          · rw [w, fu_eq, shH_t ht, Int.toNat_natCast, hrk]; exact hkk
          · rw [fu_ne (by omega)]
            refine hu u hiu ?_
            have : rkT L u ≠ i := fun z => w (rkT_inj hiu.2 ht.2 (by omega))
            omega
        · exact hq J2 ((fr_up Fr.rfl' (by decide)).tr hF2) (a.trans (up_c (by decide))) (b.trans (up_c (by decide))) hX3
      refine Ev.go [93] (T := T_77) rfl rfl ?_
      conv => whnf
      refine brI (fun z => ?_) (fun z => by exfalso; omega)
      conv => whnf
      refine anI (by omega) ?_
      conv => whnf
      rw [j28]
      refine brI (fun z2 => ?_) (fun z2 => ?_) <;> conv => whnf
      · exact ⟨trivial, nx _ (by rw [if_pos z2])⟩
      · exact ⟨trivial, nx _ (by rw [if_neg z2])⟩
  -- all persons of a share
  have mid : ∀ (r k s : Nat) (x6 : Option MV) (hh : gF) (J : ME) (Q' : Option MV → ME → Prop), k + r = P → s < 2 ^ mnT L → hS L hh → Fr faC I J → CX ln (Lsh L hh) J → (∀ u : Nat, isT L (u : Int) → J 29 ((rkT L u : Nat) : Int) = tHo L (u : Int)) → (∀ s' k' : Int, 0 ≤ s' → s' < ((2 ^ mnT L : Nat) : Int) → 0 ≤ k' → k' < P → (s' < s ∨ s' = s ∧ k' < k) → J 30 (64 * k' + s') = shV ln L m k' s') →
      (∀ (x6 : Option MV) (hh : gF) (J2 : ME), hS L hh → Fr faC I J2 → CX ln (Lsh L hh) J2 → (∀ u : Nat, isT L (u : Int) → J2 29 ((rkT L u : Nat) : Int) = tHo L (u : Int)) → (∀ s' k' : Int, 0 ≤ s' → s' < ((2 ^ mnT L : Nat) : Int) → 0 ≤ k' → k' < P → s' < ((s + 1 : Nat) : Int) → J2 30 (64 * k' + s') = shV ln L m k' s') → Ev d 77 131 [some (rf 24), some (nt (P : Int)), some (nt m), some (nt ((mnT L : Nat) : Int)), some (nt (s : Int)), some (nt (P : Int)), x6] [] J2 Q') →
      Ev d 77 50 [some (rf 24), some (nt (P : Int)), some (nt m), some (nt ((mnT L : Nat) : Int)), some (nt (s : Int)), some (nt (k : Int)), x6] [] J Q' := by
    intro r
    induction r with
    | zero =>
      intro k s x6 hh J Q' hr hsl hs hF hX h29 h30 hq
      refine Ev.go [131] (T := T_77) rfl rfl ?_
      conv => whnf
      refine brI (fun z => by exfalso; omega) (fun z => ?_)
      conv => whnf
      have e : k = P := by omega
      rw [e]
      exact ⟨trivial, hq x6 hh J hs hF hX h29 (fun s' k' a b c e f => h30 s' k' a b c e (by omega))⟩
    | succ r ih =>
      intro k s x6 hh J Q' hr hsl hs hF hX h29 h30 hq
      have ek : iad (k : Int) 1 = ((k + 1 : Nat) : Int) := by rw [iad_e (by omega)]; rfl
      have hkp : pP (k : Int) := by omega
      refine Ev.go [59] (T := T_77) rfl rfl ?_
      conv => whnf
      refine brI (fun z => ?_) (fun z => by exfalso; omega)
      conv => whnf
      refine ⟨trivial, inner (mnT L) 0 s k hh J Q' (Nat.zero_add _) (by omega) hsl hs hF hX (fun u _ hu => absurd hu (Nat.not_lt_zero _)) (fun J2 hF2 a29 a30 hX2 => ?_)⟩
      refine Ev.go [50] (T := T_77) rfl rfl ?_
      conv => whnf
      rw [ix64 (by omega) (by omega)]
      refine ⟨by omega, x63 (by omega) hX2 hkp hm12 (fun J3 hF3 hX3 => ?_)⟩
      conv => whnf
      refine anI (by omega) ?_
      conv => whnf
      rw [ek]
      refine ⟨trivial, ih (k + 1) s _ (shH L (k : Int) (s : Int)) _ Q' (by omega) hsl ?_ (fr_up ((hF.tr hF2).tr (hF3.sub (by decide))) (by decide)) (hX3.fr (fun c hc => up_c (by omega))) (fun u hiu => ?_) (fun s' k' a b c e f => ?_) hq⟩
      · refine ⟨fun u hu => shH_f hu, fun u hu => ?_⟩
        rw [shH_t hu]
        split
        · exact Or.inr hkp
        · exact Or.inl rfl
      · rw [up_c (by decide), hF3 29 (by decide), a29]; exact h29 u hiu
      · rw [up_any]
        by_cases w : 64 * k' + s' = 64 * (k : Int) + (s : Int)
        · have hk' : k' = (k : Int) := by omega
          have hs' : s' = (s : Int) := by omega
          rw [if_pos w, hk', hs']
          rfl
        · rw [if_neg w, hF3 30 (by decide), a30]
          refine h30 s' k' a b c e ?_
          by_cases w2 : s' = (s : Int)
          · have : k' ≠ (k : Int) := fun z => w (by rw [z, w2])
            omega
          · omega
  have shares : ∀ (r s : Nat) (x5 x6 : Option MV) (hh : gF) (J : ME), s + r = 2 ^ mnT L → hS L hh → Fr faC I J → CX ln (Lsh L hh) J → (∀ u : Nat, isT L (u : Int) → J 29 ((rkT L u : Nat) : Int) = tHo L (u : Int)) → (∀ s' k' : Int, 0 ≤ s' → s' < ((2 ^ mnT L : Nat) : Int) → 0 ≤ k' → k' < P → s' < s → J 30 (64 * k' + s') = shV ln L m k' s') →
      Ev d 77 39 [some (rf 24), some (nt (P : Int)), some (nt m), some (nt ((mnT L : Nat) : Int)), some (nt (s : Int)), x5, x6] [] J Q := by
    intro r
    induction r with
    | zero =>
      intro s x5 x6 hh J hr hs hF hX h29 h30
      refine Ev.go [140] (T := T_77) rfl rfl ?_
      conv => whnf
      rw [e2]
      refine brI (fun z => by exfalso; omega) (fun z => ?_)
      conv => whnf
      exact ⟨trivial, back _ 0 _ _ hh J (Nat.zero_add _) hs hF hX (fun u _ hu => absurd hu (Nat.not_lt_zero _)) h29 (fun s' k' a b c e => h30 s' k' a b c e (by omega))⟩
    | succ r ih =>
      intro s x5 x6 hh J hr hs hF hX h29 h30
      have es : iad (s : Int) 1 = ((s + 1 : Nat) : Int) := by rw [iad_e (by omega)]; rfl
      refine Ev.go [50] (T := T_77) rfl rfl ?_
      conv => whnf
      rw [e2]
      refine brI (fun z => ?_) (fun z => by exfalso; omega)
      conv => whnf
      refine ⟨trivial, mid P 0 s _ hh J Q (Nat.zero_add _) (by omega) hs hF hX h29 (fun s' k' a b c e f => h30 s' k' a b c e (by omega)) (fun y6 hh2 J2 hs2 hF2 hX2 h29' h30' => ?_)⟩
      refine Ev.go [39] (T := T_77) rfl rfl ?_
      conv => whnf
      rw [es]
      exact ⟨trivial, ih (s + 1) _ _ hh2 J2 (by omega) hs2 hF2 hX2 h29' h30'⟩
  have keep : ∀ (r i : Nat) (x5 x6 : Option MV) (J : ME), i + r = mnT L → Fr faC I J → J 4 = I 4 → CX ln L J → (∀ u : Nat, isT L (u : Int) → rkT L u < i → J 29 ((rkT L u : Nat) : Int) = tHo L (u : Int)) →
      Ev d 77 3 [some (rf 24), some (nt (P : Int)), some (nt m), some (nt ((mnT L : Nat) : Int)), some (nt (i : Int)), none, none] [] J Q := by
    intro r
    induction r with
    | zero =>
      intro i x5 x6 J hr hF h4 hX h29
      refine Ev.go [39] (T := T_77) rfl rfl ?_
      conv => whnf
      refine brI (fun z => by exfalso; omega) (fun z => ?_)
      conv => whnf
      refine ⟨trivial, shares _ 0 none none (tHo L) J (Nat.zero_add _) (hS_id hO) hF hX (fun u hiu => h29 u hiu ?_) (fun s' k' a b c e f => by exfalso; omega)⟩
      have := rkT_lt (L := L) (u := u) (v := (tSz L).toNat) hiu.2 (by have := hiu.1.2; omega)
      have e3 : mnT L = rkT L (tSz L).toNat := rfl
      omega
    | succ r ih =>
      intro i x5 x6 J hr hF h4 hX h29
      have ei : iad (i : Int) 1 = ((i + 1 : Nat) : Int) := by rw [iad_e (by omega)]; rfl
      obtain ⟨t, ht, hrk, e28⟩ := nmT_i hn (show i < mnT L by omega)
      have j28 : J 28 (i : Int) = (t : Int) := by rw [hF 28 (by decide)]; exact e28
      refine Ev.go [3] (T := T_77) rfl rfl ?_
      conv => whnf
      refine brI (fun z => ?_) (fun z => by exfalso; omega)
      conv => whnf
      refine anI (by omega) ?_
      conv => whnf
      rw [j28]
      refine ⟨by omega, x44L (by omega) hX ht.1 ?_⟩
      conv => whnf
      refine anI (by omega) ?_
      conv => whnf
      rw [ei]
      refine ⟨trivial, ih (i + 1) none none _ (by omega) (fr_up hF (by decide)) (by rw [up_c (by decide)]; exact h4) (hX.fr (fun c hc => up_c (by omega))) (fun u hiu hlt => ?_)⟩
      rw [up_any]
      by_cases w : u = t
      · rw [if_pos (by rw [w, hrk]), w]
      · have : rkT L u ≠ i := fun z => w (rkT_inj hiu.2 ht.2 (by omega))
        rw [if_neg (by omega)]
        exact h29 u hiu (by omega)
  refine EvM.go [3] (T := T_77) rfl rfl rfl rfl ?_
  conv => whnf
  exact ⟨trivial, keep _ 0 none none I (Nat.zero_add _) Fr.rfl' rfl hC (fun u _ hu => absurd hu (Nat.not_lt_zero _))⟩
