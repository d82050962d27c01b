/-! A DRAW in deed -/
noncomputable def dwT (L : LT) (seed : Int) : Int := pkF (tIn L) (nxz seed)
noncomputable def dwQ (ln : lz_L) (L : LT) (seed : Int) : Int → Int × Int := nxP ln L (tIn L) (tDr L) (dwT L seed) (fun p => (tLo L p, 0))
theorem dwT_ok {L : LT} (hL : LTok L) {seed : Int} (h : 0 < pI (tIn L)) : (0 ≤ dwT L seed ∧ dwT L seed < tSz L) ∧ hasb (tIn L) (dwT L seed) := by
  have g := hL.f
  have := pkF_ok (z := nxz seed) g.2.1.1 g.2.1.2 h
  refine ⟨⟨this.2.1, ?_⟩, this.1⟩
  exact Int.not_le.mp (fun w => hL.top w this.2.2 this.1)
theorem dwQ_bd {ln : lz_L} {L : LT} (hL : LTok L) {seed : Int} (h : 0 < pI (tIn L)) : pBd (dwQ ln L seed) 99 := by
  have g := hL.f
  have ht := dwT_ok hL (seed := seed) h
  have := nxP_bd (ln := ln) (s := tIn L) (d := tDr L) hL ht.1.1 (by omega) (pB0 hL)
  rw [show (0 : Int) + 99 = 99 from rfl] at this
  exact this
def dfL : List Nat := [1, 6, 11, 12, 13, 16, 17, 18, 19, 35]
theorem x19 {d : Nat} {ln : lz_L} {L : LT} {seed : Int} {I : ME} {Q : Option MV → ME → Prop} (hd : 7 ≤ d) (hC : CX ln L I) (hp : 0 < pI (tIn L))
    (h : ∀ J, Fr dfL I J → (∀ j, j ≠ 6 → j ≠ 7 → J 1 j = I 1 j) → J 1 6 = sdT (tIn L) (dwT L seed) → J 1 7 = tDr L + 1 → (∀ p, pP p → J 6 p = (dwQ ln L seed p).1 ∧ J 35 (3 + p) = iad (I 35 (3 + p)) (dwQ ln L seed p).2) → J 35 0 = iad (I 35 0) 1 → J 35 1 = I 35 1 → J 35 2 = I 35 2 → cK ln (I 2) (I 7 9 + I 1 8) (J 13) → Q (some (nt (dwT L seed))) J) : EvM d 19 [rf 34, nt seed] I Q := by
  have hO := hC.2.1
  have g := hO.f
  have ht := dwT_ok hO (seed := seed) hp
  have hq := dwQ_bd (ln := ln) hO (seed := seed) hp
  have loop : ∀ (r k : Nat) (J : ME), k + r = 6 → Fr dfL I J → (∀ j, j ≠ 6 → j ≠ 7 → J 1 j = I 1 j) → J 1 6 = sdT (tIn L) (dwT L seed) → J 1 7 = tDr L + 1 → (∀ p, pP p → J 17 p = (dwQ ln L seed p).1 ∧ J 19 p = (dwQ ln L seed p).2) → (∀ p : Int, 0 ≤ p → p < k → J 6 p = (dwQ ln L seed p).1 ∧ J 35 (3 + p) = iad (I 35 (3 + p)) (dwQ ln L seed p).2) → (∀ p : Int, k ≤ p → p < 6 → J 35 (3 + p) = I 35 (3 + p)) → J 35 0 = iad (I 35 0) 1 → J 35 1 = I 35 1 → J 35 2 = I 35 2 → cK ln (I 2) (I 7 9 + I 1 8) (J 13) →
      Ev d 19 81 [some (rf 34), some (nt seed), some (nt (dwT L seed)), some (nt (k : Int))] [] J Q := by
    intro r
    induction r with
    | zero =>
      intro k J hr hF h1 h16 h17 hth hdone hrest h0 ha hb hK
      refine Ev.go [] (T := T_19) rfl rfl ?_
      conv => whnf
      refine brI (fun z => ?_) (fun z => ?_)
      all_goals first | (exfalso; omega) | skip
      conv => whnf
      exact ⟨trivial, h J hF h1 h16 h17 (fun p hp => hdone p hp.1 (by have := hp.2; omega)) h0 ha hb hK⟩
    | succ r ih =>
      intro k J hr hF h1 h16 h17 hth hdone hrest h0 ha hb hK
      have hk : pP (k : Int) := by omega
      have ei : iad (k : Int) 1 = ((k + 1 : Nat) : Int) := by rw [iad_e (by omega)]; rfl
      refine Ev.go [81] (T := T_19) rfl rfl ?_
      conv => whnf
      refine brI (fun z => ?_) (fun z => ?_)
      all_goals first | (exfalso; omega) | skip
      conv => whnf
      refine anI (by omega) ?_
      conv => whnf
      refine anI (by omega) ?_
      conv => whnf
      rw [iad_e (a := 3) (by omega)]
      refine anI (by omega) ?_
      conv => whnf
      refine ⟨by omega, x118 hk ?_ (by omega)⟩
      conv => whnf
      refine anI (by omega) ?_
      conv => whnf
      rw [show upd_ J 6 (k : Int) (J 17 (k : Int)) 35 = J 35 from up_c (by decide), show upd_ J 6 (k : Int) (J 17 (k : Int)) 19 = J 19 from up_c (by decide), (hth _ hk).1, (hth _ hk).2, hrest _ (Int.le_refl _) (by omega), ei]
      refine ⟨trivial, ih (k + 1) _ (by omega) (fr_up (fr_up hF (by decide)) (by decide)) ?_ ?_ ?_ (fun p q => ?_) (fun p p0 p1 => ?_) (fun p p0 p1 => ?_) ?_ ?_ ?_ ?_⟩
      · intro j a b; rw [up_c (by decide), up_c (by decide)]; exact h1 j a b
      · rw [up_c (by decide), up_c (by decide)]; exact h16
      · rw [up_c (by decide), up_c (by decide)]; exact h17
      · simp (disch := decide) only [up_c]; exact hth p q
      · rw [show ∀ w : Int, upd_ (upd_ J 6 (k : Int) (dwQ ln L seed (k : Int)).1) 35 (3 + (k : Int)) w 6 = upd_ J 6 (k : Int) (dwQ ln L seed (k : Int)).1 6 from fun w => up_c (by decide), up_any, up_any, up_c (by decide)]
        by_cases w : p = (k : Int)
        · rw [if_pos w, if_pos (by omega), w]; exact ⟨rfl, rfl⟩
        · rw [if_neg w, if_neg (by omega)]; exact hdone p p0 (by omega)
      · rw [up_ne (by omega), up_c (by decide)]; exact hrest p (by omega) p1
      · rw [up_ne (by omega), up_c (by decide)]; exact h0
      · rw [up_ne (by omega), up_c (by decide)]; exact ha
      · rw [up_ne (by omega), up_c (by decide)]; exact hb
      · rw [up_c (by decide), up_c (by decide)]; exact hK
  refine EvM.go [81] (T := T_19) rfl rfl rfl rfl ?_
  conv => whnf
  refine ⟨by omega, x117T (by omega) hC (fun J1 hF1 hT1 => ?_)⟩
  conv => whnf
  refine ⟨by omega, x186 ?_⟩
  conv => whnf
  refine ⟨by omega, x128 (by omega) hT1.2.1 g.2.1.1 g.2.1.2 hp ?_⟩
  conv => whnf
  rw [show pkF (tIn L) (nxz seed) = dwT L seed from rfl]
  refine ⟨by omega, x37L (by omega) hT1.1 (fun _ => ?_) (fun w => absurd ht w)⟩
  conv => whnf
  refine ⟨by omega, x121 (by omega) hT1 (suB.self hO) (pB0 hO) (by omega) (by omega) ht.1 ht.2 (fun J2 hF2 hT2 => ?_)⟩
  conv => whnf
  have hF3 : Fr [11, 12, 13, 16, 17, 18, 19] I J2 := (hF1.sub (by decide)).tr hF2
  have f2 := hT2.1.f
  refine anI (by omega) ?_
  conv => whnf
  refine anI (by omega) ?_
  conv => whnf
  have e35 : J2 35 = I 35 := hF3 35 (by decide)
  have e1 : J2 1 = I 1 := hF3 1 (by decide)
  refine ⟨trivial, loop 6 0 _ rfl (fr_up (fr_up (fr_up (hF3.sub (by decide)) (by decide)) (by decide)) (by decide)) ?_ ?_ ?_ (fun p q => ?_) (fun p p0 p1 => by exfalso; omega) (fun p p0 p1 => ?_) ?_ ?_ ?_ ?_⟩
  · intro j a b; rw [up_c (by decide), up_ne b, up_ne a, e1]
  · rw [up_c (by decide), up_ne (by decide), up_eq]; exact hT2.2.1
  · rw [up_c (by decide), up_eq, up_c (by decide)]; exact hT2.2.2.1
  · simp (disch := decide) only [up_c]
    have := (hT2.2.2.2 p q).1
    unfold dwQ
    rw [← this]
    exact ⟨rfl, rfl⟩
  · rw [up_ne (by omega), up_c (by decide), up_c (by decide), e35]
  · rw [up_eq]; simp (disch := decide) only [up_c]; rw [e35]
  · rw [up_ne (by omega), up_c (by decide), up_c (by decide), e35]
  · rw [up_ne (by omega), up_c (by decide), up_c (by decide), e35]
  · simp (disch := decide) only [up_c]
    have := hT2.1.2.2.2.2
    rw [hF3 2 (by decide), hF3 7 (by decide), e1] at this
    exact this
def dfM : List Nat := [53, 58, 61, 62, 63, 64, 69]
theorem m267 {d : Nat} {ln : lz_L} {L : LT} {seed : Int} {I : ME} {Q : Option MV → ME → Prop} (hd : 66 ≤ d) (hC : MX ln L I) (hp : 0 < pI (tIn L))
    (h : ∀ J, Fr dfM I J → (∀ j, j < 14 ∨ 31 < j → j ≠ 7 → j ≠ 8 → j ≠ 32 → J 53 j = I 53 j) → J 53 7 = sdT (tIn L) (dwT L seed) → J 53 8 = tDr L + 1 → J 53 32 = iad (I 53 32) 1 → (∀ p, pP p → J 58 p = (dwQ ln L seed p).1 ∧ J 69 p = iad (I 69 p) (dwQ ln L seed p).2) → Q (some (nt (dwT L seed))) J) : EvM d 267 [rf 53, nt seed] I Q := by
  have hO := hC.1
  have g := hO.f
  have f := hC.f
  have ht := dwT_ok hO (seed := seed) hp
  have hne : tIn L ≠ 0 := fun w => by rw [w, pI_0] at hp; omega
  have loop : ∀ (r k : Nat) (J : ME), k + r = 6 → Fr dfM I J → (∀ j, j < 14 ∨ 31 < j → j ≠ 7 → j ≠ 8 → J 53 j = I 53 j) → J 53 7 = sdT (tIn L) (dwT L seed) → J 53 8 = tDr L + 1 → (∀ p, pP p → J 62 p = (dwQ ln L seed p).1 ∧ J 63 p = (dwQ ln L seed p).2) → (∀ p : Int, 0 ≤ p → p < k → J 58 p = (dwQ ln L seed p).1 ∧ J 69 p = iad (I 69 p) (dwQ ln L seed p).2) → (∀ p : Int, k ≤ p → p < 6 → J 69 p = I 69 p) →
      Ev d 267 49 [some (rf 53), some (nt seed), some (nt (dwT L seed)), some (nt (k : Int))] [] J Q := by
    intro r
    induction r with
    | zero =>
      intro k J hr hF h1 h7 h8 hth hdone hrest
      refine Ev.go [] (T := T_267) rfl rfl ?_
      conv => whnf
      refine brI (fun z => ?_) (fun z => ?_)
      all_goals first | (exfalso; omega) | skip
      conv => whnf
      refine ⟨trivial, h _ (fr_up hF (by decide)) (fun j a b c e => ?_) ?_ ?_ ?_ (fun p hp => ?_)⟩
      · rw [up_ne e]; exact h1 j a b c
      · rw [up_ne (by decide)]; exact h7
      · rw [up_ne (by decide)]; exact h8
      · rw [up_eq, h1 32 (by omega) (by decide) (by decide)]
      · rw [up_c (by decide), up_c (by decide)]; exact hdone p hp.1 (by have := hp.2; omega)
    | succ r ih =>
      intro k J hr hF h1 h7 h8 hth hdone hrest
      have hk : pP (k : Int) := by omega
      have ei : iad (k : Int) 1 = ((k + 1 : Nat) : Int) := by rw [iad_e (by omega)]; rfl
      refine Ev.go [49] (T := T_267) rfl rfl ?_
      conv => whnf
      refine brI (fun z => ?_) (fun z => ?_)
      all_goals first | (exfalso; omega) | skip
      conv => whnf
      iterate 5
        refine anI (by omega) ?_
        conv => whnf
      rw [show upd_ J 58 (k : Int) (J 62 (k : Int)) 69 = J 69 from up_c (by decide), show upd_ J 58 (k : Int) (J 62 (k : Int)) 63 = J 63 from up_c (by decide), (hth _ hk).1, (hth _ hk).2, hrest _ (Int.le_refl _) (by omega), ei]
      refine ⟨trivial, ih (k + 1) _ (by omega) (fr_up (fr_up hF (by decide)) (by decide)) ?_ ?_ ?_ (fun p q => ?_) (fun p p0 p1 => ?_) (fun p p0 p1 => ?_)⟩
      · intro j a b c; rw [up_c (by decide), up_c (by decide)]; exact h1 j a b c
      · rw [up_c (by decide), up_c (by decide)]; exact h7
      · rw [up_c (by decide), up_c (by decide)]; exact h8
      · simp (disch := decide) only [up_c]; exact hth p q
      · rw [show ∀ w : Int, upd_ (upd_ J 58 (k : Int) (dwQ ln L seed (k : Int)).1) 69 (k : Int) w 58 = upd_ J 58 (k : Int) (dwQ ln L seed (k : Int)).1 58 from fun w => up_c (by decide), up_any, up_any, up_c (by decide)]
        by_cases w : p = (k : Int)
        · rw [if_pos w, if_pos w, w]; exact ⟨rfl, rfl⟩
        · rw [if_neg w, if_neg w]; exact hdone p p0 (by omega)
      · rw [up_ne (by omega), up_c (by decide)]; exact hrest p (by omega) p1
  refine EvM.go [49] (T := T_267) rfl rfl rfl rfl ?_
  conv => whnf
  rw [f.2.1]
  refine brI (fun z => absurd z hne) (fun z => ?_)
  conv => whnf
  refine ⟨by omega, m222T hC (fun J1 hF1 hT1 => ?_)⟩
  conv => whnf
  have hz : zF J1 (upd_ J1 53 31 seed) := ⟨fun j hj => up_ne hj, fr_up Fr.rfl' (by decide)⟩
  have hT1' := hT1.z hz
  refine ⟨by omega, m265 (by omega) hT1'.2.1 g.2.1.1 g.2.1.2 hp (fun J2 hF2 hz2 => ?_)⟩
  rw [up_eq, show pkF (tIn L) (nxz seed) = dwT L seed from rfl]
  conv => whnf
  refine ⟨by omega, m260 (by omega) (hT1'.z hF2) (suB.self hO) (pB0 hO) (by omega) (by omega) (fun _ J3 hF3 hT3 => ?_) (fun w => absurd ht w)⟩
  conv => whnf
  have hF : mF I J3 := ((hF1.mF.tr hz.mF).tr hF2.mF).tr hF3.mF
  have hD : Fr [53, 61, 62, 63, 64] I J3 := (((hF1.2.tr (hz.2.sub (by decide))).tr (hF2.2.sub (by decide))).tr hF3.2)
  refine ⟨trivial, loop 6 0 _ rfl (fr_up (fr_up (hD.sub (by decide)) (by decide)) (by decide)) ?_ ?_ ?_ (fun p q => ?_) (fun p p0 p1 => by exfalso; omega) (fun p p0 p1 => ?_)⟩
  · intro j a b c; rw [up_ne c, up_ne b]; exact hF.1 j a
  · rw [up_ne (by decide), up_eq]; exact hT3.2.1
  · rw [up_eq, up_ne (by decide)]; exact hT3.2.2.1
  · simp (disch := decide) only [up_c]
    have := hT3.2.2.2 p q
    unfold dwQ
    rw [← this]
    exact ⟨rfl, rfl⟩
  · rw [up_c (by decide), up_c (by decide), hD 69 (by decide)]
theorem op26 {seed : Int} : Op3 156 267 [nt seed] nt := by
  intro c I hc0 hc h h27
  have hf := h.f
  obtain ⟨ln0, hX0, hM0, hB0⟩ := h.th hc
  have hI := hB0 I I Fr.rfl' hX0 mF.rfl'
  obtain ⟨ln, hC, hM⟩ := h
  obtain ⟨a, b, g, d, f, r, l, u, v⟩ := hC
  obtain ⟨a', b', g', d', f', r', l'⟩ := hM
  have hO : LTok (ltC I) := a
  have hX : CX ln (ltC I) I := ⟨rfl, hO, l, ⟨u.1, u.2.1, by omega⟩, v⟩
  have hMX : MX ln (ltC I) I := ⟨hO, a', l'⟩
  have e6 : tIn (ltC I) = I 1 6 := rfl
  have e7 : tDr (ltC I) = I 1 7 := rfl
  have e5 : tSz (ltC I) = I 1 5 := rfl
  have hpI := pI_bd (I 1 6)
  refine EvM.go [] (T := T_156) rfl rfl rfl rfl ?_
  conv => whnf
  refine ⟨by omega, x39 (by omega) (by omega) (by omega) ?_⟩
  conv => whnf
  refine brI (fun z => ?_) (fun z => ?_) <;> conv => whnf
  · have hz : I 53 7 = 0 := by rw [hf.2.2.2.1.2.1]; exact (pI_nz hf.2.1.1 hf.2.1.2).mpr z
    refine ⟨trivial, _, rfl, ?_⟩
    refine EvM.go [] (T := T_267) rfl rfl rfl rfl ?_
    conv => whnf
    rw [hz]
    conv => whnf
    exact ⟨trivial, rfl, hI, rfl, h27⟩
  · have hp : 0 < pI (tIn (ltC I)) := by rw [e6]; omega
    refine ⟨by omega, x19 (by omega) hX hp (fun J hF h1 h16 h17 hpp h350 h351 h352 hK => ?_)⟩
    conv => whnf
    refine ⟨trivial, _, rfl, ?_⟩
    have hMJ : MX ln (ltC I) J := hMX.keep (by rw [hF 53 (by decide)]) (by rw [hF 53 (by decide)]) (by rw [hF 53 (by decide)]) (by rw [hF 53 (by decide)]) (hF 54 (by decide)) (hF 58 (by decide)) (hF 60 (by decide))
    have ht := dwT_ok hO (seed := seed) hp
    have hq := dwQ_bd (ln := ln) hO (seed := seed) hp
    have sb := sdT_b (s := I 1 6) (t := dwT (ltC I) seed) hf.2.1.1 hf.2.1.2 ht.1.1 (by omega)
    have hpp2 : pI (I 1 6) = pI (sdT (I 1 6) (dwT (ltC I) seed)) + 1 := sdT_pI hf.2.1.1 hf.2.1.2 ht.1.1 (by omega) ht.2
    rw [e6] at h16
    rw [e7] at h17
    refine m267 (by omega) hMJ hp (fun J2 hF2 m1 m7 m8 m32 mpp => ⟨rfl, ⟨ln, ?_, ?_⟩, ?_, ?_⟩)
    · have e : ∀ c, c ∉ dfL → c ∉ dfM → J2 c = I c := fun c a b => (hF2 c b).trans (hF c a)
      have k1 : J2 1 = J 1 := hF2 1 (by decide)
      have k6 : J2 6 = J 6 := hF2 6 (by decide)
      have k13 : J2 13 = J 13 := hF2 13 (by decide)
      unfold CI
      rw [k1, k6, k13, h1 5 (by decide) (by decide), h16, h17, h1 8 (by decide) (by decide), e 2 (by decide) (by decide), e 3 (by decide) (by decide), e 4 (by decide) (by decide), e 5 (by decide) (by decide), e 7 (by decide) (by decide), e 8 (by decide) (by decide), e 9 (by decide) (by decide), e 10 (by decide) (by decide),
        e 14 (by decide) (by decide), e 15 (by decide) (by decide), e 39 (by decide) (by decide), e 40 (by decide) (by decide), e 41 (by decide) (by decide), e 42 (by decide) (by decide), e 43 (by decide) (by decide), e 34 (by decide) (by decide), e 36 (by decide) (by decide), e 37 (by decide) (by decide),
        e 44 (by decide) (by decide), e 45 (by decide) (by decide), e 48 (by decide) (by decide), e 49 (by decide) (by decide), e 50 (by decide) (by decide), e 51 (by decide) (by decide)]
      obtain ⟨a1, a2, a3, a4, a5, a6⟩ := a
      refine ⟨⟨a1, ⟨sb.1.1, by omega, fun t t0 t1 w => a2.2.2 t t0 t1 ((sb.2 t (by omega) (by omega)).mp w).1⟩, ⟨by omega, by omega⟩, a4, a5, fun p hp => ?_⟩, b, g, d, f, r, l, ⟨u.1, u.2.1, by omega⟩, hK⟩
      rw [(hpp p hp).1]
      exact (hq p hp).1
    · have e : ∀ c, c ∉ dfL → c ∉ dfM → J2 c = I c := fun c a b => (hF2 c b).trans (hF c a)
      have k : ∀ j, j < 14 ∨ 31 < j → j ≠ 7 → j ≠ 8 → j ≠ 32 → J2 53 j = I 53 j := fun j x y z w => (m1 j x y z w).trans (by rw [hF 53 (by decide)])
      have k1 : J2 1 = J 1 := hF2 1 (by decide)
      have k6 : J2 6 = J 6 := hF2 6 (by decide)
      have k35 : J2 35 = J 35 := hF2 35 (by decide)
      have j53 : J 53 = I 53 := hF 53 (by decide)
      have j69 : J 69 = I 69 := hF 69 (by decide)
      unfold MR_
      rw [k1, k6, k35, h1 5 (by decide) (by decide), h16, h17, m7, m8, m32, k 4 (by omega) (by decide) (by decide) (by decide), k 5 (by omega) (by decide) (by decide) (by decide), k 6 (by omega) (by decide) (by decide) (by decide), k 11 (by omega) (by decide) (by decide) (by decide), k 13 (by omega) (by decide) (by decide) (by decide), k 33 (by omega) (by decide) (by decide) (by decide), k 34 (by omega) (by decide) (by decide) (by decide), k 36 (by omega) (by decide) (by decide) (by decide), k 37 (by omega) (by decide) (by decide) (by decide), k 38 (by omega) (by decide) (by decide) (by decide), k 39 (by omega) (by decide) (by decide) (by decide), k 44 (by omega) (by decide) (by decide) (by decide), k 47 (by omega) (by decide) (by decide) (by decide),
        e 2 (by decide) (by decide), e 3 (by decide) (by decide), e 4 (by decide) (by decide), e 5 (by decide) (by decide),
        e 14 (by decide) (by decide), e 15 (by decide) (by decide), e 39 (by decide) (by decide), e 40 (by decide) (by decide), e 41 (by decide) (by decide), e 42 (by decide) (by decide), e 43 (by decide) (by decide), e 34 (by decide) (by decide), e 36 (by decide) (by decide), e 37 (by decide) (by decide), e 38 (by decide) (by decide),
        e 44 (by decide) (by decide), e 45 (by decide) (by decide), e 46 (by decide) (by decide), e 48 (by decide) (by decide), e 49 (by decide) (by decide), e 50 (by decide) (by decide), e 51 (by decide) (by decide), e 52 (by decide) (by decide),
        e 54 (by decide) (by decide), e 55 (by decide) (by decide), e 56 (by decide) (by decide), e 57 (by decide) (by decide), e 59 (by decide) (by decide), e 60 (by decide) (by decide), e 70 (by decide) (by decide), e 71 (by decide) (by decide), e 72 (by decide) (by decide), e 73 (by decide) (by decide), e 74 (by decide) (by decide), e 75 (by decide) (by decide), e 76 (by decide) (by decide), e 77 (by decide) (by decide), e 78 (by decide) (by decide)]
      obtain ⟨a1, a2, a3, a4, a5, a6⟩ := a'
      obtain ⟨d1, d2, d3, d4, d5⟩ := d'
      refine ⟨⟨a1, rfl, rfl, a4, a5, fun p hp => ?_⟩, b', g', ⟨?_, ?_, ?_, fun p hp => ?_, d5⟩, f', r', l'⟩
      · rw [(mpp p hp).1, (hpp p hp).1]
      · rw [h350, j53, d1]
      · rw [h351]; exact d2
      · rw [h352]; exact d3
      · rw [(mpp p hp).2, (hpp p hp).2, j69, d4 p hp]
    · rw [hF2 1000 (by decide), hF 1000 (by decide)]
    · rw [hF2 27 (by decide), hF 27 (by decide)]; exact h27
