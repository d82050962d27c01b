/-! DRAWS ONE AFTER ANOTHER in thought -/
/-- the class: what is in, how many were drawn, what each has lost and at what loss -/
def TSc (ln : lz_L) (L : LT) (J : ME) (s d : Int) (P : Int → Int × Int) : Prop := CX ln L J ∧ J 16 5 = s ∧ J 16 6 = d ∧ ∀ p, pP p → (J 17 p, J 19 p) = P p ∧ J 18 p = hlI L s p
def TSm (ln : lz_L) (L : LT) (J : ME) (s d : Int) (P : Int → Int × Int) : Prop := MX ln L J ∧ J 53 20 = s ∧ J 53 21 = d ∧ ∀ p, pP p → (J 62 p, J 63 p) = P p
def pBd (P : Int → Int × Int) (b : Int) : Prop := ∀ p, pP p → (0 ≤ (P p).1 ∧ (P p).1 < 256) ∧ -b ≤ (P p).2 ∧ (P p).2 ≤ b
noncomputable def nxP (ln : lz_L) (L : LT) (s d t : Int) (P : Int → Int × Int) : Int → Int × Int := fun p => fa1 ln L (hlI L s p) p t d (P p)
noncomputable def sdT (s t : Int) : Int := sdf s (isl 1 t)
theorem sdT_b {s t : Int} (h0 : 0 ≤ s) (h1 : s < 4096) (t0 : 0 ≤ t) (t1 : t < 12) : (0 ≤ sdT s t ∧ sdT s t ≤ s) ∧ ∀ u, 0 ≤ u → u < 32 → (hasb (sdT s t) u ↔ hasb s u ∧ u ≠ t) := by
  have i1 := isl_b t0 t1
  have s1 := sdf_b h0 h1 (b := isl 1 t) (by omega) (by omega)
  refine ⟨s1.1, fun u u0 u1 => ?_⟩
  unfold sdT
  rw [s1.2 u u0 u1, i1.2 u u0 u1]
theorem sdT_su {s t S : Int} (hs : suB s S) (t0 : 0 ≤ t) (t1 : t < 12) : suB (sdT s t) S := by
  have := sdT_b hs.1.1 hs.1.2 t0 t1
  exact ⟨⟨this.1.1, by have := hs.1.2; omega⟩, fun u u0 u1 q => hs.2 u u0 u1 ((this.2 u u0 u1).mp q).1⟩
theorem sdT_pI {s t : Int} (h0 : 0 ≤ s) (h1 : s < 4096) (t0 : 0 ≤ t) (t1 : t < 12) (h : hasb s t) : pI s = pI (sdT s t) + 1 := by
  have i := sdT_b h0 h1 t0 t1
  exact pI_step (t := t) i.1.1 (by omega) h0 h1 t0 t1 (fun u u0 u1 hu => by rw [i.2 u u0 (by omega)]; exact ⟨fun q => ⟨q, hu⟩, fun q => q.1⟩) (fun q => ((i.2 t t0 (by omega)).mp q).2 rfl) h
theorem hlI_bd {L : LT} (hL : LTok L) (s k : Int) : 0 ≤ hlI L s k ∧ hlI L s k ≤ 12 := by
  have := ctP_le (fun t => hasb s t ∧ tHo L t = k) (tSz L).toNat
  have := hL.f
  unfold hlI
  omega
theorem ctP_one' {p p' : Int → Prop} {t : Int} : ∀ {n : Nat}, (∀ u : Int, 0 ≤ u → u < n → u ≠ t → (p' u ↔ p u)) → 0 ≤ t → t < n → ¬ p t → p' t → ctP p' n = ctP p n + 1
  | 0, _, h0, h1, _, _ => by omega
  | n + 1, h, h0, h1, hn, hy => by
    by_cases q : t = (n : Int)
    · have e : ctP p' n = ctP p n := ctP_cg (fun i hi => h _ (by omega) (by omega) (by omega))
      rw [ctP_t (by rw [← q]; exact hy), ctP_f (by rw [← q]; exact hn), e]
    · have ih := ctP_one' (n := n) (fun u a b c => h u a (by omega) c) h0 (by omega) hn hy
      by_cases w : p (n : Int)
      · rw [ctP_t w, ctP_t ((h _ (by omega) (by omega) (fun z => q z.symm)).mpr w), ih]
      · rw [ctP_f w, ctP_f (fun z => w ((h _ (by omega) (by omega) (fun z => q z.symm)).mp z)), ih]
theorem hlI_out {L : LT} (hL : LTok L) {s t : Int} (h0 : 0 ≤ s) (h1 : s < 4096) (t0 : 0 ≤ t) (t1 : t < tSz L) (h : hasb s t) (k : Int) : hlI L (sdT s t) k = if k = tHo L t then hlI L s k - 1 else hlI L s k := by
  have g := hL.f
  have i := sdT_b h0 h1 t0 (by omega)
  unfold hlI
  by_cases w : k = tHo L t
  · rw [if_pos w]
    have := ctP_one' (p := fun u => hasb (sdT s t) u ∧ tHo L u = k) (p' := fun u => hasb s u ∧ tHo L u = k) (t := t) (n := (tSz L).toNat) (fun u u0 u1 hu => by rw [i.2 u u0 (by omega)]; exact ⟨fun q => ⟨⟨q.1, hu⟩, q.2⟩, fun q => ⟨q.1.1, q.2⟩⟩) t0 (by omega) (fun q => ((i.2 t t0 (by omega)).mp q.1).2 rfl) ⟨h, w.symm⟩
    omega
  · rw [if_neg w]
    have : ctP (fun u => hasb (sdT s t) u ∧ tHo L u = k) (tSz L).toNat = ctP (fun u => hasb s u ∧ tHo L u = k) (tSz L).toNat := ctP_cg (fun u hu => by
      rw [i.2 (u : Int) (by omega) (by omega)]
      constructor
      · rintro ⟨q, z⟩; exact ⟨q.1, z⟩
      · rintro ⟨q, z⟩; exact ⟨⟨q, fun e => w (by rw [← z, e])⟩, z⟩)
    rw [this]
theorem nxP_bd {ln : lz_L} {L : LT} {s d t b : Int} {P : Int → Int × Int} (hL : LTok L) (t0 : 0 ≤ t) (t1 : t < 12) (h : pBd P b) : pBd (nxP ln L s d t P) (b + 99) := by
  intro p hp
  have := h p hp
  have h2 := fa1_bd (ln := ln) (h := hlI L s p) (k := p) (d := d) hL t0 t1 this.1
  exact ⟨h2.1, by unfold nxP; omega⟩
theorem x121 {d : Nat} {ln : lz_L} {L : LT} {t s dd b : Int} {P : Int → Int × Int} {I : ME} {Q : Option MV → ME → Prop} (hd : 6 ≤ d) (hT : TSc ln L I s dd P) (hs : suB s (tIn L)) (hP : pBd P b) (hb : b ≤ 100000000) (hdd : 0 ≤ dd ∧ dd ≤ 12) (ht : 0 ≤ t ∧ t < tSz L) (hin : hasb s t)
    (h : ∀ J, Fr [11, 12, 13, 16, 17, 18, 19] I J → TSc ln L J (sdT s t) (dd + 1) (nxP ln L s dd t P) → Q none J) : EvM d 121 [rf 16, nt t] I Q := by
  obtain ⟨hC, h5, h6, hp⟩ := hT
  have hO := hC.2.1
  have g := hO.f
  have hl := fun k => hlI_bd hO s k
  refine EvM.go [] (T := T_121) rfl rfl rfl rfl ?_
  conv => whnf
  refine ⟨by omega, x120 (by omega) hC ht (fun p q => ?_) (by omega) (fun J hF hX j5 j6 hpp => ?_)⟩
  · have a := hP p q
    have e := (hp p q).1
    rw [← e] at a
    rw [(hp p q).2]
    have a2 : -b ≤ I 19 p ∧ I 19 p ≤ b := a.2
    exact ⟨a.1, hl p, by omega⟩
  · conv => whnf
    rw [j5, h5, show ian s (ixr (isl 1 t) (-1)) = sdT s t from rfl]
    have hX2 : CX ln L (upd_ J 16 5 (sdT s t)) := hX.fr (fun c hc => up_c (by omega))
    refine ⟨by omega, x44L (by omega) hX2 ht ?_⟩
    conv => whnf
    have e18 : J 18 = I 18 := hF 18 (by decide)
    have hfin : ∀ p, pP p → (J 17 p, J 19 p) = nxP ln L s dd t P p := fun p q => by
      rw [hpp p q, (hp p q).1, (hp p q).2, h6]; rfl
    refine ⟨by omega, x175 (fun hk => ?_) (fun hk => ?_)⟩ <;> conv => whnf
    · iterate 2
        refine anI (by omega) ?_
        conv => whnf
      rw [show upd_ J 16 5 (sdT s t) 18 = J 18 from up_c (by decide), e18, (hp _ hk).2, isb_e (by have := hl (tHo L t); omega)]
      refine ⟨trivial, h _ (fr_up (fr_up (hF.sub (by decide)) (by decide)) (by decide)) ⟨hX2.fr (fun c hc => up_c (by omega)), ?_, ?_, fun p q => ⟨?_, ?_⟩⟩⟩
      · rw [up_c (by decide), up_eq]
      · rw [up_c (by decide), up_ne (by decide), j6, h6]
      · rw [up_c (by decide), up_c (by decide), up_c (by decide), up_c (by decide)]; exact hfin p q
      · rw [up_any, up_c (by decide), e18, (hp p q).2, hlI_out hO hs.1.1 hs.1.2 ht.1 ht.2 hin]
        by_cases w : p = tHo L t
        · rw [if_pos w, if_pos w, w]
        · rw [if_neg w, if_neg w]
    · refine ⟨trivial, h _ (fr_up (hF.sub (by decide)) (by decide)) ⟨hX2, by rw [up_eq], ?_, fun p q => ⟨?_, ?_⟩⟩⟩
      · rw [up_ne (by decide), j6, h6]
      · rw [up_c (by decide), up_c (by decide)]; exact hfin p q
      · rw [up_c (by decide), e18, (hp p q).2, hlI_out hO hs.1.1 hs.1.2 ht.1 ht.2 hin, if_neg (fun w => hk (by rw [← w]; exact q))]
theorem m260 {d : Nat} {ln : lz_L} {L : LT} {t s dd b : Int} {P : Int → Int × Int} {I : ME} {Q : Option MV → ME → Prop} (hd : 65 ≤ d) (hT : TSm ln L I s dd P) (hs : suB s (tIn L)) (hP : pBd P b) (hb : b ≤ 100000000) (hdd : 0 ≤ dd ∧ dd ≤ 12)
    (h1 : (0 ≤ t ∧ t < tSz L) ∧ hasb s t → ∀ J, drM I J → TSm ln L J (sdT s t) (dd + 1) (nxP ln L s dd t P) → Q (some (nt 1)) J) (h0 : ¬ ((0 ≤ t ∧ t < tSz L) ∧ hasb s t) → Q (some (nt 0)) I) : EvM d 260 [rf 53, lg t] I Q := by
  obtain ⟨hC, h5, h6, hp⟩ := hT
  have hO := hC.1
  have g := hO.f
  have f := hC.f
  refine EvM.go [] (T := T_260) rfl rfl rfl rfl ?_
  conv => whnf
  refine ⟨by omega, m194 (by omega) (by omega) (by omega) (fun ht => ?_) (fun ht => ?_)⟩ <;> conv => whnf
  all_goals unfold tkM at ht
  all_goals rw [f.1] at ht
  · rw [l2i_e (by omega), h5]
    refine ⟨by omega, m188 (fun hin => ?_) (fun hin => ?_)⟩ <;> conv => whnf
    · refine ⟨by omega, m223 (n := (tSz L).toNat) (by omega) (by omega) (by omega) (fun u u0 u1 => ?_) (fun J hF h64 => ?_)⟩
      · rw [(hC.t u0 u1).2.1]; have := (hO.t u0 u1).2.1; omega
      · conv => whnf
        rw [l2i_e (by omega)]
        have hX := hC.dr (J := J) ⟨fun j hj => by rw [hF 53 (by decide)], hF.sub (by decide)⟩
        have e53 : J 53 = I 53 := hF 53 (by decide)
        have e62 : J 62 = I 62 := hF 62 (by decide)
        have e63 : J 63 = I 63 := hF 63 (by decide)
        refine ⟨by omega, m225 (by omega) hX ⟨ht.1, by omega⟩ (fun p q => ?_) (by rw [e53]; omega) (fun J2 hF2 j64 j20 j21 hpp => ?_)⟩
        · have a := hP p q
          rw [← hp p q] at a
          rw [e62, e63]
          have a2 : -b ≤ I 63 p ∧ I 63 p ≤ b := a.2
          exact ⟨a.1, by omega⟩
        · conv => whnf
          rw [l2i_e (by omega), j20, e53, h5, show ian s (ixr (isl 1 t) (-1)) = sdT s t from rfl]
          have hD : drM I J2 := drM.tr ⟨fun j hj => by rw [e53], hF.sub (by decide)⟩ hF2
          have hD2 : drM I (upd_ J2 53 20 (sdT s t)) := ⟨fun j hj => by rw [up_ne (by omega)]; exact hD.1 j hj, fr_up hD.2 (by decide)⟩
          refine ⟨trivial, h1 ⟨ht, hin⟩ _ hD2 ⟨hC.dr hD2, by rw [up_eq], ?_, fun p q => ?_⟩⟩
          · rw [up_ne (by decide), j21, e53, h6]
          · rw [up_c (by decide), up_c (by decide), hpp p q, h64 p q, e62, e63, hp p q, e53, h6]
            unfold nxP hlI
            rw [ctP_cg (q := fun t => hasb s t ∧ tHo L t = p) (fun i hi => ?_)]
            unfold hlP
            rw [h5, (hC.t (t := (i : Int)) (by omega) (by omega)).2.1]
    · exact ⟨trivial, h0 (fun w => hin w.2)⟩
  · exact ⟨trivial, h0 (fun w => ht w.1)⟩
theorem x117T {d : Nat} {ln : lz_L} {L : LT} {I : ME} {Q : Option MV → ME → Prop} (hd : 3 ≤ d) (hC : CX ln L I) (h : ∀ J, Fr [16, 17, 18, 19] I J → TSc ln L J (tIn L) (tDr L) (fun p => (tLo L p, 0)) → Q none J) : EvM d 117 [rf 16] I Q := by
  obtain ⟨f1, f2, f3, f4, f5, f6, f7, f8⟩ := hC.f
  have hO := hC.2.1
  have g := hO.f
  refine x117 (n := (tSz L).toNat) hd (by omega) (by omega) (fun t t0 t1 => by rw [f6]; exact (hO.t t0 t1).2.1) (fun J hF h5 h6 hp => h J hF ⟨hC.fr (fun c hc => hF c (by simp; omega)), by rw [h5, f2], by rw [h6, f3], fun p q => ⟨?_, ?_⟩⟩)
  · rw [(hp p q).1, (hp p q).2.2, f8]
  · rw [(hp p q).2.1]; unfold hcC; rw [f2, f6]; rfl
theorem m222T {d : Nat} {ln : lz_L} {L : LT} {I : ME} {Q : Option MV → ME → Prop} (hC : MX ln L I) (h : ∀ J, drM I J → TSm ln L J (tIn L) (tDr L) (fun p => (tLo L p, 0)) → Q none J) : EvM d 222 [rf 53] I Q := by
  have f := hC.f
  refine m222 (fun J hJ => ?_)
  obtain ⟨a1, a2, a3, a4, a5⟩ := hJ
  have hD : drM I J := ⟨fun j hj => a1 j (by omega) (by omega), a2.sub (by decide)⟩
  exact h J hD ⟨hC.dr hD, by rw [a3, f.2.1], by rw [a4, f.2.2], fun p q => by rw [(a5 p q).1, (a5 p q).2, hC.lo q]⟩
theorem pB0 {L : LT} (hL : LTok L) : pBd (fun p => (tLo L p, 0)) 0 := fun p hp => ⟨hL.lo hp, by show -0 ≤ (0 : Int) ∧ (0 : Int) ≤ 0; omega⟩
