/-! CANCEL: two tickets out in thought -/
def Lin (L : LT) (s : Int) : LT := (tSz L, s, tDr L, tLv L, tTh L, tHo L, tBl L, tLo L)
theorem Lin.ok {L : LT} (hL : LTok L) {s : Int} (hs : suB s (tIn L)) : LTok (Lin L s) := by
  have g := hL.f
  obtain ⟨a, b, c, d⟩ := hL
  refine ⟨a, ⟨hs.1.1, hs.1.2, fun t t0 t1 w => b.2.2 t t0 t1 (hs.2 t (by have t0' : tSz L ≤ t := t0; omega) (by omega) w)⟩, ?_, d⟩
  have := pI_mono hs.1.1 hs.1.2 g.2.1.1 g.2.1.2 (fun u u0 u1 w => hs.2 u u0 (by omega) w)
  show 0 ≤ tDr L ∧ tDr L + pI s ≤ tSz L
  omega
theorem CX.inn {ln : lz_L} {L : LT} {I : ME} (h : CX ln L I) {s : Int} (hs : suB s (tIn L)) : CX ln (Lin L s) (upd_ I 1 6 s) := by
  obtain ⟨a, b, c, d, e⟩ := h
  have f1 : I 1 5 = tSz L := by rw [← a]; rfl
  refine ⟨?_, Lin.ok b hs, ?_, ?_, ?_⟩
  · rw [← a]
    unfold ltC
    rw [up_eq, up_ne (by decide), up_ne (by decide), up_c (by decide), up_c (by decide), up_c (by decide), up_c (by decide), up_c (by decide)]
    rfl
  · rw [up_c (by decide), up_c (by decide), up_c (by decide), up_c (by decide)]; exact c
  · rw [up_c (by decide), up_ne (by decide)]; exact d
  · rw [up_c (by decide), up_c (by decide), up_ne (by decide), up_c (by decide)]; exact e
theorem Lin_2 (L : LT) (s s' : Int) : Lin (Lin L s) s' = Lin L s' := rfl
theorem Lin_id (L : LT) : Lin L (tIn L) = L := rfl
theorem faS_in {ln : lz_L} {L : LT} {s h k S : Int} : ∀ i : Nat, faS ln (Lin L s) h k S i = faS ln L h k S i
  | 0 => rfl
  | i + 1 => by
    unfold faS
    rw [faS_in i]
    rfl
theorem smI_in {ln : lz_L} {L : LT} {s k n : Int} : smI ln L s k n (twN L) = smA ln (Lin L s) k n := by
  unfold smI smA
  refine smF_cg (fun D hD => ?_)
  have e : lsN ln (Lin L s) k D = lsI ln L s k (D : Int) := by
    unfold lsN lsS lsI
    rw [faS_in]
    rfl
  rw [e]
  rfl
def boT (a b : Int) : Int := iro (isl 1 a) (isl 1 b)
theorem boT_b {a b : Int} (ha : 0 ≤ a ∧ a < 12) (hb : 0 ≤ b ∧ b < 12) : (0 ≤ boT a b ∧ boT a b < 4096) ∧ ∀ u, 0 ≤ u → u < 32 → (hasb (boT a b) u ↔ u = a ∨ u = b) := by
  have i1 := isl_b ha.1 ha.2
  have i2 := isl_b hb.1 hb.2
  have o := iro_b (s := isl 1 a) (b := isl 1 b) (by omega) (by omega) (by omega) (by omega)
  refine ⟨o.1, fun u u0 u1 => ?_⟩
  unfold boT
  rw [o.2 u u0 u1, i1.2 u u0 u1, i2.2 u u0 u1]
/-- without the two -/
def woT (L : LT) (a b : Int) : Int := sdf (tIn L) (boT a b)
def caK (L : LT) (a b : Int) : Prop := hasb (tIn L) a ∧ hasb (tIn L) b ∧ tTh L a = tTh L b ∧ tHo L a = tHo L b ∧ tHo L a ≠ -1
theorem woT_ok {L : LT} (hL : LTok L) {a b : Int} (ha : 0 ≤ a ∧ a < 12) (hb : 0 ≤ b ∧ b < 12) (hab : a ≠ b) (h : hasb (tIn L) a ∧ hasb (tIn L) b) :
    suB (woT L a b) (tIn L) ∧ pI (woT L a b) + 2 = pI (tIn L) ∧ iro (woT L a b) (boT a b) = tIn L ∧ sdf (sdf (tIn L) (isl 1 a)) (isl 1 b) = woT L a b := by
  have g := hL.f
  have bo := boT_b ha hb
  have i1 := isl_b ha.1 ha.2
  have i2 := isl_b hb.1 hb.2
  have s := sdf_b g.2.1.1 g.2.1.2 (b := boT a b) (by omega) (by omega)
  have s1 := sdf_b g.2.1.1 g.2.1.2 (b := isl 1 a) (by omega) (by omega)
  have s2 := sdf_b (s := sdf (tIn L) (isl 1 a)) (by omega) (by omega) (b := isl 1 b) (by omega) (by omega)
  have w : ∀ u, 0 ≤ u → u < 32 → (hasb (woT L a b) u ↔ hasb (tIn L) u ∧ u ≠ a ∧ u ≠ b) := fun u u0 u1 => by
    unfold woT
    rw [s.2 u u0 u1, bo.2 u u0 u1]
    constructor
    · rintro ⟨x, y⟩; exact ⟨x, fun z => y (Or.inl z), fun z => y (Or.inr z)⟩
    · rintro ⟨x, y, z⟩; exact ⟨x, fun q => q.elim y z⟩
  have wb : 0 ≤ woT L a b ∧ woT L a b < 4096 := by unfold woT; omega
  have e : sdf (sdf (tIn L) (isl 1 a)) (isl 1 b) = woT L a b := by
    refine set_ext (by omega) (by omega) wb.1 wb.2 (fun u u0 u1 => ?_)
    rw [s2.2 u u0 (by omega), s1.2 u u0 (by omega), w u u0 (by omega), i1.2 u u0 (by omega), i2.2 u u0 (by omega)]
    constructor
    · rintro ⟨⟨x, y⟩, z⟩; exact ⟨x, y, z⟩
    · rintro ⟨x, y, z⟩; exact ⟨⟨x, y⟩, z⟩
  refine ⟨⟨wb, fun u u0 u1 z => ((w u u0 u1).mp z).1⟩, ?_, ?_, e⟩
  · have p1 : pI (tIn L) = pI (sdf (tIn L) (isl 1 a)) + 1 := pI_step (t := a) (by omega) (by omega) g.2.1.1 g.2.1.2 ha.1 ha.2 (fun u u0 u1 hu => by
      rw [s1.2 u u0 (by omega), i1.2 u u0 (by omega)]; exact ⟨fun z => ⟨z, hu⟩, fun z => z.1⟩) (fun z => by
      have := ((s1.2 a ha.1 (by omega)).mp z).2; exact this ((i1.2 a ha.1 (by omega)).mpr rfl)) h.1
    have p2 : pI (sdf (tIn L) (isl 1 a)) = pI (sdf (sdf (tIn L) (isl 1 a)) (isl 1 b)) + 1 := pI_step (t := b) (by omega) (by omega) (by omega) (by omega) hb.1 hb.2 (fun u u0 u1 hu => by
      rw [s2.2 u u0 (by omega), i2.2 u u0 (by omega)]; exact ⟨fun z => ⟨z, hu⟩, fun z => z.1⟩) (fun z => by
      have := ((s2.2 b hb.1 (by omega)).mp z).2; exact this ((i2.2 b hb.1 (by omega)).mpr rfl)) ((s1.2 b hb.1 (by omega)).mpr ⟨h.2, fun z => hab ((i1.2 b hb.1 (by omega)).mp z).symm⟩)
    rw [e] at p2
    omega
  · have o := iro_b (s := woT L a b) (b := boT a b) wb.1 wb.2 bo.1.1 bo.1.2
    refine set_ext o.1.1 o.1.2 g.2.1.1 g.2.1.2 (fun u u0 u1 => ?_)
    rw [o.2 u u0 (by omega), w u u0 (by omega), bo.2 u u0 (by omega)]
    constructor
    · rintro (z | z | z)
      · exact z.1
      · rw [z]; exact h.1
      · rw [z]; exact h.2
    · intro z
      by_cases q1 : u = a
      · exact Or.inr (Or.inl q1)
      · by_cases q2 : u = b
        · exact Or.inr (Or.inr q2)
        · exact Or.inl ⟨z, q1, q2⟩
def caM (L : LT) (m : Int) : Int := if pI (tIn L) - 2 < m then pI (tIn L) - 2 else m
noncomputable def caV (ln : lz_L) (L : LT) (m a b : Int) : Int := smL_ ln (Lin L (woT L a b)) (caM L m)
theorem x73 {d : Nat} {ln : lz_L} {L : LT} {m : Int} {I : ME} {Q : Option MV → ME → Prop} (hd : 9 ≤ d) (hC : CX ln L I) (hm : cdW L m)
    (h : ∀ J, Fr [11, 12, 13, 20, 21, 22, 23, 24] I J → CX ln L J → Q (some (nt (prO (caK L) (caV ln L m) (tSz L).toNat (tSz L).toNat).1)) J) : EvM d 73 [rf 24, nt m] I Q := by
  have hO := hC.2.1
  have g := hO.f
  have hpI := pI_bd (tIn L)
  have inner : ∀ (r j a : Nat) (x6 x7 : Option MV) (s0 s : Int × Int) (J : ME) (Q' : Option MV → ME → Prop), a + 1 + j + r = (tSz L).toNat → s = prI (caK L) (caV ln L m) a s0 j → Fr [11, 12, 13, 20, 21, 22, 23, 24] I J → CX ln L J → (s.1 ≠ -2 → J 24 12 = s.2) →
      (∀ (x6 x7 : Option MV) (s : Int × Int) (J : ME), s = prI (caK L) (caV ln L m) a s0 ((tSz L).toNat - (a + 1)) → Fr [11, 12, 13, 20, 21, 22, 23, 24] I J → CX ln L J → (s.1 ≠ -2 → J 24 12 = s.2) → Ev d 73 139 [some (rf 24), some (nt m), some (nt (caM L m)), some (nt s.1), some (nt (a : Int)), some (nt (((tSz L).toNat : Nat) : Int)), x6, x7] [] J Q') →
      Ev d 73 38 [some (rf 24), some (nt m), some (nt (caM L m)), some (nt s.1), some (nt (a : Int)), some (nt ((a + 1 + j : Nat) : Int)), x6, x7] [] J Q' := by
    intro r
    induction r with
    | zero =>
      intro j a x6 x7 s0 s J Q' hr hs hF hX h12 hn
      have f := hX.f
      refine Ev.go [139] (T := T_73) rfl rfl ?_
      conv => whnf
      refine ⟨by omega, x35 ?_⟩
      rw [f.1]
      conv => whnf
      refine brI (fun z => ?_) (fun z => ?_)
      all_goals first | (exfalso; omega) | skip
      conv => whnf
      rw [show ((a + 1 + j : Nat) : Int) = (((tSz L).toNat : Nat) : Int) by omega]
      refine ⟨trivial, hn _ _ s J ?_ hF hX h12⟩
      rw [show (tSz L).toNat - (a + 1) = j by omega]; exact hs
    | succ r ih =>
      intro j a x6 x7 s0 s J Q' hr hs hF hX h12 hn
      have f := hX.f
      have ei : iad ((a + 1 + j : Nat) : Int) 1 = ((a + 1 + (j + 1) : Nat) : Int) := by rw [iad_e (by omega)]; omega
      have ha : 0 ≤ (a : Int) ∧ (a : Int) < 12 := by omega
      have hb : 0 ≤ ((a + 1 + j : Nat) : Int) ∧ ((a + 1 + j : Nat) : Int) < 12 := by omega
      have hab : (a : Int) ≠ ((a + 1 + j : Nat) : Int) := by omega
      have hn1 : prI (caK L) (caV ln L m) a s0 (j + 1) = prS (caK L) (caV ln L m) (a : Int) ((a + 1 + j : Nat) : Int) s := by rw [hs]; rfl
      have same : ∀ (x6 x7 : Option MV) J2, (¬ (caK L (a : Int) ((a + 1 + j : Nat) : Int) ∧ (s.1 = -2 ∨ caV ln L m (a : Int) ((a + 1 + j : Nat) : Int) < s.2))) → Fr [11, 12, 13, 20, 21, 22, 23, 24] I J2 → CX ln L J2 → J2 24 12 = J 24 12 → Ev d 73 38 [some (rf 24), some (nt m), some (nt (caM L m)), some (nt s.1), some (nt (a : Int)), some (nt (iad ((a + 1 + j : Nat) : Int) 1)), x6, x7] [] J2 Q' := fun x6 x7 J2 hc hF2 hX2 e12 => by
        rw [ei]
        exact ih (j + 1) a _ _ s0 s J2 Q' (by omega) (by rw [hn1, prS_f hc]) hF2 hX2 (by rw [e12]; exact h12) hn
      refine Ev.go [38] (T := T_73) rfl rfl ?_
      conv => whnf
      refine ⟨by omega, x35 ?_⟩
      rw [f.1]
      conv => whnf
      refine brI (fun z => ?_) (fun z => ?_)
      all_goals first | (exfalso; omega) | skip
      conv => whnf
      refine ⟨by omega, x55 (by omega) (by omega) (fun z1 => ?_) (fun z1 => ?_)⟩ <;> conv => whnf
      all_goals unfold inC tkC at z1
      all_goals rw [f.1, f.2.1, f.2.2.2.2.1, f.2.2.2.2.2.1] at z1
      · have hK : caK L (a : Int) ((a + 1 + j : Nat) : Int) := ⟨z1.1.2, z1.2.1.2, z1.2.2.2.1, z1.2.2.2.2.1, z1.2.2.2.2.2⟩
        obtain ⟨w1, w2, w3, w4⟩ := woT_ok hO ha hb hab ⟨hK.1, hK.2.1⟩
        have hwb := pI_bd (woT L (a : Int) ((a + 1 + j : Nat) : Int))
        refine ⟨by omega, x40 ?_⟩
        conv => whnf
        rw [f.2.1, show ian (tIn L) (ixr (iro (isl 1 (a : Int)) (isl 1 ((a + 1 + j : Nat) : Int))) (-1)) = woT L (a : Int) ((a + 1 + j : Nat) : Int) from rfl]
        have hX2 := hX.inn w1
        have hcm : 0 ≤ caM L m ∧ caM L m ≤ 12 := by unfold caM; have := hm.1; have := hm.2; split <;> omega
        refine ⟨by omega, x62 (by omega) hX2 hcm (fun J2 hF2 hX3 => ?_)⟩
        conv => whnf
        refine ⟨by omega, x41 ?_⟩
        conv => whnf
        rw [hX3.f.2.1, show iro (tIn (Lin L (woT L (a : Int) ((a + 1 + j : Nat) : Int)))) (iro (isl 1 (a : Int)) (isl 1 ((a + 1 + j : Nat) : Int))) = tIn L from w3]
        have hX4 : CX ln L (upd_ J2 1 6 (tIn L)) := by
          have b0 : suB (tIn L) (tIn L) := suB.self hO
          obtain ⟨p1, p2, p3, p4, p5⟩ := hX3
          refine ⟨?_, hO, ?_, ?_, ?_⟩
          · unfold ltC at p1 ⊢
            rw [up_eq, up_ne (by decide), up_ne (by decide), up_c (by decide), up_c (by decide), up_c (by decide), up_c (by decide), up_c (by decide)]
            have q : Lin (J2 1 5, J2 1 6, J2 1 7, J2 2, J2 3, J2 4, J2 5, J2 6) (tIn L) = L := by rw [p1, Lin_2, Lin_id]
            exact q
          · rw [up_c (by decide), up_c (by decide), up_c (by decide), up_c (by decide)]; exact p3
          · rw [up_c (by decide), up_ne (by decide)]; exact p4
          · rw [up_c (by decide), up_c (by decide), up_ne (by decide), up_c (by decide)]; exact p5
        have hF4 : Fr [11, 12, 13, 20, 21, 22, 23, 24] I (upd_ J2 1 6 (tIn L)) := by
          intro c hc
          by_cases w : c = 1
          · subst w
            funext p
            rw [up_any]
            by_cases wp : p = 6
            · rw [if_pos wp, wp]; exact hC.f.2.1.symm
            · rw [if_neg wp, hF2 1 (by decide), up_ne wp, hF 1 (by decide)]
          · rw [up_c w, hF2 c (fun z => hc (by simp at z ⊢; omega)), up_c w, hF c hc]
        have e24 : upd_ J2 1 6 (tIn L) 24 = J 24 := by rw [up_c (by decide), hF2 24 (by decide), up_c (by decide)]
        have new : ∀ (x6 x7 : Option MV), (s.1 = -2 ∨ caV ln L m (a : Int) ((a + 1 + j : Nat) : Int) < s.2) → Ev d 73 38 [some (rf 24), some (nt m), some (nt (caM L m)), some (nt (iad (iml 20 (a : Int)) ((a + 1 + j : Nat) : Int))), some (nt (a : Int)), some (nt (iad ((a + 1 + j : Nat) : Int) 1)), x6, x7] [] (upd_ (upd_ J2 1 6 (tIn L)) 24 12 (caV ln L m (a : Int) ((a + 1 + j : Nat) : Int))) Q' := fun x6 x7 hc => by
          rw [ei, iml_e (by omega), iad_e (by omega)]
          exact ih (j + 1) a _ _ s0 (20 * (a : Int) + ((a + 1 + j : Nat) : Int), caV ln L m (a : Int) ((a + 1 + j : Nat) : Int)) _ Q' (by omega) (by rw [hn1, prS_t ⟨hK, hc⟩]) (fr_up hF4 (by decide)) (hX4.fr (fun c hc => up_c (by omega))) (fun _ => by rw [up_eq]) hn
        rw [show smL_ ln (Lin L (woT L (a : Int) ((a + 1 + j : Nat) : Int))) (caM L m) = caV ln L m (a : Int) ((a + 1 + j : Nat) : Int) from rfl]
        refine brI (fun z2 => ?_) (fun z2 => ?_) <;> conv => whnf
        · exact ⟨trivial, new _ _ (Or.inl z2)⟩
        · have h12' := h12 z2
          rw [e24, h12']
          refine brI (fun z3 => ?_) (fun z3 => ?_) <;> conv => whnf
          · exact ⟨trivial, new _ _ (Or.inr z3)⟩
          · exact ⟨trivial, same _ _ _ (fun w => w.2.elim z2 z3) hF4 hX4 (by rw [e24])⟩
      · exact ⟨trivial, same _ _ J (fun w => z1 ⟨⟨⟨ha.1, by omega⟩, w.1.1⟩, ⟨⟨hb.1, by omega⟩, w.1.2.1⟩, hab, w.1.2.2.1, w.1.2.2.2.1, w.1.2.2.2.2⟩) hF hX rfl⟩
  have outer : ∀ (r a : Nat) (x5 x6 x7 : Option MV) (s : Int × Int) (J : ME), a + r = (tSz L).toNat → s = prO (caK L) (caV ln L m) (tSz L).toNat a → Fr [11, 12, 13, 20, 21, 22, 23, 24] I J → CX ln L J → (s.1 ≠ -2 → J 24 12 = s.2) →
      Ev d 73 20 [some (rf 24), some (nt m), some (nt (caM L m)), some (nt s.1), some (nt (a : Int)), x5, x6, x7] [] J Q := by
    intro r
    induction r with
    | zero =>
      intro a x5 x6 x7 s J hr hs hF hX h12
      have f := hX.f
      refine Ev.go [] (T := T_73) rfl rfl ?_
      conv => whnf
      refine ⟨by omega, x35 ?_⟩
      rw [f.1]
      conv => whnf
      refine brI (fun z => ?_) (fun z => ?_)
      all_goals first | (exfalso; omega) | skip
      conv => whnf
      have e : a = (tSz L).toNat := by omega
      rw [e] at hs
      subst hs
      exact ⟨trivial, h J hF hX⟩
    | succ r ih =>
      intro a x5 x6 x7 s J hr hs hF hX h12
      have f := hX.f
      have ei : iad (a : Int) 1 = ((a + 1 + 0 : Nat) : Int) := by rw [iad_e (by omega)]; rfl
      refine Ev.go [20, 38] (T := T_73) rfl rfl ?_
      conv => whnf
      refine ⟨by omega, x35 ?_⟩
      rw [f.1]
      conv => whnf
      refine brI (fun z => ?_) (fun z => ?_)
      all_goals first | (exfalso; omega) | skip
      conv => whnf
      rw [ei]
      refine ⟨trivial, inner ((tSz L).toNat - (a + 1)) 0 a _ _ s s J Q (by omega) rfl hF hX h12 (fun y6 y7 s2 J2 hs2 hF2 hX2 h12' => ?_)⟩
      refine Ev.go [20] (T := T_73) rfl rfl ?_
      conv => whnf
      rw [ei]
      exact ⟨trivial, ih (a + 1) _ _ _ s2 J2 (by omega) (by rw [hs2, hs]; rfl) hF2 hX2 h12'⟩
  have f := hC.f
  refine EvM.go [20] (T := T_73) rfl rfl rfl rfl ?_
  conv => whnf
  refine ⟨by omega, x39 (by omega) (by omega) (by omega) ?_⟩
  rw [f.2.1]
  conv => whnf
  have hmm : imn m (isb (pI (tIn L)) 2) = caM L m := by
    rw [isb_e (by omega)]; rfl
  rw [hmm]
  refine ltI (by omega) ?_
  conv => whnf
  exact ⟨trivial, outer _ 0 none none none (-2, 0) I (Nat.zero_add _) rfl Fr.rfl' hC (fun z => absurd rfl z)⟩
