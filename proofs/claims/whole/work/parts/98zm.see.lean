/-! A ROW of tickets seen -/
def sqI (L : LT) (g : Int → Int) : Nat → Int
  | 0 => tIn L
  | i + 1 => sdf (sqI L g i) (isl 1 (g (i : Int)))
noncomputable def sqP (ln : lz_L) (L : LT) (g : Int → Int) : Nat → Int → Int × Int
  | 0 => fun p => (tLo L p, 0)
  | i + 1 => nxP ln L (sqI L g i) (tDr L + (i : Int)) (g (i : Int)) (sqP ln L g i)
abbrev okT (L : LT) (g : Int → Int) (i : Nat) : Prop := (0 ≤ g (i : Int) ∧ g (i : Int) < tSz L) ∧ hasb (sqI L g i) (g (i : Int))
/-- how many are seen, and the first that was not in -/
def seF (L : LT) (g : Int → Int) : Nat → Nat → Nat × Int
  | 0, i => (i, -2)
  | m + 1, i => if okT L g i then seF L g m (i + 1) else (i, (i : Int))
/-- so far all were in -/
def upT (L : LT) (g : Int → Int) (i : Nat) : Prop := suB (sqI L g i) (tIn L) ∧ pI (sqI L g i) + (i : Int) = pI (tIn L)
theorem upT_0 {L : LT} (hL : LTok L) (g : Int → Int) : upT L g 0 := ⟨suB.self hL, by show pI (tIn L) + ((0 : Nat) : Int) = pI (tIn L); omega⟩
theorem upT_s {L : LT} (hL : LTok L) {g : Int → Int} {i : Nat} (h : upT L g i) (ho : okT L g i) : upT L g (i + 1) := by
  have gg := hL.f
  have hp := sdT_pI h.1.1.1 h.1.1.2 ho.1.1 (by omega) ho.2
  refine ⟨sdT_su h.1 ho.1.1 (by omega), ?_⟩
  have := h.2
  have e : sqI L g (i + 1) = sdT (sqI L g i) (g (i : Int)) := rfl
  rw [e]
  omega
theorem sqP_bd {ln : lz_L} {L : LT} (hL : LTok L) {g : Int → Int} : ∀ i : Nat, (∀ j : Nat, j < i → 0 ≤ g (j : Int) ∧ g (j : Int) < 12) → pBd (sqP ln L g i) (99 * (i : Int))
  | 0, _ => by have := pB0 hL; rw [show (99 : Int) * ((0 : Nat) : Int) = 0 by omega]; exact this
  | i + 1, h => by
    have ih := sqP_bd (ln := ln) hL (g := g) i (fun j hj => h j (by omega))
    have := nxP_bd (ln := ln) (s := sqI L g i) (d := tDr L + (i : Int)) hL (h i (by omega)).1 (h i (by omega)).2 ih
    rw [show (99 : Int) * ((i + 1 : Nat) : Int) = 99 * (i : Int) + 99 by omega]
    exact this
theorem x126 {d : Nat} {ln : lz_L} {L : LT} {s n : Int} {g : Int → Int} {I : ME} {Q : Option MV → ME → Prop} (hd : 7 ≤ d) (hC : CX ln L I) (hr : rwC I s) (hn : I 51 s = n) (hn60 : 0 ≤ n ∧ n ≤ 60) (h60 : ∀ s, rwC I s → I 51 s ≤ 60) (hg : ∀ i, 0 ≤ i → i < n → I 52 (60 * s + i) = g i ∧ -128 ≤ g i ∧ g i ≤ 127)
    (h : ∀ J, Fr [11, 12, 13, 16, 17, 18, 19] I J → CX ln L J → (∀ p, pP p → J 19 p = (sqP ln L g (seF L g n.toNat 0).1 p).2) → Q (some (nt (seF L g n.toNat 0).2)) J) : EvM d 126 [rf 16, rf 47, nt s] I Q := by
  have hO := hC.2.1
  have gg := hO.f
  have hp := hr.1
  have loop : ∀ (m i : Nat) (x : Option MV) (J : ME), i + m = n.toNat → seF L g n.toNat 0 = seF L g m i → upT L g i → (∀ j : Nat, j < i → 0 ≤ g (j : Int) ∧ g (j : Int) < 12) → Fr [11, 12, 13, 16, 17, 18, 19] I J → TSc ln L J (sqI L g i) (tDr L + (i : Int)) (sqP ln L g i) → Ev d 126 13 [some (rf 16), some (rf 47), some (nt s), some (nt n), some (nt (i : Int)), x] [] J Q := by
    intro m
    induction m with
    | zero =>
      intro i x J hi hse hup hgi hF hT
      refine Ev.go [] (T := T_126) rfl rfl ?_
      conv => whnf
      refine brI (fun z => ?_) (fun z => ?_)
      all_goals first | (exfalso; omega) | skip
      conv => whnf
      have := h J hF hT.1 (fun p q => by rw [hse]; have := (hT.2.2.2 p q).1; show J 19 p = (sqP ln L g i p).2; rw [← this])
      rw [hse] at this
      exact ⟨trivial, this⟩
    | succ m ih =>
      intro i x J hi hse hup hgi hF hT
      have hX := hT.1
      have f := hX.f
      have hse2 : seF L g n.toNat 0 = if okT L g i then seF L g m (i + 1) else (i, (i : Int)) := hse
      have e48 : J 48 = I 48 := hF 48 (by decide)
      have e51 : J 51 = I 51 := hF 51 (by decide)
      have e52 : J 52 = I 52 := hF 52 (by decide)
      have gi := hg (i : Int) (by omega) (by omega)
      have ei : iad (i : Int) 1 = ((i + 1 : Nat) : Int) := by rw [iad_e (by omega)]; rfl
      have hrJ : ∀ s, rwC J s ↔ rwC I s := fun s => by unfold rwC; rw [e48]
      have stop : (¬ okT L g i) → Q (some (nt (i : Int))) J := fun hn => by
        have := h J hF hX (fun p q => by rw [hse2, if_neg hn]; have := (hT.2.2.2 p q).1; show J 19 p = (sqP ln L g i p).2; rw [← this])
        rw [hse2, if_neg hn] at this
        exact this
      refine Ev.go [13, 57] (T := T_126) rfl rfl ?_
      conv => whnf
      refine brI (fun z => ?_) (fun z => ?_)
      all_goals first | (exfalso; omega) | skip
      conv => whnf
      refine ⟨by omega, x99 (by omega) (by omega) (fun s q => by rw [e51]; exact h60 s ((hrJ s).mp q)) (fun z1 => ?_) (fun z1 => ?_)⟩ <;> conv => whnf
      · rw [e52, show s * 60 + (i : Int) = 60 * s + (i : Int) by omega, gi.1, l2i_e (by omega)]
        refine ⟨by omega, x36 (fun z2 => ?_) (fun z2 => ?_)⟩ <;> conv => whnf
        all_goals unfold tkC at z2
        all_goals rw [f.1] at z2
        · rw [hT.2.1]
          refine brI (fun z3 => ?_) (fun z3 => ?_) <;> conv => whnf
          · exact ⟨trivial, stop (fun w => (hasb_0.mp z3) w.2)⟩
          · have hin : hasb (sqI L g i) (g (i : Int)) := by
              have := ian_1 (isr (sqI L g i) (g (i : Int)))
              unfold hasb
              omega
            have hok : okT L g i := ⟨z2, hin⟩
            have hpi := pI_bd (sqI L g i)
            have hup2 := hup.2
            have hb := sqP_bd (ln := ln) hO (g := g) i hgi
            have go57 : Ev d 126 57 [some (rf 16), some (rf 47), some (nt s), some (nt n), some (nt (i : Int)), some (nt (g (i : Int)))] [] J Q := by
              refine Ev.go [13] (T := T_126) rfl rfl ?_
              conv => whnf
              refine ⟨by omega, x121 (by omega) hT hup.1 hb (by omega) (by omega) z2 hin (fun J2 hF2 hT2 => ?_)⟩
              conv => whnf
              rw [ei]
              refine ⟨trivial, ih (i + 1) _ J2 (by omega) (by rw [hse2, if_pos hok]) (upT_s hO hup hok) (fun j hj => ?_) (hF.tr hF2) ?_⟩
              · by_cases w : j = i
                · rw [w]; omega
                · exact hgi j (by omega)
              · rw [show tDr L + ((i + 1 : Nat) : Int) = tDr L + (i : Int) + 1 by omega]
                exact hT2
            exact ⟨trivial, go57⟩
        · exact ⟨trivial, stop (fun w => z2 w.1)⟩
      · exfalso
        refine z1 ?_
        unfold plC
        have := (hrJ s).mpr hr
        refine ⟨by omega, by omega, Or.inl ⟨this, ?_⟩⟩
        rw [e51, hn]; omega
  refine EvM.go [13] (T := T_126) rfl rfl rfl rfl ?_
  conv => whnf
  refine ⟨by omega, x117T (by omega) hC (fun J hF hT => ?_)⟩
  conv => whnf
  have hrJ : rwC J s := by unfold rwC; rw [hF 48 (by decide)]; exact hr
  refine ⟨by omega, x95 (by omega) (fun _ => ?_) (fun z => absurd hrJ z)⟩
  rw [hF 51 (by decide), hn]
  conv => whnf
  exact ⟨trivial, loop n.toNat 0 none J (Nat.zero_add _) rfl (upT_0 hO g) (fun j hj => absurd hj (Nat.not_lt_zero _)) (hF.sub (by decide)) (by rw [show tDr L + ((0 : Nat) : Int) = tDr L by omega]; exact hT)⟩
theorem m261 {d : Nat} {ln : lz_L} {L : LT} {s n : Int} {g : Int → Int} {I : ME} {Q : Option MV → ME → Prop} (hd : 66 ≤ d) (hC : MX ln L I) (hs : pP s) (hn : I 77 s = n) (hn60 : 0 ≤ n ∧ n ≤ 60) (hg : ∀ i, 0 ≤ i → i < n → I 78 (60 * s + i) = g i ∧ -128 ≤ g i ∧ g i ≤ 127)
    (h : ∀ J, drM I J → (∀ p, pP p → J 63 p = (sqP ln L g (seF L g n.toNat 0).1 p).2) → Q (some (nt (seF L g n.toNat 0).2)) J) : EvM d 261 [rf 53, nt s] I Q := by
  have hO := hC.1
  have gg := hO.f
  have loop : ∀ (m i : Nat) (J : ME), i + m = n.toNat → seF L g n.toNat 0 = seF L g m i → upT L g i → (∀ j : Nat, j < i → 0 ≤ g (j : Int) ∧ g (j : Int) < 12) → drM I J → TSm ln L J (sqI L g i) (tDr L + (i : Int)) (sqP ln L g i) → Ev d 261 6 [some (rf 53), some (nt s), some (nt (i : Int))] [] J Q := by
    intro m
    induction m with
    | zero =>
      intro i J hi hse hup hgi hF hT
      refine Ev.go [] (T := T_261) rfl rfl ?_
      conv => whnf
      refine anI (by omega) ?_
      conv => whnf
      rw [hF.2 77 (by decide), hn]
      refine brI (fun z => ?_) (fun z => ?_)
      all_goals first | (exfalso; omega) | skip
      conv => whnf
      have := h J hF (fun p q => by rw [hse]; have := hT.2.2.2 p q; show J 63 p = (sqP ln L g i p).2; rw [← this])
      rw [hse] at this
      exact ⟨trivial, this⟩
    | succ m ih =>
      intro i J hi hse hup hgi hF hT
      have hse2 : seF L g n.toNat 0 = if okT L g i then seF L g m (i + 1) else (i, (i : Int)) := hse
      have gi := hg (i : Int) (by omega) (by omega)
      have ei : iad (i : Int) 1 = ((i + 1 : Nat) : Int) := by rw [iad_e (by omega)]; rfl
      have hpi := pI_bd (sqI L g i)
      have hup2 := hup.2
      have hb := sqP_bd (ln := ln) hO (g := g) i hgi
      refine Ev.go [6] (T := T_261) rfl rfl ?_
      conv => whnf
      refine anI (by omega) ?_
      conv => whnf
      rw [hF.2 77 (by decide), hn]
      refine brI (fun z => ?_) (fun z => ?_)
      all_goals first | (exfalso; omega) | skip
      conv => whnf
      rw [iml_e (by omega), iad_e (by omega)]
      refine anI (by omega) ?_
      conv => whnf
      rw [hF.2 78 (by decide), gi.1]
      by_cases hlt : i ≤ 12
      · refine ⟨by omega, m260 (by omega) hT hup.1 hb (by omega) (by omega) (fun hok J2 hF2 hT2 => ?_) (fun hok => ?_)⟩ <;> conv => whnf
        · rw [ei]
          refine ⟨trivial, ih (i + 1) J2 (by omega) (by rw [hse2, if_pos hok]) (upT_s hO hup hok) (fun j hj => ?_) (hF.tr hF2) ?_⟩
          · by_cases w : j = i
            · rw [w]; have := hok.1; omega
            · exact hgi j (by omega)
          · rw [show tDr L + ((i + 1 : Nat) : Int) = tDr L + (i : Int) + 1 by omega]
            exact hT2
        · have := h J hF (fun p q => by rw [hse2, if_neg hok]; have := hT.2.2.2 p q; show J 63 p = (sqP ln L g i p).2; rw [← this])
          rw [hse2, if_neg hok] at this
          exact ⟨trivial, this⟩
      · exfalso
        have := pI_bd (tIn L)
        omega
  refine EvM.go [6] (T := T_261) rfl rfl rfl rfl ?_
  conv => whnf
  refine ⟨by omega, m222T hC (fun J hF hT => ?_)⟩
  conv => whnf
  exact ⟨trivial, loop n.toNat 0 J (Nat.zero_add _) rfl (upT_0 hO g) (fun j hj => absurd hj (Nat.not_lt_zero _)) hF (by rw [show tDr L + ((0 : Nat) : Int) = tDr L by omega]; exact hT)⟩
