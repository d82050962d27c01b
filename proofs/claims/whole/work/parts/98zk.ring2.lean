/-! RINGS of wishes: both alike -/
theorem rgF_0 {L : LT} {one : Int} : ∀ m i : Nat, (∀ j, i ≤ j → j < i + m → itF L one j ≠ one) → rgF L one m i = 0
  | 0, _, _ => rfl
  | m + 1, i, h => by
    show (if itF L one i = one then ((i + 1 : Nat) : Int) else rgF L one m (i + 1)) = 0
    rw [if_neg (h i (Nat.le_refl _) (by omega))]
    exact rgF_0 m (i + 1) (fun j h1 h2 => h j (by omega) (by omega))
theorem rgF_i {L : LT} {one : Int} : ∀ (m i k : Nat), (∀ j, i ≤ j → j < i + k → itF L one j ≠ one) → itF L one (i + k) = one → k < m → rgF L one m i = ((i + k + 1 : Nat) : Int)
  | 0, _, _, _, _, h => absurd h (Nat.not_lt_zero _)
  | m + 1, i, 0, h, he, hk => by
    show (if itF L one i = one then ((i + 1 : Nat) : Int) else rgF L one m (i + 1)) = _
    have he : itF L one i = one := he
    rw [if_pos he]
  | m + 1, i, k + 1, h, he, hk => by
    show (if itF L one i = one then ((i + 1 : Nat) : Int) else rgF L one m (i + 1)) = _
    rw [if_neg (h i (Nat.le_refl _) (by omega)), rgF_i m (i + 1) k (fun j h1 h2 => h j (by omega) (by omega)) (by rw [show i + 1 + k = i + (k + 1) by omega]; exact he) (by omega)]
    rw [show i + 1 + k + 1 = i + (k + 1) + 1 by omega]
theorem rg_ne {L : LT} {one : Int} (h1 : pP one) (h : rgF L one 6 0 ≠ 0) : rnT L one ≠ -1 := by
  intro z
  refine h (rgF_0 6 0 (fun j _ _ => ?_))
  have := itF_m1 (L := L) (one := one) (i := 0) z j
  rw [Nat.zero_add] at this
  rw [this]
  have := h1.1
  omega
theorem x85 {d : Nat} {k : Int} {I : ME} {Q : Option MV → ME → Prop} (hd : 1 ≤ d) (h1 : pP k → Q (some (nt (I 33 k))) I) (h0 : ¬ pP k → Q (some (nt (-2))) I) : EvM d 85 [rf 24, nt k] I Q := by
  refine EvM.go [] (T := T_85) rfl rfl rfl rfl ?_
  conv => whnf
  refine ⟨by omega, x175 (fun z => ?_) (fun z => ?_)⟩ <;> conv => whnf
  · refine anI (by omega) ?_
    conv => whnf
    exact ⟨trivial, h1 z⟩
  · exact ⟨trivial, h0 z⟩
theorem cvT_p {x : Int} (h : x = -1 ∨ pP x) {k : Int} (hk : pP k) : cvT x = k ↔ x = k := by
  unfold cvT
  split <;> omega
theorem x84 {d : Nat} {ln : lz_L} {L : LT} {one : Int} {I : ME} {Q : Option MV → ME → Prop} (hd : 4 ≤ d) (hC : CX ln L I) (h1 : pP one)
    (h : ∀ J, Fr [33] I J → CX ln L J → (∀ p, pP p → J 33 p = cvT (rnT L p)) → Q (some (nt (rgF L one 6 0))) J) : EvM d 84 [rf 24, nt one] I Q := by
  have f := hC.f
  have hO := hC.2.1
  have g := hO.f
  -- the third walk
  have loop3 : ∀ (m i : Nat) (o : Int) (J : ME), i + m = 6 → Fr [33] I J → CX ln L J → (∀ p, pP p → J 33 p = cvT (rnT L p)) → rgF L one 6 0 = rgF L one m i → Ev d 84 95 [some (rf 24), some (nt one), some (nt o), some (nt (cvT (itF L one i))), some (nt ((i + 1 : Nat) : Int))] [] J Q := by
    intro m
    induction m with
    | zero =>
      intro i o J hi hF hX h33 hrg
      refine Ev.go [] (T := T_84) rfl rfl ?_
      conv => whnf
      refine brI (fun z => ?_) (fun z => ?_)
      all_goals first | (exfalso; omega) | skip
      conv => whnf
      have := h J hF hX h33
      rw [hrg] at this
      exact ⟨trivial, this⟩
    | succ m ih =>
      intro i o J hi hF hX h33 hrg
      have hp := itF_p hO h1 i
      have ei : iad ((i + 1 : Nat) : Int) 1 = ((i + 1 + 1 : Nat) : Int) := by rw [iad_e (by omega)]; rfl
      have hrg2 : rgF L one 6 0 = if itF L one i = one then ((i + 1 : Nat) : Int) else rgF L one m (i + 1) := hrg
      refine Ev.go [95] (T := T_84) rfl rfl ?_
      conv => whnf
      refine brI (fun z => ?_) (fun z => ?_)
      all_goals first | (exfalso; omega) | skip
      conv => whnf
      refine brI (fun z1 => ?_) (fun z1 => ?_) <;> conv => whnf
      all_goals rw [cvT_p hp h1] at z1
      · have := h J hF hX h33
        rw [hrg2, if_pos z1] at this
        exact ⟨trivial, this⟩
      · rw [if_neg z1] at hrg2
        refine ⟨by omega, x85 (by omega) (fun z2 => ?_) (fun z2 => ?_)⟩ <;> conv => whnf
        · have hne : itF L one i ≠ -1 := fun w => by
            rw [w] at z2; unfold cvT at z2; rw [if_pos rfl] at z2; have := z2.1; omega
          have e1 : cvT (itF L one i) = itF L one i := by unfold cvT; rw [if_neg hne]
          rw [e1] at z2 ⊢
          rw [h33 _ z2, ei]
          have e2 : itF L one (i + 1) = rnT L (itF L one i) := if_neg hne
          refine ⟨trivial, ?_⟩
          rw [← e2]
          exact ih (i + 1) o J (by omega) hF hX h33 hrg2
        · have hne : itF L one i = -1 := by
            refine Classical.byContradiction (fun w => z2 ?_)
            unfold cvT
            rw [if_neg w]
            exact hp.resolve_left w
          have e2 : itF L one (i + 1) = -1 := if_pos hne
          have := ih (i + 1) o J (by omega) hF hX h33 hrg2
          rw [e2] at this
          rw [ei]
          exact ⟨trivial, this⟩
  have loop2 : ∀ (r k : Nat) (o : Int) (x : Option MV) (J : ME), k + r = 6 → (∀ t, 0 ≤ t → t < tSz L → (hasb o t ↔ ofP L t)) → Fr [33] I J → CX ln L J → (∀ p : Int, 0 ≤ p → p < k → J 33 p = cvT (rnT L p)) → Ev d 84 39 [some (rf 24), some (nt one), some (nt o), some (nt (k : Int)), x] [] J Q := by
    intro r
    induction r with
    | zero =>
      intro k o x J hr ho hF hX h33
      have h33' : ∀ p, pP p → J 33 p = cvT (rnT L p) := fun p hp => h33 p hp.1 (by have := hp.2; omega)
      refine Ev.go [95] (T := T_84) rfl rfl ?_
      conv => whnf
      refine brI (fun z => ?_) (fun z => ?_)
      all_goals first | (exfalso; omega) | skip
      conv => whnf
      refine ⟨by omega, x85 (by omega) (fun _ => ?_) (fun z2 => absurd h1 z2)⟩
      rw [h33' one h1]
      conv => whnf
      exact ⟨trivial, loop3 6 0 o J rfl hF hX h33' rfl⟩
    | succ r ih =>
      intro k o x J hr ho hF hX h33
      have hk : pP (k : Int) := by omega
      have fj := hX.f
      have ei : iad (k : Int) 1 = ((k + 1 : Nat) : Int) := by rw [iad_e (by omega)]; rfl
      have hw := wiF_p (L := L) (k := (k : Int)) (tSz L).toNat
      have nx : ∀ (V : Int) (x : Option MV), V = cvT (rnT L (k : Int)) → Ev d 84 39 [some (rf 24), some (nt one), some (nt o), some (nt (iad (k : Int) 1)), x] [] (upd_ J 33 (k : Int) V) Q := fun V x hV => by
        rw [ei]
        refine ih (k + 1) o x _ (by omega) ho (fr_up hF (by decide)) (hX.fr (fun c hc => up_c (by omega))) (fun p p0 p1 => ?_)
        rw [up_any]
        by_cases w : p = (k : Int)
        · rw [if_pos w, w]; exact hV
        · rw [if_neg w]; exact h33 p p0 (by omega)
      refine Ev.go [39] (T := T_84) rfl rfl ?_
      conv => whnf
      refine brI (fun z => ?_) (fun z => ?_)
      all_goals first | (exfalso; omega) | skip
      conv => whnf
      refine ⟨by omega, x50 (by omega) (by omega) (by omega) ?_⟩
      rw [heC_hl hX (k : Int)]
      conv => whnf
      refine brI (fun z1 => ?_) (fun z1 => ?_) <;> conv => whnf
      · refine anI (by omega) ?_
        conv => whnf
        have hw0 : wiF L (k : Int) (tSz L).toNat = -1 := by
          rcases hw with w | w
          · exact w.1
          · unfold hlL at z1; have := w.2.2; omega
        have e1 : rnT L (k : Int) = -1 := if_pos hw0
        exact ⟨trivial, nx (-2) _ (by rw [e1]; rfl)⟩
      · have hw0 : wiF L (k : Int) (tSz L).toNat ≠ -1 := fun w => by
          rcases hw with w' | w'
          · unfold hlL at z1; rw [w'.2] at z1; exact z1 rfl
          · rw [w] at w'; have := w'.1.1; omega
        have hin := waF_in hO (k' := (k : Int)) hk hw0
        have e0 : cvT (waF L (k : Int) (tSz L).toNat) = waF L (k : Int) (tSz L).toNat := by unfold cvT; rw [if_neg (by omega)]
        refine ⟨by omega, x87 (by omega) hX hk ho ?_⟩
        rw [e0]
        conv => whnf
        refine ⟨by omega, x44L (by omega) hX hin.1 ?_⟩
        conv => whnf
        refine anI (by omega) ?_
        conv => whnf
        have e1 : rnT L (k : Int) = tHo L (waF L (k : Int) (tSz L).toNat) := if_neg hw0
        refine ⟨trivial, nx _ _ ?_⟩
        rw [e1]
        unfold cvT
        rw [if_neg (by have := hin.2.2.1; omega)]
  have loop1 : ∀ (r k : Nat) (o : Int) (x : Option MV), k + r = 6 → (0 ≤ o ∧ o < 4096) → (∀ t, 0 ≤ t → t < 12 → (hasb o t ↔ ∃ k' : Int, 0 ≤ k' ∧ k' < k ∧ wiF L k' (tSz L).toNat = t)) → Ev d 84 4 [some (rf 24), some (nt one), some (nt o), some (nt (k : Int)), x] [] I Q := by
    intro r
    induction r with
    | zero =>
      intro k o x hr ho hb
      refine Ev.go [39] (T := T_84) rfl rfl ?_
      conv => whnf
      refine brI (fun z => ?_) (fun z => ?_)
      all_goals first | (exfalso; omega) | skip
      conv => whnf
      refine ⟨trivial, loop2 6 0 o _ I rfl (fun t t0 t1 => ?_) Fr.rfl' hC (fun p p0 p1 => by exfalso; omega)⟩
      rw [hb t t0 (by omega)]
      constructor
      · rintro ⟨k', h0, h6, hw⟩
        rcases wiF_p (L := L) (k := k') (tSz L).toNat with w | w
        · omega
        · rw [hw] at w
          exact ⟨w.2.1.1, by rw [w.2.1.2]; omega, by rw [w.2.1.2]; exact hw⟩
      · rintro ⟨a, b, c⟩
        exact ⟨tHo L t, b.1, by omega, c⟩
    | succ r ih =>
      intro k o x hr ho hb
      have hk : pP (k : Int) := by omega
      have ei : iad (k : Int) 1 = ((k + 1 : Nat) : Int) := by rw [iad_e (by omega)]; rfl
      have hw := wiF_p (L := L) (k := (k : Int)) (tSz L).toNat
      refine Ev.go [4] (T := T_84) rfl rfl ?_
      conv => whnf
      refine brI (fun z => ?_) (fun z => ?_)
      all_goals first | (exfalso; omega) | skip
      conv => whnf
      refine ⟨by omega, x86 (by omega) hC hk ?_⟩
      conv => whnf
      refine brI (fun z1 => ?_) (fun z1 => ?_) <;> conv => whnf
      · have hw0 : wiF L (k : Int) (tSz L).toNat = -1 := by unfold cvT at z1; split at z1 <;> omega
        rw [ei]
        refine ⟨trivial, ih (k + 1) o _ (by omega) ho (fun t t0 t1 => ?_)⟩
        rw [hb t t0 t1]
        constructor
        · rintro ⟨k', a, b, c⟩; exact ⟨k', a, by omega, c⟩
        · rintro ⟨k', a, b, c⟩
          refine ⟨k', a, ?_, c⟩
          have : k' ≠ (k : Int) := fun e => by rw [e, hw0] at c; omega
          omega
      · have hw0 : wiF L (k : Int) (tSz L).toNat ≠ -1 := fun w => z1 (by rw [w]; rfl)
        have e0 : cvT (wiF L (k : Int) (tSz L).toNat) = wiF L (k : Int) (tSz L).toNat := by unfold cvT; rw [if_neg hw0]
        have hr' := hw.resolve_left (fun w => hw0 w.1)
        rw [e0, ei]
        have i1 := isl_b (t := wiF L (k : Int) (tSz L).toNat) hr'.1.1 (by omega)
        have i2 := iro_b (s := o) (b := isl 1 (wiF L (k : Int) (tSz L).toNat)) ho.1 ho.2 (by omega) (by omega)
        refine ⟨trivial, ih (k + 1) _ _ (by omega) i2.1 (fun t t0 t1 => ?_)⟩
        rw [i2.2 t t0 (by omega), i1.2 t t0 (by omega), hb t t0 t1]
        constructor
        · rintro (⟨k', a, b, c⟩ | a)
          · exact ⟨k', a, by omega, c⟩
          · exact ⟨(k : Int), by omega, by omega, a.symm⟩
        · rintro ⟨k', a, b, c⟩
          by_cases e : k' = (k : Int)
          · exact Or.inr (by rw [← e]; exact c.symm)
          · exact Or.inl ⟨k', a, by omega, c⟩
  refine EvM.go [4] (T := T_84) rfl rfl rfl rfl ?_
  conv => whnf
  exact ⟨trivial, loop1 6 0 0 none rfl (by omega) (fun t t0 t1 => ⟨fun q => absurd q (hb_0 t0 (by omega)), fun q => by obtain ⟨k', a, b, c⟩ := q; exfalso; omega⟩)⟩
theorem m256 {d : Nat} {ln : lz_L} {L : LT} {k : Int} {I : ME} {Q : Option MV → ME → Prop} (hd : 1 ≤ d) (hC : MX ln L I) (hk : pP k) (h : Q (some (nt (wiF L k (tSz L).toNat))) I) : EvM d 256 [rf 53, nt k] I Q := by
  have f := hC.f
  have hO := hC.1
  have g := hO.f
  have loop : ∀ (r i : Nat) (x : Option MV), i + r = (tSz L).toNat → Ev d 256 4 [some (rf 53), some (nt k), some (nt (wiF L k i)), some (nt (i : Int)), x] [] I Q := by
    intro r
    induction r with
    | zero =>
      intro i x hi
      refine Ev.go [] (T := T_256) rfl rfl ?_
      conv => whnf
      rw [f.1]
      refine brI (fun z => ?_) (fun z => ?_)
      all_goals first | (exfalso; omega) | skip
      conv => whnf
      have e : i = (tSz L).toNat := by omega
      subst e
      exact ⟨trivial, h⟩
    | succ r ih =>
      intro i x hi
      have hi12 : (i : Int) < 12 := by omega
      have ei : iad (i : Int) 1 = ((i + 1 : Nat) : Int) := by rw [iad_e (by omega)]; rfl
      have hp := wiF_p (L := L) (k := k) i
      have gT := hC.t (t := (i : Int)) (by omega) hi12
      have hT := (hO.t (t := (i : Int)) (by omega) hi12).1
      have same : ∀ x, (¬ ((hasb (tIn L) (i : Int) ∧ tHo L (i : Int) = k) ∧ (wiF L k i = -1 ∨ lvT L k (wiF L k i) < lvT L k (i : Int)))) → Ev d 256 4 [some (rf 53), some (nt k), some (nt (wiF L k i)), some (nt (iad (i : Int) 1)), x] [] I Q := fun x hn => by
        have e : wiF L k (i + 1) = wiF L k i := if_neg hn
        rw [ei, ← e]
        exact ih (i + 1) x (by omega)
      have new : ∀ x, ((hasb (tIn L) (i : Int) ∧ tHo L (i : Int) = k) ∧ (wiF L k i = -1 ∨ lvT L k (wiF L k i) < lvT L k (i : Int))) → Ev d 256 4 [some (rf 53), some (nt k), some (nt (i : Int)), some (nt (iad (i : Int) 1)), x] [] I Q := fun x hn => by
        have e : wiF L k (i + 1) = (i : Int) := if_pos hn
        have := ih (i + 1) x (by omega)
        rw [e] at this
        rw [ei]
        exact this
      refine Ev.go [4] (T := T_256) rfl rfl ?_
      conv => whnf
      rw [f.1]
      refine brI (fun z => ?_) (fun z => ?_)
      all_goals first | (exfalso; omega) | skip
      conv => whnf
      rw [f.2.1]
      refine ⟨by omega, m188 (fun z1 => ?_) (fun z1 => ?_)⟩ <;> conv => whnf
      · refine ⟨by omega, m198 (by omega) hi12 ?_⟩
        rw [gT.2.1]
        conv => whnf
        refine brI (fun z2 => ?_) (fun z2 => ?_) <;> conv => whnf
        · refine brI (fun z3 => ?_) (fun z3 => ?_) <;> conv => whnf
          · exact ⟨trivial, new _ ⟨⟨z1, z2⟩, Or.inl (by rcases hp with w | w; exact w.1; have := w.1.1; omega)⟩⟩
          · have hr := hp.resolve_left (fun w => by have := w.1; omega)
            have hb12 : wiF L k i < 12 := by omega
            have gB := hC.t hr.1.1 hb12
            have hB := (hO.t hr.1.1 hb12).1
            refine ⟨by omega, m197 (by omega) hi12 ?_⟩
            rw [gT.1]
            conv => whnf
            refine ⟨by omega, m200 hk.1 hk.2 hT.1 hT.2 ?_⟩
            rw [hC.lv (by omega) (by omega)]
            conv => whnf
            refine ⟨by omega, m197 hr.1.1 hb12 ?_⟩
            rw [gB.1]
            conv => whnf
            refine ⟨by omega, m200 hk.1 hk.2 hB.1 hB.2 ?_⟩
            rw [hC.lv (by omega) (by omega)]
            conv => whnf
            refine brI (fun z4 => ?_) (fun z4 => ?_) <;> conv => whnf
            · exact ⟨trivial, new _ ⟨⟨z1, z2⟩, Or.inr z4⟩⟩
            · exact ⟨trivial, same _ (fun w => w.2.elim (fun w => by omega) z4)⟩
        · exact ⟨trivial, same _ (fun w => z2 w.1.2)⟩
      · exact ⟨trivial, same _ (fun w => z1 w.1.1)⟩
  refine EvM.go [4] (T := T_256) rfl rfl rfl rfl ?_
  conv => whnf
  exact ⟨trivial, loop _ 0 none (Nat.zero_add _)⟩
theorem m257 {d : Nat} {ln : lz_L} {L : LT} {k : Int} {I : ME} {Q : Option MV → ME → Prop} (hd : 2 ≤ d) (hC : MX ln L I) (hk : pP k) (h : Q (some (nt (rnT L k))) I) : EvM d 257 [rf 53, nt k] I Q := by
  have f := hC.f
  have hO := hC.1
  have g := hO.f
  have loop : ∀ (r i : Nat) (x : Option MV), wiF L k (tSz L).toNat ≠ -1 → i + r = (tSz L).toNat → Ev d 257 14 [some (rf 53), some (nt k), some (nt (waF L k i)), some (nt (i : Int)), x] [] I Q := by
    intro r
    induction r with
    | zero =>
      intro i x hw hi
      refine Ev.go [] (T := T_257) rfl rfl ?_
      conv => whnf
      rw [f.1]
      refine brI (fun z => ?_) (fun z => ?_)
      all_goals first | (exfalso; omega) | skip
      conv => whnf
      have e : i = (tSz L).toNat := by omega
      subst e
      have hin := waF_in hO (k' := k) hk hw
      have hb12 : waF L k (tSz L).toNat < 12 := by omega
      refine ⟨by omega, m198 hin.1.1 hb12 ?_⟩
      rw [(hC.t hin.1.1 hb12).2.1]
      conv => whnf
      have e1 : rnT L k = tHo L (waF L k (tSz L).toNat) := if_neg hw
      rw [e1] at h
      exact ⟨trivial, h⟩
    | succ r ih =>
      intro i x hw hi
      have hi12 : (i : Int) < 12 := by omega
      have ei : iad (i : Int) 1 = ((i + 1 : Nat) : Int) := by rw [iad_e (by omega)]; rfl
      have hp := waF_p (L := L) (k := k) i
      have gT := hC.t (t := (i : Int)) (by omega) hi12
      have hTT := hO.t (t := (i : Int)) (by omega) hi12
      have hT := hTT.1
      have same : ∀ x, (¬ (ofP L (i : Int) ∧ (waF L k i = -1 ∨ lvT L k (i : Int) < lvT L k (waF L k i)))) → Ev d 257 14 [some (rf 53), some (nt k), some (nt (waF L k i)), some (nt (iad (i : Int) 1)), x] [] I Q := fun x hn => by
        have e : waF L k (i + 1) = waF L k i := if_neg hn
        rw [ei, ← e]
        exact ih (i + 1) x hw (by omega)
      have new : ∀ x, (ofP L (i : Int) ∧ (waF L k i = -1 ∨ lvT L k (i : Int) < lvT L k (waF L k i))) → Ev d 257 14 [some (rf 53), some (nt k), some (nt (i : Int)), some (nt (iad (i : Int) 1)), x] [] I Q := fun x hn => by
        have e : waF L k (i + 1) = (i : Int) := if_pos hn
        have := ih (i + 1) x hw (by omega)
        rw [e] at this
        rw [ei]
        exact this
      refine Ev.go [14] (T := T_257) rfl rfl ?_
      conv => whnf
      rw [f.1]
      refine brI (fun z => ?_) (fun z => ?_)
      all_goals first | (exfalso; omega) | skip
      conv => whnf
      rw [f.2.1]
      refine ⟨by omega, m188 (fun z1 => ?_) (fun z1 => ?_)⟩ <;> conv => whnf
      · refine ⟨by omega, m198 (by omega) hi12 ?_⟩
        rw [gT.2.1]
        conv => whnf
        refine brI (fun z2 => ?_) (fun z2 => ?_) <;> conv => whnf
        · exact ⟨trivial, same _ (fun w => by have := w.1.2.1.1; omega)⟩
        · have hh : pP (tHo L (i : Int)) := hTT.2.1.resolve_left (by omega)
          refine ⟨by omega, m198 (by omega) hi12 ?_⟩
          rw [gT.2.1]
          conv => whnf
          refine ⟨by omega, m256 (by omega) hC hh ?_⟩
          conv => whnf
          refine brI (fun z3 => ?_) (fun z3 => ?_) <;> conv => whnf
          · have hof : ofP L (i : Int) := ⟨z1, hh, z3⟩
            refine brI (fun z4 => ?_) (fun z4 => ?_) <;> conv => whnf
            · exact ⟨trivial, new _ ⟨hof, Or.inl (by rcases hp with w | w; exact w.1; have := w.1.1; omega)⟩⟩
            · have hr := hp.resolve_left (fun w => by have := w.1; omega)
              have hb12 : waF L k i < 12 := by omega
              have gB := hC.t hr.1.1 hb12
              have hB := (hO.t hr.1.1 hb12).1
              refine ⟨by omega, m197 (by omega) hi12 ?_⟩
              rw [gT.1]
              conv => whnf
              refine ⟨by omega, m200 hk.1 hk.2 hT.1 hT.2 ?_⟩
              rw [hC.lv (by omega) (by omega)]
              conv => whnf
              refine ⟨by omega, m197 hr.1.1 hb12 ?_⟩
              rw [gB.1]
              conv => whnf
              refine ⟨by omega, m200 hk.1 hk.2 hB.1 hB.2 ?_⟩
              rw [hC.lv (by omega) (by omega)]
              conv => whnf
              refine brI (fun z5 => ?_) (fun z5 => ?_) <;> conv => whnf
              · exact ⟨trivial, new _ ⟨hof, Or.inr z5⟩⟩
              · exact ⟨trivial, same _ (fun w => w.2.elim (fun w => by omega) z5)⟩
          · exact ⟨trivial, same _ (fun w => z3 w.1.2.2)⟩
      · exact ⟨trivial, same _ (fun w => z1 w.1.1)⟩
  refine EvM.go [14] (T := T_257) rfl rfl rfl rfl ?_
  conv => whnf
  refine ⟨by omega, m256 (by omega) hC hk ?_⟩
  conv => whnf
  have hw := wiF_p (L := L) (k := k) (tSz L).toNat
  refine brI (fun z => ?_) (fun z => ?_) <;> conv => whnf
  · have hw0 : wiF L k (tSz L).toNat = -1 := by rcases hw with w | w; exact w.1; have := w.1.1; omega
    have e1 : rnT L k = -1 := if_pos hw0
    rw [e1] at h
    exact ⟨trivial, h⟩
  · exact ⟨trivial, loop _ 0 none (by omega) (Nat.zero_add _)⟩
def F21 (k w : Int) (ln : lz_L) (L : LT) : Int := if pP k ∧ 0 ≤ w ∧ w ≤ 1 then (if w = 0 then rgF L k 6 0 else if rgF L k 6 0 = 0 then -2 else rnT L k) else -1
theorem op21 {k w : Int} : Op3 151 258 [nt k, nt w] nt := by
  refine Op3.mk (F := F21 k w) (fun ln L I Q hX h27 h => ?_) (fun ln L I Q hM h => ?_)
  · have hO := hX.2.1
    have no : (¬ (pP k ∧ 0 ≤ w ∧ w ≤ 1)) → Q (some (nt (-1))) I := fun hn => by
      have := h I Fr.rfl' hX h27
      unfold F21 at this
      rw [if_neg hn] at this
      exact this
    refine EvM.go [] (T := T_151) rfl rfl rfl rfl ?_
    conv => whnf
    refine ⟨by omega, x175 (fun hk => ?_) (fun hk => ?_)⟩ <;> conv => whnf
    · refine brI (fun z => ?_) (fun z => ?_) <;> conv => whnf
      · exact ⟨trivial, no (fun r => by omega)⟩
      · refine brI (fun z1 => ?_) (fun z1 => ?_) <;> conv => whnf
        · exact ⟨trivial, no (fun r => by omega)⟩
        · refine ⟨by omega, x84 (by omega) hX hk (fun J hF hX2 h33 => ?_)⟩
          conv => whnf
          have hJ := h J (hF.sub (by decide)) hX2 (by rw [hF 27 (by decide)]; exact h27)
          unfold F21 at hJ
          rw [if_pos ⟨hk, by omega, by omega⟩] at hJ
          refine brI (fun z2 => ?_) (fun z2 => ?_) <;> conv => whnf
          · rw [if_pos z2] at hJ; exact ⟨trivial, hJ⟩
          · rw [if_neg z2] at hJ
            refine brI (fun z3 => ?_) (fun z3 => ?_) <;> conv => whnf
            · rw [if_pos z3] at hJ; exact ⟨trivial, hJ⟩
            · rw [if_neg z3] at hJ
              refine ⟨by omega, x85 (by omega) (fun _ => ?_) (fun q => absurd hk q)⟩
              rw [h33 k hk, show cvT (rnT L k) = rnT L k by unfold cvT; rw [if_neg (rg_ne hk z3)]]
              conv => whnf
              exact ⟨trivial, hJ⟩
    · exact ⟨trivial, no (fun r => hk r.1)⟩
  · have f := hM.f
    have hO := hM.1
    have g := hO.f
    have no : (¬ (pP k ∧ 0 ≤ w ∧ w ≤ 1)) → Q (some (nt (-1))) I := fun hn => by
      have := h I mF.rfl'
      unfold F21 at this
      rw [if_neg hn] at this
      exact this
    have hJ := h I mF.rfl'
    have tail : ∀ (i : Nat) (x : Option MV), pP k → (0 ≤ w ∧ w ≤ 1) → (itF L k i = k ∧ rgF L k 6 0 = ((i + 1 : Nat) : Int) ∨ itF L k i ≠ k ∧ rgF L k 6 0 = 0) → Ev 799 258 57 [some (rf 53), some (nt k), some (nt w), some (nt (itF L k i)), some (nt ((i + 1 : Nat) : Int)), x] [] I Q := by
      intro i x hk hw hc
      unfold F21 at hJ
      rw [if_pos ⟨hk, hw⟩] at hJ
      refine Ev.go [] (T := T_258) rfl rfl ?_
      conv => whnf
      refine brI (fun z => ?_) (fun z => ?_) <;> conv => whnf
      · have e := (hc.resolve_right (fun q => q.1 z)).2
        rw [e] at hJ
        refine brI (fun z2 => ?_) (fun z2 => ?_) <;> conv => whnf
        · rw [if_pos z2] at hJ; exact ⟨trivial, hJ⟩
        · rw [if_neg z2, if_neg (by omega)] at hJ
          refine ⟨by omega, m257 (by omega) hM hk ?_⟩
          conv => whnf
          exact ⟨trivial, hJ⟩
      · have e := (hc.resolve_left (fun q => z q.1)).2
        rw [e] at hJ
        refine brI (fun z2 => ?_) (fun z2 => ?_) <;> conv => whnf
        · rw [if_pos z2] at hJ; exact ⟨trivial, hJ⟩
        · rw [if_neg z2, if_pos rfl] at hJ; exact ⟨trivial, hJ⟩
    have loop : ∀ (m i : Nat) (x : Option MV), i + m = 6 → pP k → (0 ≤ w ∧ w ≤ 1) → (∀ j, j < i → itF L k j ≠ k) → Ev 799 258 29 [some (rf 53), some (nt k), some (nt w), some (nt (itF L k i)), some (nt ((i + 1 : Nat) : Int)), x] [] I Q := by
      intro m
      induction m with
      | zero =>
        intro i x hi hk hw hj
        have e : i = 6 := by omega
        have h6 : itF L k i ≠ k := by rw [e]; exact rn_6 hO hk (fun j h => hj j (by omega))
        have hr0 : rgF L k 6 0 = 0 := rgF_0 6 0 (fun j _ h2 => hj j (by omega))
        refine Ev.go [57] (T := T_258) rfl rfl ?_
        conv => whnf
        refine brI (fun z => ?_) (fun z => ?_) <;> conv => whnf
        · exact ⟨trivial, tail i x hk hw (Or.inr ⟨h6, hr0⟩)⟩
        · refine brI (fun z2 => ?_) (fun z2 => ?_) <;> conv => whnf
          · exact absurd z2 h6
          · refine brI (fun z3 => ?_) (fun z3 => ?_)
            all_goals first | (exfalso; omega) | skip
            conv => whnf
            exact ⟨trivial, tail i x hk hw (Or.inr ⟨h6, hr0⟩)⟩
      | succ m ih =>
        intro i x hi hk hw hj
        have hp := itF_p hO hk i
        have ei : iad ((i + 1 : Nat) : Int) 1 = ((i + 1 + 1 : Nat) : Int) := by rw [iad_e (by omega)]; rfl
        refine Ev.go [29, 57] (T := T_258) rfl rfl ?_
        conv => whnf
        refine brI (fun z => ?_) (fun z => ?_) <;> conv => whnf
        · have h1 : itF L k i = -1 := by rcases hp with q | q; exact q; have := q.1; omega
          refine ⟨trivial, tail i x hk hw (Or.inr ⟨by rw [h1]; have := hk.1; omega, rgF_0 6 0 (fun j _ h2 => ?_)⟩)⟩
          by_cases q : j < i
          · exact hj j q
          · have := itF_m1 h1 (j - i)
            rw [show i + (j - i) = j by omega] at this
            rw [this]
            have := hk.1
            omega
        · have hpp : pP (itF L k i) := hp.resolve_left (by omega)
          refine brI (fun z2 => ?_) (fun z2 => ?_) <;> conv => whnf
          · refine ⟨trivial, tail i x hk hw (Or.inl ⟨z2, ?_⟩)⟩
            have := rgF_i (L := L) (one := k) 6 0 i (fun j _ h2 => hj j (by omega)) (by rw [Nat.zero_add]; exact z2) (by omega)
            rw [Nat.zero_add] at this
            exact this
          · refine brI (fun z3 => ?_) (fun z3 => ?_)
            all_goals first | (exfalso; omega) | skip
            conv => whnf
            refine ⟨by omega, m257 (by omega) hM hpp ?_⟩
            conv => whnf
            have e2 : itF L k (i + 1) = rnT L (itF L k i) := if_neg (by omega)
            rw [ei, ← e2]
            refine ⟨trivial, ih (i + 1) x (by omega) hk hw (fun j hj2 => ?_)⟩
            by_cases q : j = i
            · rw [q]; exact z2
            · exact hj j (by omega)
    refine EvM.go [29] (T := T_258) rfl rfl rfl rfl ?_
    conv => whnf
    refine ⟨by omega, m195 (by omega) (fun hk => ?_) (fun hk => ?_)⟩ <;> conv => whnf
    · refine ⟨by omega, m187 (fun hw => ?_) (fun hw => ?_)⟩ <;> conv => whnf
      · refine ⟨by omega, m257 (by omega) hM hk ?_⟩
        conv => whnf
        exact ⟨trivial, loop 6 0 none rfl hk hw (fun j hj => absurd hj (Nat.not_lt_zero _))⟩
      · exact ⟨trivial, no (fun r => hw r.2)⟩
    · exact ⟨trivial, no (fun r => hk r.1)⟩
