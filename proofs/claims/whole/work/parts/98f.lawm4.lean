/-! THE MODEL'S LAW: levels, more -/
theorem both_C {d n : Nat} {b : Nat → Int} {g0 : Nat → lz_R} {D : Nat} {o : Int} (hd : 2 ≤ d) (hg : evL b n (lz_ch b n g0 3)) (h : evC d 215 b n (lz_ch b n g0 3) D o) : evC (d + 1) 214 b n (lz_ch b n g0 4) (D + 1) o := by
  have ex : ∀ (J : ME) (v : Int) (t : Option Int) (Q : Option MV → ME → Prop), 0 ≤ J 53 17 → Q (some (nt v)) J → Ev (d + 1) 214 5 [some (rf 53), some (nt v), t.map nt] [] J Q := by
    intro J v t Q hf hQ
    refine Ev.go [] (T := T_214) rfl rfl ?_
    cases t
    all_goals
      conv => whnf
      refine ⟨by omega, m212x hf ?_⟩
      conv => whnf
      exact ⟨trivial, hQ⟩
  have loop : ∀ (I : ME), evA b n I → ∀ (m a : Nat) (c : List Int) (v : Int) (t : Option Int) (J : ME), evF I J → evS J a o → a ≤ n → n ≤ a + m → lz_V (I 61) c v (D + 1) → Ev (d + 1) 214 5 [some (rf 53), some (nt v), t.map nt] [] J (fun w J' => ∃ v', w = some (nt v') ∧ evP I (D + 1) o (lz_lp b n (lz_ch b n g0 3) 3 m a c) v' J') := by
    intro I hA m
    have h120 := hA.2.2
    induction m with
    | zero =>
      intro a c v t J hF hS ha hm hV
      have hs := lz_sg_end (b := b) (j := 3) (show n ≤ a by omega)
      rw [lz_lp_n hs]
      refine Ev.go [] (T := T_214) rfl rfl ?_
      cases t
      all_goals
        conv => whnf
        refine ⟨by omega, m212 (by omega) (hA.mv hF) hS (fun q => ?_) (fun q => ?_) (by omega)⟩ <;> conv => whnf
        · exfalso; rw [q] at hs; revert hs; decide
        · exact ⟨trivial, v, rfl, evP.ok hF hS hV⟩
    | succ m ih =>
      intro a c v t J hF hS ha hm hV
      cases hs : lz_sg 3 (lz_by b n a) with
      | false =>
        rw [lz_lp_n hs]
        refine Ev.go [] (T := T_214) rfl rfl ?_
        cases t
        all_goals
          conv => whnf
          refine ⟨by omega, m212 (by omega) (hA.mv hF) hS (fun q => ?_) (fun q => ?_) (by omega)⟩ <;> conv => whnf
          · exfalso; rw [q] at hs; revert hs; decide
          · exact ⟨trivial, v, rfl, evP.ok hF hS hV⟩
      | true =>
        rw [lz_lp_s hs]
        have hc3 : lz_by b n a = 38 := by
          unfold lz_sg at hs
          exact of_decide_eq_true hs
        have hlt := lz_by_lt (b := b) (n := n) (a := a) (by omega)
        have hJF : evF I (upd_ J 53 15 ((a + 1 : Nat) : Int)) := hF.up (Or.inl rfl)
        have hJS : evS (upd_ J 53 15 ((a + 1 : Nat) : Int)) (a + 1) o := ⟨up_eq _ _ _ _, by rw [up_ne (by decide)]; exact hS.2.1, by rw [up_ne (by decide)]; exact hS.2.2⟩
        have hsub := h (upd_ J 53 15 ((a + 1 : Nat) : Int)) (a + 1) (hA.mv hJF) hJS (by omega)
        have e61 : (upd_ J 53 15 ((a + 1 : Nat) : Int)) 61 = I 61 := hJF.2 61 (by decide)
        have hbd := hg (a + 1) (by omega)
        have aft : ∀ (w : Int) (J2 : ME), evP (upd_ J 53 15 ((a + 1 : Nat) : Int)) D o (lz_ch b n g0 3 (a + 1)) w J2 → ∀ (v2 : Int), v2 = lz_jn (lz_by b n a) v w → Ev (d + 1) 214 5 [some (rf 53), some (nt v2), some (nt w)] [] J2 (fun w J' => ∃ v', w = some (nt v') ∧ evP I (D + 1) o (match lz_ch b n g0 3 (a + 1) with
      | (true, a', c') => lz_lp b n (lz_ch b n g0 3) 3 m a' (c ++ c' ++ [-(lz_by b n a)])
      | (false, a', _) => (false, a', [])) v' J') := by
          intro w J2
          revert hbd
          match lz_ch b n g0 3 (a + 1) with
          | (true, a', c') =>
            intro hbd hP v2 hv2
            obtain ⟨p1, p2, -⟩ := hP
            obtain ⟨p2, p3⟩ := p2 rfl
            rw [e61] at p3
            obtain ⟨b1, b2, b3⟩ := hbd
            have b1 : a + 1 ≤ a' := b1
            have b2 : a' ≤ n := b2
            have hF2 := hJF.tr p1
            subst hv2
            exact ih a' _ _ (some w) J2 hF2 p2 b2 (by omega) (lz_V_on hs hV p3)
          | (false, a', c') =>
            intro hbd hP v2 hv2
            obtain ⟨p1, -, p2⟩ := hP
            obtain ⟨p2, p3⟩ := p2 rfl
            have p2 : J2 53 17 = (a' : Int) := p2
            have hF2 := hJF.tr p1
            exact ex J2 _ (some w) _ (by omega) ⟨_, rfl, evP.no hF2 p2 p3⟩
        refine Ev.go [5] (T := T_214) rfl rfl ?_
        cases t
        all_goals
          conv => whnf
          refine ⟨by omega, m212 (by omega) (hA.mv hF) hS (fun _ => ?_) (fun q => absurd hc3 q) (by omega)⟩
          conv => whnf
          refine ⟨by omega, hsub.mono fun w J2 hw => ?_⟩
          obtain ⟨w, rfl, hP⟩ := hw
          have aft := aft w J2 hP
          conv => whnf
          repeat' first
            | (refine brI (fun _ => ?_) (fun _ => ?_) <;> conv => whnf)
            | fail
          all_goals
            refine ⟨trivial, aft _ ?_⟩
            rw [hc3]
            first
              | (show (0 : Int) = if _ then 0 else 1; rw [if_pos (by omega)])
              | (show (1 : Int) = if _ then 0 else 1; rw [if_neg (by omega)])
  intro I a hA hS ha
  have hsub := h I a hA hS ha
  have hbd := hg a ha
  refine EvM.go [5] (T := T_214) rfl rfl rfl rfl ?_
  conv => whnf
  refine ⟨by omega, hsub.mono fun w J hw => ?_⟩
  obtain ⟨v, rfl, hP⟩ := hw
  conv => whnf
  refine ⟨trivial, ?_⟩
  revert hP hbd
  have ech : lz_ch b n g0 4 a = (match lz_ch b n g0 3 a with
    | (true, a', c) => lz_lp b n (lz_ch b n g0 3) 3 n a' c
    | (false, a', _) => (false, a', [])) := rfl
  rw [ech]
  match lz_ch b n g0 3 a with
  | (true, a', c') =>
    intro hbd hP
    obtain ⟨p1, p2, -⟩ := hP
    obtain ⟨p2, p3⟩ := p2 rfl
    have b2 : a' ≤ n := hbd.2.1
    exact loop I hA n a' c' v none J p1 p2 b2 (by omega) (p3.mono (by omega))
  | (false, a', c') =>
    intro hbd hP
    obtain ⟨p1, -, p2⟩ := hP
    obtain ⟨p2, p3⟩ := p2 rfl
    have p2 : J 53 17 = (a' : Int) := p2
    exact ex J _ none _ (by omega) ⟨_, rfl, evP.no p1 p2 p3⟩
theorem both_X {d n : Nat} {b : Nat → Int} (hd : 2 ≤ d) (h : evX d 215 b n) : evX (d + 1) 214 b n := by
  intro I hA h15 h17
  refine EvM.go [] (T := T_214) rfl rfl rfl rfl ?_
  conv => whnf
  refine ⟨by omega, (h I hA h15 h17).mono fun w J hw => ?_⟩
  obtain ⟨v, rfl, rfl⟩ := hw
  conv => whnf
  refine ⟨by omega, m212x h17 ?_⟩
  conv => whnf
  exact ⟨trivial, v, rfl, rfl⟩
theorem either_C {d n : Nat} {b : Nat → Int} {g0 : Nat → lz_R} {D : Nat} {o : Int} (hd : 2 ≤ d) (hg : evL b n (lz_ch b n g0 4)) (h : evC d 214 b n (lz_ch b n g0 4) D o) : evC (d + 1) 213 b n (lz_ch b n g0 5) (D + 1) o := by
  have ex : ∀ (J : ME) (v : Int) (t : Option Int) (Q : Option MV → ME → Prop), 0 ≤ J 53 17 → Q (some (nt v)) J → Ev (d + 1) 213 5 [some (rf 53), some (nt v), t.map nt] [] J Q := by
    intro J v t Q hf hQ
    refine Ev.go [] (T := T_213) rfl rfl ?_
    cases t
    all_goals
      conv => whnf
      refine ⟨by omega, m212x hf ?_⟩
      conv => whnf
      exact ⟨trivial, hQ⟩
  have loop : ∀ (I : ME), evA b n I → ∀ (m a : Nat) (c : List Int) (v : Int) (t : Option Int) (J : ME), evF I J → evS J a o → a ≤ n → n ≤ a + m → lz_V (I 61) c v (D + 1) → Ev (d + 1) 213 5 [some (rf 53), some (nt v), t.map nt] [] J (fun w J' => ∃ v', w = some (nt v') ∧ evP I (D + 1) o (lz_lp b n (lz_ch b n g0 4) 4 m a c) v' J') := by
    intro I hA m
    have h120 := hA.2.2
    induction m with
    | zero =>
      intro a c v t J hF hS ha hm hV
      have hs := lz_sg_end (b := b) (j := 4) (show n ≤ a by omega)
      rw [lz_lp_n hs]
      refine Ev.go [] (T := T_213) rfl rfl ?_
      cases t
      all_goals
        conv => whnf
        refine ⟨by omega, m212 (by omega) (hA.mv hF) hS (fun q => ?_) (fun q => ?_) (by omega)⟩ <;> conv => whnf
        · exfalso; rw [q] at hs; revert hs; decide
        · exact ⟨trivial, v, rfl, evP.ok hF hS hV⟩
    | succ m ih =>
      intro a c v t J hF hS ha hm hV
      cases hs : lz_sg 4 (lz_by b n a) with
      | false =>
        rw [lz_lp_n hs]
        refine Ev.go [] (T := T_213) rfl rfl ?_
        cases t
        all_goals
          conv => whnf
          refine ⟨by omega, m212 (by omega) (hA.mv hF) hS (fun q => ?_) (fun q => ?_) (by omega)⟩ <;> conv => whnf
          · exfalso; rw [q] at hs; revert hs; decide
          · exact ⟨trivial, v, rfl, evP.ok hF hS hV⟩
      | true =>
        rw [lz_lp_s hs]
        have hc3 : lz_by b n a = 124 := by
          unfold lz_sg at hs
          exact of_decide_eq_true hs
        have hlt := lz_by_lt (b := b) (n := n) (a := a) (by omega)
        have hJF : evF I (upd_ J 53 15 ((a + 1 : Nat) : Int)) := hF.up (Or.inl rfl)
        have hJS : evS (upd_ J 53 15 ((a + 1 : Nat) : Int)) (a + 1) o := ⟨up_eq _ _ _ _, by rw [up_ne (by decide)]; exact hS.2.1, by rw [up_ne (by decide)]; exact hS.2.2⟩
        have hsub := h (upd_ J 53 15 ((a + 1 : Nat) : Int)) (a + 1) (hA.mv hJF) hJS (by omega)
        have e61 : (upd_ J 53 15 ((a + 1 : Nat) : Int)) 61 = I 61 := hJF.2 61 (by decide)
        have hbd := hg (a + 1) (by omega)
        have aft : ∀ (w : Int) (J2 : ME), evP (upd_ J 53 15 ((a + 1 : Nat) : Int)) D o (lz_ch b n g0 4 (a + 1)) w J2 → ∀ (v2 : Int), v2 = lz_jn (lz_by b n a) v w → Ev (d + 1) 213 5 [some (rf 53), some (nt v2), some (nt w)] [] J2 (fun w J' => ∃ v', w = some (nt v') ∧ evP I (D + 1) o (match lz_ch b n g0 4 (a + 1) with
      | (true, a', c') => lz_lp b n (lz_ch b n g0 4) 4 m a' (c ++ c' ++ [-(lz_by b n a)])
      | (false, a', _) => (false, a', [])) v' J') := by
          intro w J2
          revert hbd
          match lz_ch b n g0 4 (a + 1) with
          | (true, a', c') =>
            intro hbd hP v2 hv2
            obtain ⟨p1, p2, -⟩ := hP
            obtain ⟨p2, p3⟩ := p2 rfl
            rw [e61] at p3
            obtain ⟨b1, b2, b3⟩ := hbd
            have b1 : a + 1 ≤ a' := b1
            have b2 : a' ≤ n := b2
            have hF2 := hJF.tr p1
            subst hv2
            exact ih a' _ _ (some w) J2 hF2 p2 b2 (by omega) (lz_V_on hs hV p3)
          | (false, a', c') =>
            intro hbd hP v2 hv2
            obtain ⟨p1, -, p2⟩ := hP
            obtain ⟨p2, p3⟩ := p2 rfl
            have p2 : J2 53 17 = (a' : Int) := p2
            have hF2 := hJF.tr p1
            exact ex J2 _ (some w) _ (by omega) ⟨_, rfl, evP.no hF2 p2 p3⟩
        refine Ev.go [5] (T := T_213) rfl rfl ?_
        cases t
        all_goals
          conv => whnf
          refine ⟨by omega, m212 (by omega) (hA.mv hF) hS (fun _ => ?_) (fun q => absurd hc3 q) (by omega)⟩
          conv => whnf
          refine ⟨by omega, hsub.mono fun w J2 hw => ?_⟩
          obtain ⟨w, rfl, hP⟩ := hw
          have aft := aft w J2 hP
          conv => whnf
          repeat' first
            | (refine brI (fun _ => ?_) (fun _ => ?_) <;> conv => whnf)
            | fail
          all_goals
            refine ⟨trivial, aft _ ?_⟩
            rw [hc3]
            first
              | (show (0 : Int) = if _ then 0 else 1; rw [if_pos (by omega)])
              | (show (1 : Int) = if _ then 0 else 1; rw [if_neg (by omega)])
  intro I a hA hS ha
  have hsub := h I a hA hS ha
  have hbd := hg a ha
  refine EvM.go [5] (T := T_213) rfl rfl rfl rfl ?_
  conv => whnf
  refine ⟨by omega, hsub.mono fun w J hw => ?_⟩
  obtain ⟨v, rfl, hP⟩ := hw
  conv => whnf
  refine ⟨trivial, ?_⟩
  revert hP hbd
  have ech : lz_ch b n g0 5 a = (match lz_ch b n g0 4 a with
    | (true, a', c) => lz_lp b n (lz_ch b n g0 4) 4 n a' c
    | (false, a', _) => (false, a', [])) := rfl
  rw [ech]
  match lz_ch b n g0 4 a with
  | (true, a', c') =>
    intro hbd hP
    obtain ⟨p1, p2, -⟩ := hP
    obtain ⟨p2, p3⟩ := p2 rfl
    have b2 : a' ≤ n := hbd.2.1
    exact loop I hA n a' c' v none J p1 p2 b2 (by omega) (p3.mono (by omega))
  | (false, a', c') =>
    intro hbd hP
    obtain ⟨p1, -, p2⟩ := hP
    obtain ⟨p2, p3⟩ := p2 rfl
    have p2 : J 53 17 = (a' : Int) := p2
    exact ex J _ none _ (by omega) ⟨_, rfl, evP.no p1 p2 p3⟩
theorem either_X {d n : Nat} {b : Nat → Int} (hd : 2 ≤ d) (h : evX d 214 b n) : evX (d + 1) 213 b n := by
  intro I hA h15 h17
  refine EvM.go [] (T := T_213) rfl rfl rfl rfl ?_
  conv => whnf
  refine ⟨by omega, (h I hA h15 h17).mono fun w J hw => ?_⟩
  obtain ⟨v, rfl, rfl⟩ := hw
  conv => whnf
  refine ⟨by omega, m212x h17 ?_⟩
  conv => whnf
  exact ⟨trivial, v, rfl, rfl⟩
def smT (o : Option (Int × Int)) : List (Option MV) := match o with
  | none => [none, none]
  | some q => [some (nt q.1), some (nt q.2)]
theorem sums_C {d n : Nat} {b : Nat → Int} {g0 : Nat → lz_R} {D : Nat} {o : Int} (hd : 2 ≤ d) (hg : evL b n (lz_ch b n g0 1)) (h : evC d 217 b n (lz_ch b n g0 1) D o) : evC (d + 1) 216 b n (lz_ch b n g0 2) (D + 1) o := by
  have ex : ∀ (J : ME) (v : Int) (t : Option (Int × Int)) (Q : Option MV → ME → Prop), 0 ≤ J 53 17 → Q (some (nt v)) J → Ev (d + 1) 216 5 (some (rf 53) :: some (nt v) :: smT t) [] J Q := by
    intro J v t Q hf hQ
    refine Ev.go [] (T := T_216) rfl rfl ?_
    cases t
    all_goals
      conv => whnf
      refine brI (fun _ => by exfalso; omega) (fun _ => ?_)
      conv => whnf
      exact ⟨trivial, hQ⟩
  have loop : ∀ (I : ME), evA b n I → ∀ (m a : Nat) (c : List Int) (v : Int) (t : Option (Int × Int)) (J : ME), evF I J → evS J a o → a ≤ n → n ≤ a + m → lz_V (I 61) c v (D + 1) → Ev (d + 1) 216 5 (some (rf 53) :: some (nt v) :: smT t) [] J (fun w J' => ∃ v', w = some (nt v') ∧ evP I (D + 1) o (lz_lp b n (lz_ch b n g0 1) 1 m a c) v' J') := by
    intro I hA m
    have h120 := hA.2.2
    have stop : ∀ (m a : Nat) (c : List Int) (v : Int) (t : Option (Int × Int)) (J : ME), evF I J → evS J a o → lz_V (I 61) c v (D + 1) → lz_sg 1 (lz_by b n a) = false → Ev (d + 1) 216 5 (some (rf 53) :: some (nt v) :: smT t) [] J (fun w J' => ∃ v', w = some (nt v') ∧ evP I (D + 1) o (lz_lp b n (lz_ch b n g0 1) 1 m a c) v' J') := by
      intro m a c v t J hF hS hV hs
      rw [lz_lp_n hs]
      have hne : ¬ (lz_by b n a = 43) ∧ ¬ (lz_by b n a = 45) := by
        refine ⟨fun q => ?_, fun q => ?_⟩ <;> (rw [q] at hs; revert hs; decide)
      refine Ev.go [] (T := T_216) rfl rfl ?_
      cases t
      all_goals
        conv => whnf
        rw [hS.2.1]
        refine ⟨by omega, m210 (hA.mv hF) hS.1 ?_⟩
        conv => whnf
        refine brI (fun q => absurd q hne.1) (fun _ => ?_)
        conv => whnf
        refine ⟨by omega, m210 (hA.mv hF) hS.1 ?_⟩
        conv => whnf
        refine brI (fun q => absurd q hne.2) (fun _ => ?_)
        conv => whnf
        exact ⟨trivial, v, rfl, evP.ok hF hS hV⟩
    induction m with
    | zero =>
      intro a c v t J hF hS ha hm hV
      exact stop 0 a c v t J hF hS hV (lz_sg_end (show n ≤ a by omega))
    | succ m ih =>
      intro a c v t J hF hS ha hm hV
      cases hs : lz_sg 1 (lz_by b n a) with
      | false => exact stop (m + 1) a c v t J hF hS hV hs
      | true =>
        rw [lz_lp_s hs]
        have hc3 : lz_by b n a = 43 ∨ lz_by b n a = 45 := by
          unfold lz_sg at hs
          simp only [Bool.or_eq_true, decide_eq_true_eq] at hs
          exact hs
        have hlt := lz_by_lt (b := b) (n := n) (a := a) (by omega)
        have hJF : evF I (upd_ J 53 15 ((a + 1 : Nat) : Int)) := hF.up (Or.inl rfl)
        have hJS : evS (upd_ J 53 15 ((a + 1 : Nat) : Int)) (a + 1) o := ⟨up_eq _ _ _ _, by rw [up_ne (by decide)]; exact hS.2.1, by rw [up_ne (by decide)]; exact hS.2.2⟩
        have e15 : iad (J 53 15) 1 = ((a + 1 : Nat) : Int) := by rw [hS.1, iad_e (by omega)]; rfl
        have hsub := h (upd_ J 53 15 ((a + 1 : Nat) : Int)) (a + 1) (hA.mv hJF) hJS (by omega)
        have e61 : (upd_ J 53 15 ((a + 1 : Nat) : Int)) 61 = I 61 := hJF.2 61 (by decide)
        have hbd := hg (a + 1) (by omega)
        have aft : ∀ (w : Int) (J2 : ME), evP (upd_ J 53 15 ((a + 1 : Nat) : Int)) D o (lz_ch b n g0 1 (a + 1)) w J2 → ∀ (v2 p : Int), v2 = lz_jn (lz_by b n a) v w → Ev (d + 1) 216 5 [some (rf 53), some (nt v2), some (nt p), some (nt w)] [] J2 (fun w J' => ∃ v', w = some (nt v') ∧ evP I (D + 1) o (match lz_ch b n g0 1 (a + 1) with
      | (true, a', c') => lz_lp b n (lz_ch b n g0 1) 1 m a' (c ++ c' ++ [-(lz_by b n a)])
      | (false, a', _) => (false, a', [])) v' J') := by
          intro w J2
          revert hbd
          match lz_ch b n g0 1 (a + 1) with
          | (true, a', c') =>
            intro hbd hP v2 p hv2
            obtain ⟨p1, p2, -⟩ := hP
            obtain ⟨p2, p3⟩ := p2 rfl
            rw [e61] at p3
            obtain ⟨b1, b2, b3⟩ := hbd
            have b1 : a + 1 ≤ a' := b1
            have b2 : a' ≤ n := b2
            have hF2 := hJF.tr p1
            subst hv2
            exact ih a' _ _ (some (p, w)) J2 hF2 p2 b2 (by omega) (lz_V_on hs hV p3)
          | (false, a', c') =>
            intro hbd hP v2 p hv2
            obtain ⟨p1, -, p2⟩ := hP
            obtain ⟨p2, p3⟩ := p2 rfl
            have p2 : J2 53 17 = (a' : Int) := p2
            have hF2 := hJF.tr p1
            exact ex J2 _ (some (p, w)) _ (by omega) ⟨_, rfl, evP.no hF2 p2 p3⟩
        refine Ev.go [5] (T := T_216) rfl rfl ?_
        cases t
        all_goals
          conv => whnf
          rw [hS.2.1]
          conv => whnf
          repeat' first
            | (refine ⟨by omega, m210 (hA.mv hF) hS.1 ?_⟩; (conv => whnf))
            | (rw [e15])
            | (refine brI (fun _ => ?_) (fun _ => ?_) <;> conv => whnf)
            | fail
          all_goals first
            | (exfalso; omega)
            | skip
          all_goals
            refine ⟨by omega, hsub.mono fun w J2 hw => ?_⟩
            obtain ⟨w, rfl, hP⟩ := hw
            have aft := aft w J2 hP
            conv => whnf
            refine ⟨trivial, aft _ _ ?_⟩
            rcases hc3 with hc3 | hc3
            all_goals first
              | (exfalso; omega)
              | (rw [hc3]; rfl)
  intro I a hA hS ha
  have hsub := h I a hA hS ha
  have hbd := hg a ha
  refine EvM.go [5] (T := T_216) rfl rfl rfl rfl ?_
  conv => whnf
  refine ⟨by omega, hsub.mono fun w J hw => ?_⟩
  obtain ⟨v, rfl, hP⟩ := hw
  conv => whnf
  refine ⟨trivial, ?_⟩
  revert hP hbd
  have ech : lz_ch b n g0 2 a = (match lz_ch b n g0 1 a with
    | (true, a', c) => lz_lp b n (lz_ch b n g0 1) 1 n a' c
    | (false, a', _) => (false, a', [])) := rfl
  rw [ech]
  match lz_ch b n g0 1 a with
  | (true, a', c') =>
    intro hbd hP
    obtain ⟨p1, p2, -⟩ := hP
    obtain ⟨p2, p3⟩ := p2 rfl
    have b2 : a' ≤ n := hbd.2.1
    exact loop I hA n a' c' v none J p1 p2 b2 (by omega) (p3.mono (by omega))
  | (false, a', c') =>
    intro hbd hP
    obtain ⟨p1, -, p2⟩ := hP
    obtain ⟨p2, p3⟩ := p2 rfl
    have p2 : J 53 17 = (a' : Int) := p2
    exact ex J _ none _ (by omega) ⟨_, rfl, evP.no p1 p2 p3⟩
theorem sums_X {d n : Nat} {b : Nat → Int} (hd : 2 ≤ d) (h : evX d 217 b n) : evX (d + 1) 216 b n := by
  intro I hA h15 h17
  refine EvM.go [] (T := T_216) rfl rfl rfl rfl ?_
  conv => whnf
  refine ⟨by omega, (h I hA h15 h17).mono fun w J hw => ?_⟩
  obtain ⟨v, rfl, rfl⟩ := hw
  conv => whnf
  refine brI (fun _ => by exfalso; omega) (fun _ => ?_)
  conv => whnf
  exact ⟨trivial, v, rfl, rfl⟩
theorem comp_C {d n : Nat} {b : Nat → Int} {g0 : Nat → lz_R} {D : Nat} {o : Int} (hd : 2 ≤ d) (hg : evL b n (lz_ch b n g0 2)) (h : evC d 216 b n (lz_ch b n g0 2) D o) : evC (d + 1) 215 b n (lz_ch b n g0 3) (D + 1) o := by
  intro I a hA hS ha
  have h120 := hA.2.2
  have hsub := h I a hA hS ha
  have hbd := hg a ha
  refine EvM.go [] (T := T_215) rfl rfl rfl rfl ?_
  conv => whnf
  refine ⟨by omega, hsub.mono fun w J hw => ?_⟩
  obtain ⟨v, rfl, hP⟩ := hw
  conv => whnf
  revert hP hbd
  have ech : lz_ch b n g0 3 a = (match lz_ch b n g0 2 a with
    | (true, a', c) => lz_lp b n (lz_ch b n g0 2) 2 1 a' c
    | (false, a', _) => (false, a', [])) := rfl
  rw [ech]
  match lz_ch b n g0 2 a with
  | (true, a', c') =>
    intro hbd hP
    obtain ⟨p1, p2, -⟩ := hP
    obtain ⟨p2, p3⟩ := p2 rfl
    have p2 : evS J a' o := p2
    have b2 : a' ≤ n := hbd.2.1
    refine ⟨by omega, m210 (hA.mv p1) p2.1 ?_⟩
    conv => whnf
    rw [p2.2.1]
    conv => whnf
    cases hs : lz_sg 2 (lz_by b n a') with
    | false =>
      have hne : ¬ (lz_by b n a' = 60) ∧ ¬ (lz_by b n a' = 61) ∧ ¬ (lz_by b n a' = 62) := by
        refine ⟨fun q => ?_, fun q => ?_, fun q => ?_⟩ <;> (rw [q] at hs; revert hs; decide)
      refine brI (fun q => absurd q hne.1) (fun _ => ?_)
      conv => whnf
      refine brI (fun q => absurd q hne.2.1) (fun _ => ?_)
      conv => whnf
      refine brI (fun q => absurd q hne.2.2) (fun _ => ?_)
      conv => whnf
      refine ⟨trivial, v, rfl, ?_⟩
      show evP I (D + 1) o (lz_lp b n (lz_ch b n g0 2) 2 1 a' c') v J
      rw [lz_lp_n hs]
      exact evP.ok p1 p2 (p3.mono (by omega))
    | true =>
      have hc3 : lz_by b n a' = 60 ∨ lz_by b n a' = 61 ∨ lz_by b n a' = 62 := by
        unfold lz_sg at hs
        simp only [Bool.or_eq_true, decide_eq_true_eq] at hs
        omega
      have hlt := lz_by_lt (b := b) (n := n) (a := a') (by omega)
      have hJF : evF I (upd_ J 53 15 ((a' + 1 : Nat) : Int)) := p1.up (Or.inl rfl)
      have hJS : evS (upd_ J 53 15 ((a' + 1 : Nat) : Int)) (a' + 1) o := ⟨up_eq _ _ _ _, by rw [up_ne (by decide)]; exact p2.2.1, by rw [up_ne (by decide)]; exact p2.2.2⟩
      have e15 : iad (J 53 15) 1 = ((a' + 1 : Nat) : Int) := by rw [p2.1, iad_e (by omega)]; rfl
      have hsub2 := h (upd_ J 53 15 ((a' + 1 : Nat) : Int)) (a' + 1) (hA.mv hJF) hJS (by omega)
      have e61 : (upd_ J 53 15 ((a' + 1 : Nat) : Int)) 61 = I 61 := hJF.2 61 (by decide)
      have aft : ∀ (w : Int) (J2 : ME), evP (upd_ J 53 15 ((a' + 1 : Nat) : Int)) D o (lz_ch b n g0 2 (a' + 1)) w J2 → ∀ (v2 : Int), v2 = lz_jn (lz_by b n a') v w → evP I (D + 1) o (lz_lp b n (lz_ch b n g0 2) 2 1 a' c') v2 J2 := by
        intro w J2
        rw [lz_lp_s hs]
        match lz_ch b n g0 2 (a' + 1) with
        | (true, a2, c2) =>
          intro hP v2 hv2
          obtain ⟨q1, q2, -⟩ := hP
          obtain ⟨q2, q3⟩ := q2 rfl
          rw [e61] at q3
          subst hv2
          exact evP.ok (hJF.tr q1) q2 (lz_V_on hs (p3.mono (by omega)) q3)
        | (false, a2, c2) =>
          intro hP v2 hv2
          obtain ⟨q1, -, q2⟩ := hP
          obtain ⟨q2, q3⟩ := q2 rfl
          exact evP.no (hJF.tr q1) q2 q3
      have run2 : ∀ P : Option MV → ME → Prop, (∀ w J2, (∃ v, w = some (nt v) ∧ evP (upd_ J 53 15 ((a' + 1 : Nat) : Int)) D o (lz_ch b n g0 2 (a' + 1)) v J2) → P w J2) → EvM d 216 [rf 53] (upd_ J 53 15 ((a' + 1 : Nat) : Int)) P := fun P hP => hsub2.mono hP
      repeat' first
        | (rw [e15])
        | (refine brI (fun _ => ?_) (fun _ => ?_) <;> conv => whnf)
        | fail
      all_goals first
        | (exfalso; omega)
        | skip
      all_goals
        refine ⟨by omega, run2 _ fun w J2 hw => ?_⟩
        obtain ⟨w, rfl, hP⟩ := hw
        have aft := aft w J2 hP
        conv => whnf
        repeat' first
          | (refine brI (fun _ => ?_) (fun _ => ?_) <;> conv => whnf)
          | fail
      all_goals first
        | (exfalso; omega)
        | skip
      all_goals
        refine ⟨trivial, _, rfl, aft _ ?_⟩
        rcases hc3 with hc3 | hc3 | hc3
        all_goals first
          | (exfalso; omega)
          | (rw [hc3]; show (1 : Int) = if _ then 1 else 0; rw [if_pos (by omega)])
          | (rw [hc3]; show (0 : Int) = if _ then 1 else 0; rw [if_neg (by omega)])
  | (false, a', c') =>
    intro hbd hP
    obtain ⟨p1, -, p2⟩ := hP
    obtain ⟨p2, p3⟩ := p2 rfl
    have p2 : J 53 17 = (a' : Int) := p2
    refine ⟨by omega, m210 (a := (J 53 15).toNat) (hA.mv p1) (by omega) ?_⟩
    conv => whnf
    refine brI (fun _ => by exfalso; omega) (fun _ => ?_)
    conv => whnf
    exact ⟨trivial, v, rfl, evP.no p1 p2 p3⟩
theorem comp_X {d n : Nat} {b : Nat → Int} (hd : 2 ≤ d) (h : evX d 216 b n) : evX (d + 1) 215 b n := by
  intro I hA h15 h17
  refine EvM.go [] (T := T_215) rfl rfl rfl rfl ?_
  conv => whnf
  refine ⟨by omega, (h I hA h15 h17).mono fun w J hw => ?_⟩
  obtain ⟨v, rfl, rfl⟩ := hw
  conv => whnf
  refine ⟨by omega, m210 (a := (J 53 15).toNat) hA (by omega) ?_⟩
  conv => whnf
  refine brI (fun _ => by exfalso; omega) (fun _ => ?_)
  conv => whnf
  exact ⟨trivial, v, rfl, rfl⟩
/-- all levels, by how many may still be opened -/
theorem law_C {n : Nat} {b : Nat → Int} : ∀ k : Nat, k ≤ 6 → (∀ d, 3 + 6 * k ≤ d → evC d 219 b n (lz_op b n k) (1 + 5 * k) (6 - (k : Int))) ∧ ∀ d, 8 + 6 * k ≤ d → evC d 213 b n (lz_ch b n (lz_op b n k) 5) (6 + 5 * k) (6 - (k : Int)) := by
  have up : ∀ k : Nat, (∀ d, 3 + 6 * k ≤ d → evC d 219 b n (lz_op b n k) (1 + 5 * k) (6 - (k : Int))) → ∀ d, 8 + 6 * k ≤ d → evC d 213 b n (lz_ch b n (lz_op b n k) 5) (6 + 5 * k) (6 - (k : Int)) := by
    intro k h d hd
    obtain ⟨e, rfl⟩ : ∃ e, d = e + 1 + 1 + 1 + 1 + 1 := ⟨d - 5, by omega⟩
    have hg : ∀ j, evL b n (lz_ch b n (lz_op b n k) j) := fun j a ha => lz_ch_P (fun a h => lz_op_P k a h) j a ha
    have h1 := prod_C (by omega) (hg 0) (h e (by omega))
    have h2 := sums_C (by omega) (hg 1) h1
    have h3 := comp_C (by omega) (hg 2) h2
    have h4 := both_C (by omega) (hg 3) h3
    have h5 := either_C (by omega) (hg 4) h4
    rw [show 6 + 5 * k = 1 + 5 * k + 1 + 1 + 1 + 1 + 1 by omega]
    exact h5
  intro k
  induction k with
  | zero =>
    intro hk
    have h0 : ∀ d, 3 + 6 * 0 ≤ d → evC d 219 b n (lz_op b n 0) (1 + 5 * 0) (6 - ((0 : Nat) : Int)) := fun d hd => one_0 (by omega)
    exact ⟨h0, up 0 h0⟩
  | succ k ih =>
    intro hk
    obtain ⟨i1, i2⟩ := ih (by omega)
    have h0 : ∀ d, 3 + 6 * (k + 1) ≤ d → evC d 219 b n (lz_op b n (k + 1)) (1 + 5 * (k + 1)) (6 - ((k + 1 : Nat) : Int)) := fun d hd => by
      obtain ⟨e, rfl⟩ : ∃ e, d = e + 1 := ⟨d - 1, by omega⟩
      have e1 : (6 - (k : Int)) = (6 - ((k + 1 : Nat) : Int)) + 1 := by omega
      refine one_s (by omega) (by omega) (by omega) ?_ ?_
      · rw [← e1]; exact i2 e (by omega)
      · rw [← e1]; exact i1 e (by omega)
    exact ⟨h0, up (k + 1) h0⟩
theorem law_X {n : Nat} {b : Nat → Int} (d : Nat) (hd : 9 ≤ d) : evX d 213 b n := by
  obtain ⟨e, rfl⟩ : ∃ e, d = e + 1 + 1 + 1 + 1 + 1 := ⟨d - 5, by omega⟩
  exact either_X (by omega) (both_X (by omega) (comp_X (by omega) (sums_X (by omega) (prod_X (by omega) one_x))))

