/-! THE MODEL'S LAW: levels -/
theorem lz_lp_s {b : Nat → Int} {n : Nat} {g : Nat → lz_R} {j m a : Nat} {c : List Int} (h : lz_sg j (lz_by b n a) = true) : lz_lp b n g j (m + 1) a c = (match g (a + 1) with
      | (true, a', c') => lz_lp b n g j m a' (c ++ c' ++ [-(lz_by b n a)])
      | (false, a', _) => (false, a', [])) := by
  show (bif lz_sg j (lz_by b n a) then _ else _) = _
  rw [h]; rfl
theorem lz_lp_n {b : Nat → Int} {n : Nat} {g : Nat → lz_R} {j m a : Nat} {c : List Int} (h : lz_sg j (lz_by b n a) = false) : lz_lp b n g j m a c = (true, a, c) := by
  cases m with
  | zero => rfl
  | succ m =>
    show (bif lz_sg j (lz_by b n a) then _ else _) = _
    rw [h]; rfl
theorem lz_sg_end {b : Nat → Int} {n a j : Nat} (h : n ≤ a) : lz_sg j (lz_by b n a) = false := by
  have e : lz_by b n a = 0 := by
    unfold lz_by
    have : Nat.blt a n = false := by
      cases hq : Nat.blt a n with
      | false => rfl
      | true => have := ltB hq; omega
    rw [this]; rfl
  rw [e]
  match j with
  | 0 => rfl
  | 1 => rfl
  | 2 => rfl
  | 3 => rfl
  | j + 4 => rfl
/-- a sign, and what stands behind it: the value goes on -/
theorem lz_V_on {nm : Int → Int} {c c' : List Int} {v w : Int} {D : Nat} {s : Int} {j : Nat} (hs : lz_sg j s = true) (h : lz_V nm c v (D + 1)) (h' : lz_V nm c' w D) : lz_V nm (c ++ c' ++ [-s]) (lz_jn s v w) (D + 1) := lz_V_bin h h' (Nat.le_refl _) (lz_sg_nz hs)
def evL (b : Nat → Int) (n : Nat) (g : Nat → lz_R) : Prop := ∀ a, a ≤ n → lz_P n a (g a)
theorem evP.ok {I J : ME} {D : Nat} {o v : Int} {a : Nat} {c : List Int} (h : evF I J) (hs : evS J a o) (hv : lz_V (I 61) c v D) : evP I D o (true, a, c) v J := ⟨h, fun _ => ⟨hs, hv⟩, fun z => (by cases z)⟩
theorem evP.no {I J : ME} {D : Nat} {o v : Int} {a : Nat} {c : List Int} (h : evF I J) (h1 : J 53 17 = (a : Int)) (h2 : 0 ≤ J 53 15) : evP I D o (false, a, c) v J := ⟨h, fun z => (by cases z), fun _ => ⟨h1, h2⟩⟩

theorem prod_C {d n : Nat} {b : Nat → Int} {g : Nat → lz_R} {D : Nat} {o : Int} (hd : 1 ≤ d) (hg : evL b n g) (h : evC d 219 b n g D o) : evC (d + 1) 217 b n (lz_ch b n g 1) (D + 1) o := by
  have ex : ∀ (J : ME) (v c : Int) (t : Option Int) (Q : Option MV → ME → Prop), 0 ≤ J 53 17 → Q (some (nt v)) J → Ev (d + 1) 217 10 [some (rf 53), some (nt v), some (nt c), t.map nt] [] J Q := by
    intro J v c t Q hf hQ
    refine Ev.go [] (T := T_217) rfl rfl ?_
    cases t
    all_goals
      conv => whnf
      refine brI (fun _ => by exfalso; omega) (fun _ => ?_)
      conv => whnf
      exact ⟨trivial, hQ⟩
  have loop : ∀ (I : ME), evA b n I → ∀ (m a : Nat) (c : List Int) (v : Int) (t : Option Int) (J : ME), evF I J → evS J a o → a ≤ n → n ≤ a + m → lz_V (I 61) c v (D + 1) → Ev (d + 1) 217 10 [some (rf 53), some (nt v), some (nt (lz_by b n a)), t.map nt] [] J (fun w J' => ∃ v', w = some (nt v') ∧ evP I (D + 1) o (lz_lp b n g 0 m a c) v' J') := by
    intro I hA m
    induction m with
    | zero =>
      intro a c v t J hF hS ha hm hV
      have hs := lz_sg_end (b := b) (j := 0) (show n ≤ a by omega)
      rw [lz_lp_n hs]
      have hne : ¬ (lz_by b n a = 42) ∧ ¬ (lz_by b n a = 47) ∧ ¬ (lz_by b n a = 37) := by
        refine ⟨fun q => ?_, fun q => ?_, fun q => ?_⟩ <;> (rw [q] at hs; revert hs; decide)
      refine Ev.go [] (T := T_217) rfl rfl ?_
      cases t
      all_goals
        conv => whnf
        rw [hS.2.1]
        conv => whnf
        repeat' first
          | (refine brI (fun _ => ?_) (fun _ => ?_) <;> conv => whnf)
          | fail
        all_goals first
          | exact ⟨trivial, v, rfl, evP.ok hF hS hV⟩
          | (exfalso; omega)
    | succ m ih =>
      intro a c v t J hF hS ha hm hV
      cases hs : lz_sg 0 (lz_by b n a) with
      | false =>
        rw [lz_lp_n hs]
        have hne : ¬ (lz_by b n a = 42) ∧ ¬ (lz_by b n a = 47) ∧ ¬ (lz_by b n a = 37) := by
          refine ⟨fun q => ?_, fun q => ?_, fun q => ?_⟩ <;> (rw [q] at hs; revert hs; decide)
        refine Ev.go [] (T := T_217) rfl rfl ?_
        cases t
        all_goals
          conv => whnf
          rw [hS.2.1]
          conv => whnf
          repeat' first
            | (refine brI (fun _ => ?_) (fun _ => ?_) <;> conv => whnf)
            | fail
          all_goals first
            | exact ⟨trivial, v, rfl, evP.ok hF hS hV⟩
            | (exfalso; omega)
      | true =>
        rw [lz_lp_s hs]
        have hc3 : lz_by b n a = 42 ∨ lz_by b n a = 47 ∨ lz_by b n a = 37 := by
          unfold lz_sg at hs
          simp only [Bool.or_eq_true, decide_eq_true_eq] at hs
          omega
        have hlt := lz_by_lt (b := b) (n := n) (a := a) (by omega)
        have h120 := hA.2.2
        have hJF : evF I (upd_ J 53 15 ((a + 1 : Nat) : Int)) := hF.up (Or.inl rfl)
        have hJS : evS (upd_ J 53 15 ((a + 1 : Nat) : Int)) (a + 1) o := ⟨up_eq _ _ _ _, by rw [up_ne (by decide)]; exact hS.2.1, by rw [up_ne (by decide)]; exact hS.2.2⟩
        have e15 : iad (J 53 15) 1 = ((a + 1 : Nat) : Int) := by rw [hS.1, iad_e (by omega)]; rfl
        have hsub := h (upd_ J 53 15 ((a + 1 : Nat) : Int)) (a + 1) (hA.mv hJF) hJS (by omega)
        have e61 : (upd_ J 53 15 ((a + 1 : Nat) : Int)) 61 = I 61 := hJF.2 61 (by decide)
        have hbd := hg (a + 1) (by omega)
        -- behind the operand
        have aft : ∀ (w : Int) (J2 : ME), evP (upd_ J 53 15 ((a + 1 : Nat) : Int)) D o (g (a + 1)) w J2 → ∀ (t2 : Option Int) (v2 : Int), v2 = lz_jn (lz_by b n a) v w → Ev (d + 1) 217 86 [some (rf 53), some (nt v2), some (nt (lz_by b n a)), t2.map nt] [] J2 (fun w J' => ∃ v', w = some (nt v') ∧ evP I (D + 1) o (match g (a + 1) with
      | (true, a', c') => lz_lp b n g 0 m a' (c ++ c' ++ [-(lz_by b n a)])
      | (false, a', _) => (false, a', [])) v' J') := by
          intro w J2
          revert hbd
          match g (a + 1) with
          | (true, a', c') =>
            intro hbd hP t2 v2 hv2
            obtain ⟨p1, p2, -⟩ := hP
            obtain ⟨p2, p3⟩ := p2 rfl
            rw [e61] at p3
            obtain ⟨b1, b2, b3⟩ := hbd
            have b1 : a + 1 ≤ a' := b1
            have b2 : a' ≤ n := b2
            have hF2 := hJF.tr p1
            subst hv2
            refine Ev.go [10] (T := T_217) rfl rfl ?_
            cases t2
            all_goals
              conv => whnf
              refine ⟨by omega, m210 (hA.mv hF2) p2.1 ?_⟩
              conv => whnf
            · exact ⟨trivial, ih a' _ _ none J2 hF2 p2 b2 (by omega) (lz_V_on hs hV p3)⟩
            · exact ⟨trivial, ih a' _ _ (some _) J2 hF2 p2 b2 (by omega) (lz_V_on hs hV p3)⟩
          | (false, a', c') =>
            intro hbd hP t2 v2 hv2
            obtain ⟨p1, -, p2⟩ := hP
            obtain ⟨p2, p3⟩ := p2 rfl
            have p2 : J2 53 17 = (a' : Int) := p2
            have hF2 := hJF.tr p1
            refine Ev.go [10] (T := T_217) rfl rfl ?_
            cases t2
            all_goals
              conv => whnf
              refine ⟨by omega, m210 (a := (J2 53 15).toNat) (hA.mv hF2) (by omega) ?_⟩
              conv => whnf
            · exact ⟨trivial, ex J2 _ _ none _ (by omega) ⟨_, rfl, evP.no hF2 p2 p3⟩⟩
            · exact ⟨trivial, ex J2 _ _ (some _) _ (by omega) ⟨_, rfl, evP.no hF2 p2 p3⟩⟩
        refine Ev.go [86] (T := T_217) rfl rfl ?_
        cases t
        all_goals
          conv => whnf
          rw [hS.2.1]
          conv => whnf
          repeat' first
            | (rw [e15])
            | (refine brI (fun _ => ?_) (fun _ => ?_) <;> conv => whnf)
            | fail
          all_goals first
            | (exfalso; omega)
            | skip
          all_goals
            refine ⟨by omega, hsub.mono fun w J2 hw => ?_⟩
            obtain ⟨w, rfl, hP⟩ := hw
            have aft := aft w J2 hP
            conv => whnf
            repeat' first
              | (refine nzI (by assumption) ?_; conv => whnf)
              | (refine brI (fun _ => ?_) (fun _ => ?_) <;> conv => whnf)
              | fail
          all_goals first
            | (exfalso; omega)
            | skip
          all_goals
            refine ⟨trivial, aft (some w) _ ?_⟩
            rcases hc3 with hc3 | hc3 | hc3
            all_goals first
              | (exfalso; omega)
              | skip
            all_goals
              rw [hc3]
              first
                | rfl
                | (show (0 : Int) = if w = 0 then 0 else _; rw [if_pos (by assumption)])
                | (show idv v w = if w = 0 then 0 else _; rw [if_neg (by assumption)])
                | (show irm v w = if w = 0 then 0 else _; rw [if_neg (by assumption)])
  intro I a hA hS ha
  have hsub := h I a hA hS ha
  have hbd := hg a ha
  have h120 := hA.2.2
  refine EvM.go [10] (T := T_217) rfl rfl rfl rfl ?_
  conv => whnf
  refine ⟨by omega, hsub.mono fun w J hw => ?_⟩
  obtain ⟨v, rfl, hP⟩ := hw
  conv => whnf
  show _ ∧ EvM _ _ _ _ _
  revert hP hbd
  show lz_P n a (g a) → evP I D o (g a) v J → _
  have ech : lz_ch b n g 1 a = (match g a with
    | (true, a', c) => lz_lp b n g 0 n a' c
    | (false, a', _) => (false, a', [])) := rfl
  rw [ech]
  match g a with
  | (true, a', c') =>
    intro hbd hP
    obtain ⟨p1, p2, -⟩ := hP
    obtain ⟨p2, p3⟩ := p2 rfl
    have b2 : a' ≤ n := hbd.2.1
    refine ⟨by omega, m210 (hA.mv p1) p2.1 ?_⟩
    conv => whnf
    exact ⟨trivial, loop I hA n a' c' v none J p1 p2 b2 (by omega) (p3.mono (by omega))⟩
  | (false, a', c') =>
    intro hbd hP
    obtain ⟨p1, -, p2⟩ := hP
    obtain ⟨p2, p3⟩ := p2 rfl
    have p2 : J 53 17 = (a' : Int) := p2
    refine ⟨by omega, m210 (a := (J 53 15).toNat) (hA.mv p1) (by omega) ?_⟩
    conv => whnf
    exact ⟨trivial, ex J _ _ none _ (by omega) ⟨_, rfl, evP.no p1 p2 p3⟩⟩
theorem prod_X {d n : Nat} {b : Nat → Int} (hd : 1 ≤ d) (h : evX d 219 b n) : evX (d + 1) 217 b n := by
  intro I hA h15 h17
  refine EvM.go [] (T := T_217) rfl rfl rfl rfl ?_
  conv => whnf
  refine ⟨by omega, (h I hA h15 h17).mono fun w J hw => ?_⟩
  obtain ⟨v, rfl, rfl⟩ := hw
  conv => whnf
  refine ⟨by omega, m210 (a := (J 53 15).toNat) hA (by omega) ?_⟩
  conv => whnf
  refine brI (fun _ => by exfalso; omega) (fun _ => ?_)
  conv => whnf
  exact ⟨trivial, v, rfl, rfl⟩
