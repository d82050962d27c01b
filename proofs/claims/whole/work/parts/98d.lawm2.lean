/-! THE MODEL'S LAW: operands -/
theorem lz_num_v {b : Nat → Int} {n : Nat} : ∀ (m a : Nat) (v : Int), 0 ≤ v → 0 ≤ (lz_num b n m a v).2
  | 0, a, v, h => h
  | m + 1, a, v, h => by
    unfold lz_num
    cases hd : lz_dig (lz_by b n a) with
    | false => exact h
    | true =>
      have h1 := lz_dig_nz hd
      exact lz_num_v m (a + 1) _ (by omega)
theorem lz_ob_no {b : Nat → Int} {n a : Nat} {r : lz_R} (h : lz_by b n a = 40 ∨ lz_by b n a = 33 ∨ lz_by b n a = 45) : lz_ob b n a r = r := by
  unfold lz_ob
  rcases h with h | h | h <;> rw [h] <;> rfl
theorem lz_ob_nm {b : Nat → Int} {n a : Nat} {r : lz_R} (h : 0 ≤ lz_nm (lz_by b n a)) : lz_ob b n a r = (true, a + 1, [-1 - lz_nm (lz_by b n a)]) := by
  unfold lz_ob
  have hd : lz_dig (lz_by b n a) = false := by
    cases hq : lz_dig (lz_by b n a) with
    | false => rfl
    | true =>
      have := lz_dig_nz hq
      exfalso
      unfold lz_nm at h
      repeat' split at h
      all_goals omega
  rw [hd, decide_eq_true h]
  rfl
theorem lz_ob_dg {b : Nat → Int} {n a : Nat} {r : lz_R} (h : lz_dig (lz_by b n a) = true) : lz_ob b n a r = (true, (lz_num b n 4 a 0).1, [(lz_num b n 4 a 0).2]) := by
  unfold lz_ob
  rw [h]; rfl
theorem lz_ob_r {b : Nat → Int} {n a : Nat} {r : lz_R} (h : lz_dig (lz_by b n a) = false) (h2 : ¬ 0 ≤ lz_nm (lz_by b n a)) : lz_ob b n a r = r := by
  unfold lz_ob
  rw [h, decide_eq_false h2]; rfl
/-- an operand that isn't opened -/
theorem one_base {d n : Nat} {b : Nat → Int} {o : Int} {D : Nat} {I : ME} {a : Nat} {r : lz_R} {Q : Option MV → ME → Prop} (hd : 3 ≤ d) (hD : 1 ≤ D) (hA : evA b n I) (hS : evS I a o) (ha : a ≤ n) (hno : ¬ (lz_by b n a = 40 ∨ lz_by b n a = 33 ∨ lz_by b n a = 45)) (hr : lz_dig (lz_by b n a) = false → ¬ 0 ≤ lz_nm (lz_by b n a) → r = (false, a, []))
    (h : ∀ v J, evP I D o (lz_ob b n a r) v J → Q (some (nt v)) J) : EvM d 219 [rf 53] I Q := by
  have h120 := hA.2.2
  refine EvM.go [176] (T := T_219) rfl rfl rfl rfl ?_
  conv => whnf
  rw [hS.2.1]
  refine ⟨by omega, m210 hA hS.1 ?_⟩
  conv => whnf
  refine brI (fun q => by exfalso; omega) (fun _ => ?_)
  conv => whnf
  refine brI (fun q => by exfalso; omega) (fun _ => ?_)
  conv => whnf
  refine brI (fun q => by exfalso; omega) (fun _ => ?_)
  conv => whnf
  refine ⟨by omega, m218 ?_⟩
  conv => whnf
  refine brI (fun q => ?_) (fun q => ?_) <;> conv => whnf
  · refine ⟨trivial, m219_num (n := n) (b := b) (o := o) (I := I) (by omega) 4 a 0 0 I hA hS ha (by decide) (by decide) (by decide) (by decide) evF.rf (fun J' dg' hz hF' hS' => ?_)⟩
    refine Ev.go [] (T := T_219) rfl rfl ?_
    conv => whnf
    refine brI (fun e => ?_) (fun e => ?_) <;> conv => whnf
    · have hdig := (hz.mp e).2
      have hrr := hr hdig (by omega)
      have e2 : lz_num b n 4 a 0 = (a, 0) := by
        show (bif lz_dig (lz_by b n a) then _ else _) = _
        rw [hdig]; rfl
      rw [e2] at hS'
      refine ⟨by omega, m211 (fun _ => ?_) (fun z => by exfalso; rw [hS'.2.1] at z; omega)⟩
      conv => whnf
      refine ⟨trivial, h 0 _ ?_⟩
      rw [lz_ob_r hdig (by omega), hrr]
      refine ⟨hF'.up (Or.inr (Or.inl rfl)), fun z => (by cases z), fun _ => ⟨by rw [up_eq]; exact hS'.1, by rw [up_ne (by decide), hS'.1]; omega⟩⟩
    · have hdig : lz_dig (lz_by b n a) = true := by
        cases hq : lz_dig (lz_by b n a) with
        | true => rfl
        | false => exact absurd (hz.mpr ⟨rfl, hq⟩) e
      refine ⟨trivial, h _ J' ?_⟩
      rw [lz_ob_dg hdig]
      refine ⟨hF', fun _ => ⟨hS', ?_⟩, fun z => (by cases z)⟩
      have hv := lz_num_v (b := b) (n := n) 4 a 0 (by decide)
      have := lz_V_push (nm := I 61) (c := (lz_num b n 4 a 0).2) (by omega)
      rw [if_pos hv] at this
      exact this.mono hD
  · have hn5 := lz_nm_nz (show 0 ≤ lz_nm (lz_by b n a) by omega)
    rw [hS.1, iad_e (by omega)]
    refine anI (by omega) ?_
    conv => whnf
    refine ⟨trivial, h _ _ ?_⟩
    rw [lz_ob_nm (by omega)]
    refine ⟨evF.rf.up (Or.inl rfl), fun _ => ⟨⟨up_eq _ _ _ _, by rw [up_ne (by decide)]; exact hS.2.1, by rw [up_ne (by decide)]; exact hS.2.2⟩, ?_⟩, fun z => (by cases z)⟩
    have := lz_V_push (nm := I 61) (c := -1 - lz_nm (lz_by b n a)) (by omega)
    rw [if_neg (by omega), show -1 - (-1 - lz_nm (lz_by b n a)) = lz_nm (lz_by b n a) by omega] at this
    rw [up_c (by decide)]
    exact this.mono hD
theorem one_0 {d n : Nat} {b : Nat → Int} (hd : 3 ≤ d) : evC d 219 b n (lz_op b n 0) 1 6 := by
  intro I a hA hS ha
  by_cases hop : lz_by b n a = 40 ∨ lz_by b n a = 33 ∨ lz_by b n a = 45
  · have e : lz_op b n 0 a = (false, a, []) := lz_ob_no hop
    rw [e]
    have fin : evP I 1 6 (false, a, []) 0 (upd_ I 53 17 (I 53 15)) := ⟨evF.rf.up (Or.inr (Or.inl rfl)), fun z => (by cases z), fun _ => ⟨by rw [up_eq]; exact hS.1, by rw [up_ne (by decide), hS.1]; omega⟩⟩
    refine EvM.go [] (T := T_219) rfl rfl rfl rfl ?_
    conv => whnf
    rw [hS.2.1]
    have h18 := hS.2.2
    refine ⟨by omega, m210 hA hS.1 ?_⟩
    conv => whnf
    repeat' first
      | (refine ⟨by omega, m211 (fun _ => ?_) (fun z => by exfalso; rw [hS.2.1] at z; omega)⟩; (conv => whnf))
      | (refine brI (fun _ => ?_) (fun _ => ?_) <;> conv => whnf)
      | fail
    all_goals first
      | exact ⟨trivial, _, rfl, fin⟩
      | (exfalso; omega)
  · exact one_base hd (Nat.le_refl 1) hA hS ha hop (fun _ _ => rfl) (fun v J hP => ⟨v, rfl, hP⟩)
theorem one_x {d n : Nat} {b : Nat → Int} : evX d 219 b n := by
  intro I hA h15 h17
  refine EvM.go [] (T := T_219) rfl rfl rfl rfl ?_
  conv => whnf
  refine brI (fun q => by exfalso; omega) (fun _ => ?_)
  conv => whnf
  exact ⟨trivial, _, rfl, rfl⟩
theorem one_s {d n k : Nat} {b : Nat → Int} {o : Int} (hd : 3 ≤ d) (hk : k ≤ 5) (ho : o = 5 - k) (he : evC d 213 b n (lz_ch b n (lz_op b n k) 5) (6 + 5 * k) (o + 1)) (h1 : evC d 219 b n (lz_op b n k) (1 + 5 * k) (o + 1)) : evC (d + 1) 219 b n (lz_op b n (k + 1)) (1 + 5 * (k + 1)) o := by
  intro I a hA hS ha
  have h120 := hA.2.2
  by_cases hop : lz_by b n a = 40 ∨ lz_by b n a = 33 ∨ lz_by b n a = 45
  · have hlt := lz_by_lt (b := b) (n := n) (a := a) (by omega)
    have eop : lz_op b n (k + 1) a = (bif decide (lz_by b n a = 40) then lz_o1 b n a (lz_ch b n (lz_op b n k) 5 (a + 1)) else bif decide (lz_by b n a = 33) || decide (lz_by b n a = 45) then lz_o2 (lz_by b n a) (lz_op b n k (a + 1)) else (false, a, [])) := lz_ob_no hop
    have hJA : evA b n (upd_ (upd_ I 53 18 (o + 1)) 53 15 ((a + 1 : Nat) : Int)) := hA.mv ((evF.rf.up (Or.inr (Or.inr rfl))).up (Or.inl rfl))
    have hJS : evS (upd_ (upd_ I 53 18 (o + 1)) 53 15 ((a + 1 : Nat) : Int)) (a + 1) (o + 1) := ⟨up_eq _ _ _ _, by simp (disch := decide) only [up_ne]; exact hS.2.1, by simp (disch := decide) only [up_ne, up_eq]⟩
    have hJF : evF I (upd_ (upd_ I 53 18 (o + 1)) 53 15 ((a + 1 : Nat) : Int)) := (evF.rf.up (Or.inr (Or.inr rfl))).up (Or.inl rfl)
    have h61 : (upd_ (upd_ I 53 18 (o + 1)) 53 15 ((a + 1 : Nat) : Int)) 61 = I 61 := by rw [up_c (by decide), up_c (by decide)]
    refine EvM.go [83] (T := T_219) rfl rfl rfl rfl ?_
    conv => whnf
    rw [hS.2.1]
    refine ⟨by omega, m210 hA hS.1 ?_⟩
    conv => whnf
    -- what comes once the byte is passed
    have e18 : iad (I 53 18) 1 = o + 1 := by rw [hS.2.2, iad_e (by omega)]
    have e15 : iad (upd_ I 53 18 (o + 1) 53 15) 1 = ((a + 1 : Nat) : Int) := by rw [up_ne (by decide), hS.1, iad_e (by omega)]; rfl
    have rest : (lz_by b n a = 40 → EvM d 213 [rf 53] (upd_ (upd_ I 53 18 (o + 1)) 53 15 ((a + 1 : Nat) : Int)) (fun w J => ∃ v, w = some (nt v) ∧ Ev (d + 1) 219 83 [some (rf 53), some (nt 40), none, none, none] [nt v] J (fun w J => ∃ v, w = some (nt v) ∧ evP I (1 + 5 * (k + 1)) o (lz_op b n (k + 1) a) v J))) ∧
        (lz_by b n a ≠ 40 → EvM d 219 [rf 53] (upd_ (upd_ I 53 18 (o + 1)) 53 15 ((a + 1 : Nat) : Int)) (fun w J => ∃ v, w = some (nt v) ∧ Ev (d + 1) 219 83 [some (rf 53), some (nt (lz_by b n a)), none, none, none] [nt v] J (fun w J => ∃ v, w = some (nt v) ∧ evP I (1 + 5 * (k + 1)) o (lz_op b n (k + 1) a) v J))) := by
      constructor
      · intro h40
        refine (he _ (a + 1) hJA hJS (by omega)).mono fun w J hw => ?_
        obtain ⟨v, rfl, hP⟩ := hw
        refine ⟨v, rfl, ?_⟩
        have eop2 : lz_op b n (k + 1) a = lz_o1 b n a (lz_ch b n (lz_op b n k) 5 (a + 1)) := by rw [eop, h40]; rfl
        rw [eop2]
        have hbd := lz_ch_P (b := b) (n := n) (f := lz_op b n k) (fun a h => lz_op_P k a h) 5 (a + 1) (by omega)
        revert hP hbd
        match lz_ch b n (lz_op b n k) 5 (a + 1) with
        | (true, a', c') =>
          intro hP hbd
          obtain ⟨p1, p2, -⟩ := hP
          obtain ⟨p2, p3⟩ := p2 rfl
          rw [h61] at p3
          have ha' : a' ≤ n := hbd.2.1
          refine Ev.go [] (T := T_219) rfl rfl ?_
          conv => whnf
          refine ⟨by omega, m212 (by omega) (hJA.mv p1) p2 (fun q => ?_) (fun q => ?_) (show a' ≤ 120 by omega)⟩ <;> conv => whnf
          · have e18' : isb (upd_ J 53 15 ((a' + 1 : Nat) : Int) 53 18) 1 = o := by rw [up_ne (by decide), p2.2.2, isb_e (by omega)]; omega
            rw [e18']
            refine ⟨trivial, v, rfl, ?_⟩
            rw [show lz_o1 b n a (true, a', c') = (true, a' + 1, c') by show (bif decide (lz_by b n a' = 41) then _ else _) = _; rw [decide_eq_true q]; rfl]
            exact ⟨hJF.tr ((p1.up (Or.inl rfl)).up (Or.inr (Or.inr rfl))), fun _ => ⟨⟨by rw [up_ne (by decide), up_eq], by simp (disch := decide) only [up_ne]; exact p2.2.1, up_eq _ _ _ _⟩, p3.mono (by omega)⟩, fun z => (by cases z)⟩
          · refine ⟨by omega, m211 (fun _ => ?_) (fun z => by exfalso; rw [p2.2.1] at z; omega)⟩
            conv => whnf
            refine ⟨trivial, _, rfl, ?_⟩
            rw [show lz_o1 b n a (true, a', c') = (false, a', []) by show (bif decide (lz_by b n a' = 41) then _ else _) = _; rw [decide_eq_false q]; rfl]
            exact ⟨hJF.tr (p1.up (Or.inr (Or.inl rfl))), fun z => (by cases z), fun _ => ⟨by rw [up_eq]; exact p2.1, by rw [up_ne (by decide), p2.1]; omega⟩⟩
        | (false, a', c') =>
          intro hP hbd
          obtain ⟨p1, -, p2⟩ := hP
          obtain ⟨p2, p3⟩ := p2 rfl
          have p2 : J 53 17 = (a' : Int) := p2
          refine Ev.go [] (T := T_219) rfl rfl ?_
          conv => whnf
          refine ⟨by omega, m212x (by omega) ?_⟩
          conv => whnf
          refine ⟨by omega, m211 (fun z => by exfalso; omega) (fun _ => ?_)⟩
          conv => whnf
          exact ⟨trivial, _, rfl, hJF.tr p1, fun z => (by cases z), fun _ => ⟨p2, p3⟩⟩
      · intro h40
        refine (h1 _ (a + 1) hJA hJS (by omega)).mono fun w J hw => ?_
        obtain ⟨v, rfl, hP⟩ := hw
        refine ⟨v, rfl, ?_⟩
        have eop2 : lz_op b n (k + 1) a = lz_o2 (lz_by b n a) (lz_op b n k (a + 1)) := by
          rw [eop, decide_eq_false h40]
          have : (decide (lz_by b n a = 33) || decide (lz_by b n a = 45)) = true := by
            rw [Bool.or_eq_true, decide_eq_true_eq, decide_eq_true_eq]; omega
          rw [this]; rfl
        rw [eop2]
        revert hP
        match lz_op b n k (a + 1) with
        | (true, a', c') =>
          intro hP
          obtain ⟨p1, p2, -⟩ := hP
          obtain ⟨p2, p3⟩ := p2 rfl
          rw [h61] at p3
          have e18' : isb (J 53 18) 1 = o := by rw [p2.2.2, isb_e (by omega)]; omega
          refine Ev.go [] (T := T_219) rfl rfl ?_
          conv => whnf
          refine brI (fun q => by exfalso; omega) (fun _ => ?_)
          conv => whnf
          rw [e18']
          refine brI (fun q => by exfalso; omega) (fun _ => ?_)
          conv => whnf
          have fin : ∀ (s v' : Int), (s = -33 ∨ s = -126) → (bif decide (lz_by b n a = 33) then (-33 : Int) else -126) = s → v' = (if s = -126 then ing v else if v = 0 then 1 else 0) → evP I (1 + 5 * (k + 1)) o (lz_o2 (lz_by b n a) (true, a', c')) v' (upd_ J 53 18 o) := fun s v' hs e1 e2 => by
            rw [show lz_o2 (lz_by b n a) (true, a', c') = (true, a', c' ++ [s]) by show (true, a', c' ++ [_]) = _; rw [e1]]
            refine ⟨hJF.tr (p1.up (Or.inr (Or.inr rfl))), fun _ => ⟨⟨by rw [up_ne (by decide)]; exact p2.1, by rw [up_ne (by decide)]; exact p2.2.1, up_eq _ _ _ _⟩, ?_⟩, fun z => (by cases z)⟩
            rw [e2]
            exact (lz_V_un p3 hs).mono (by omega)
          refine brI (fun q => ?_) (fun q => ?_) <;> conv => whnf
          · exact ⟨trivial, _, rfl, fin (-126) _ (Or.inr rfl) (by rw [decide_eq_false (by omega)]; rfl) (by rw [if_pos rfl])⟩
          · refine brI (fun q2 => ?_) (fun q2 => ?_) <;> conv => whnf
            · exact ⟨trivial, _, rfl, fin (-33) _ (Or.inl rfl) (by rw [decide_eq_true (by omega)]; rfl) (by rw [if_neg (by decide), if_pos q2])⟩
            · exact ⟨trivial, _, rfl, fin (-33) _ (Or.inl rfl) (by rw [decide_eq_true (by omega)]; rfl) (by rw [if_neg (by decide), if_neg q2])⟩
        | (false, a', c') =>
          intro hP
          obtain ⟨p1, -, p2⟩ := hP
          obtain ⟨p2, p3⟩ := p2 rfl
          have p2 : J 53 17 = (a' : Int) := p2
          have fin : ∀ v' x, evP I (1 + 5 * (k + 1)) o (lz_o2 (lz_by b n a) (false, a', c')) v' (upd_ J 53 18 x) := fun v' x => ⟨hJF.tr (p1.up (Or.inr (Or.inr rfl))), fun z => (by cases z), fun _ => ⟨by rw [up_ne (by decide)]; exact p2, by rw [up_ne (by decide)]; exact p3⟩⟩
          refine Ev.go [] (T := T_219) rfl rfl ?_
          conv => whnf
          repeat' first
            | (refine brI (fun _ => ?_) (fun _ => ?_) <;> conv => whnf)
            | fail
          all_goals first
            | exact ⟨trivial, _, rfl, fin _ _⟩
            | (exfalso; omega)
    obtain ⟨r1, r2⟩ := rest
    have h18 := hS.2.2
    repeat' first
      | (rw [e18, e15])
      | (refine brI (fun _ => ?_) (fun _ => ?_) <;> conv => whnf)
      | fail
    all_goals first
      | (exfalso; omega)
      | skip
    all_goals
      by_cases h40 : lz_by b n a = 40
      · first
        | (exfalso; omega)
        | (rw [h40]; refine ⟨by omega, (r1 h40).mono fun w J hw => ?_⟩; obtain ⟨v, rfl, hw⟩ := hw; (conv => whnf); exact ⟨trivial, hw⟩)
      · first
        | (exfalso; omega)
        | (refine ⟨by omega, (r2 h40).mono fun w J hw => ?_⟩; obtain ⟨v, rfl, hw⟩ := hw; (conv => whnf); exact ⟨trivial, hw⟩)
  · refine one_base (by omega) (by omega) hA hS ha hop (fun hd hn => ?_) (fun v J hP => ⟨v, rfl, hP⟩)
    rw [decide_eq_false (fun q => hop (Or.inl q)), decide_eq_false (fun q => hop (Or.inr (Or.inl q))), decide_eq_false (fun q => hop (Or.inr (Or.inr q)))]
    rfl
