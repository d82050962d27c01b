/-! THE CLASS'S READING: a line, a text -/
theorem up_sw {J : ME} {c c' : Nat} {i i' v v' : Int} (h : c ≠ c') : upd_ (upd_ J c i v) c' i' v' = upd_ (upd_ J c' i' v') c i v := by
  funext x y
  unfold upd_
  by_cases h1 : x = c ∧ y = i
  · have h2 : ¬ (x = c' ∧ y = i') := fun z => h (h1.1.symm.trans z.1)
    simp only [if_pos h1, if_neg h2]
  · simp only [if_neg h1]
theorem x27 {d : Nat} {J : ME} {Q : Option MV → ME → Prop} (h : Q (some (nt (J 7 4))) J) : EvM d 27 [rf 7] J Q := by
  refine EvM.go [] (T := T_27) rfl rfl rfl rfl ?_
  conv => whnf
  exact ⟨trivial, h⟩
theorem x29 {d : Nat} {m : Int} {J : ME} {Q : Option MV → ME → Prop} (h0 : 0 ≤ J 7 5) (h1 : J 7 5 < 120) (h : Q none (upd_ (upd_ (upd_ J 9 (J 7 5) m) 7 5 (J 7 5 + 1)) 10 (J 7 5) (J 7 4))) : EvM d 29 [rf 7, nt m] J Q := by
  refine EvM.go [] (T := T_29) rfl rfl rfl rfl ?_
  conv => whnf
  refine brI (fun _ => ?_) (fun z => by exfalso; omega)
  conv => whnf
  refine anI (by omega) ?_
  conv => whnf
  simp (disch := decide) only [up_c, up_ne]
  refine anI (by omega) ?_
  conv => whnf
  rw [iad_e (by omega)]
  exact ⟨trivial, h⟩
theorem x26 {d : Nat} {J : ME} {Q : Option MV → ME → Prop} (h0 : 0 ≤ J 7 9) (h1 : J 7 9 < 1000000) (h : Q none (upd_ (upd_ (upd_ J 7 4 0) 7 5 0) 7 9 (J 7 9 + 1))) : EvM d 26 [rf 7] J Q := by
  refine EvM.go [] (T := T_26) rfl rfl rfl rfl ?_
  conv => whnf
  simp (disch := decide) only [up_ne]
  rw [iad_e (by omega)]
  exact ⟨trivial, h⟩
theorem x109_z {d n a : Nat} {b : Nat → Int} {J : ME} (hd : 65 ≤ d) (hA : rdA b n J) (ha : J 14 3 = (a : Int)) (han : a ≤ n) (hz : J 14 4 = 0) : EvM d 109 [rf 14, nt 0, nt 0] J (fun v K => v = some (nt (if (lz_E b n a).1 = true then 1 else 0)) ∧ K = upd_ J 14 3 ((lz_E b n a).2.1 : Int)) := by
  have h := x109 (b := b) (n := n) hd J a hA ha han (fun z => by omega)
  rw [wrL_0 (by omega)] at h
  exact h
theorem x109_w {d n a a' : Nat} {b : Nat → Int} {J : ME} {c : List Int} (hd : 65 ≤ d) (hA : rdA b n J) (ha : J 14 3 = (a : Int)) (han : a ≤ n) (hw : J 14 4 = 1) (he : lz_E b n a = (true, a', c)) (h0 : 0 ≤ J 7 4) (h1 : J 7 4 + c.length ≤ 120) : EvM d 109 [rf 14, nt 0, nt 0] J (fun v K => v = some (nt 1) ∧ K = upd_ (wrs2 J c) 14 3 (a' : Int)) := by
  have h := x109 (b := b) (n := n) hd J a hA ha han
  rw [he] at h
  unfold wrL at h
  rw [if_pos hw] at h
  exact h (fun _ => ⟨rfl, h0, h1⟩)
theorem lz_ln_f {b : Nat → Int} {n a a1 : Nat} {c1 : List Int} (he : lz_E b n a = (false, a1, c1)) : lz_ln b n a = (false, a1, ([], [])) := by
  unfold lz_ln; rw [he]
theorem lz_ln_n {b : Nat → Int} {n a a1 : Nat} {c1 : List Int} (he : lz_E b n a = (true, a1, c1)) (h : ¬ lz_by b n a1 = 63) : lz_ln b n a = (true, a1, ([], c1)) := by
  unfold lz_ln; rw [he]
  show (bif decide (lz_by b n a1 = 63) then _ else _) = _
  rw [decide_eq_false h]; rfl
theorem lz_ln_q {b : Nat → Int} {n a a1 a2 : Nat} {c1 c2 : List Int} (he : lz_E b n a = (true, a1, c1)) (h : lz_by b n a1 = 63) (he2 : lz_E b n (a1 + 1) = (true, a2, c2)) : lz_ln b n a = (true, a2, (c1, c2)) := by
  unfold lz_ln; rw [he]
  show (bif decide (lz_by b n a1 = 63) then _ else _) = _
  rw [decide_eq_true h, he2]; rfl
theorem lz_ln_g {b : Nat → Int} {n a a1 a2 : Nat} {c1 c2 : List Int} (he : lz_E b n a = (true, a1, c1)) (h : lz_by b n a1 = 63) (he2 : lz_E b n (a1 + 1) = (false, a2, c2)) : lz_ln b n a = (false, a2, ([], [])) := by
  unfold lz_ln; rw [he]
  show (bif decide (lz_by b n a1 = 63) then _ else _) = _
  rw [decide_eq_true h, he2]; rfl
theorem x108_0 {d n a : Nat} {b : Nat → Int} {J : ME} (hd : 65 ≤ d) (hA : rdA b n J) (ha : J 14 3 = (a : Int)) (han : a ≤ n) (hz : J 14 4 = 0) : EvM (d + 1) 108 [rf 14] J (fun v K => v = some (nt (if (lz_ln b n a).1 = true then 1 else 0)) ∧ K = upd_ J 14 3 ((lz_ln b n a).2.1 : Int)) := by
  have h120 := hA.2.1
  refine EvM.go [] (T := T_108) rfl rfl rfl rfl ?_
  conv => whnf
  refine ⟨by omega, x27 ?_⟩
  conv => whnf
  refine ⟨by omega, (x109_z hd hA ha han hz).mono fun v K hv => ?_⟩
  obtain ⟨rfl, rfl⟩ := hv
  have hP := lz_E_P (b := b) (n := n) (a := a) han
  rcases he : lz_E b n a with ⟨r, a1, c1⟩
  rw [he] at hP
  have hb1 : a1 ≤ n := hP.2.1
  cases r with
  | false =>
    rw [lz_ln_f he]
    conv => whnf
    exact ⟨trivial, rfl, rfl⟩
  | true =>
    conv => whnf
    refine ⟨by omega, tk_8 (a := a1) (by omega) (hA.up _) (up_eq _ _ _ _) (fun q => ?_) (fun q => ?_)⟩
    · have hlt := lz_by_lt (b := b) (n := n) (a := a1) (by omega)
      rw [up_up]
      have hP2 := lz_E_P (b := b) (n := n) (a := a1 + 1) hlt
      rcases he2 : lz_E b n (a1 + 1) with ⟨r2, a2, c2⟩
      conv => whnf
      refine brI (fun z => by exfalso; omega) (fun _ => ?_)
      conv => whnf
      refine ⟨by omega, x27 ?_⟩
      conv => whnf
      refine ⟨by omega, (x109_z (a := a1 + 1) (b := b) (n := n) hd (hA.up _) (up_eq _ _ _ _) hlt (by rw [up_ne (by decide)]; exact hz)).mono fun v K hv => ?_⟩
      obtain ⟨rfl, rfl⟩ := hv
      rw [he2]
      cases r2 with
      | false =>
        rw [lz_ln_g he q he2]
        conv => whnf
        exact ⟨trivial, rfl, up_up _ _ _ _ _⟩
      | true =>
        rw [lz_ln_q he q he2]
        conv => whnf
        refine brI (fun _ => ?_) (fun z => absurd hz z)
        conv => whnf
        exact ⟨trivial, rfl, up_up _ _ _ _ _⟩
    · rw [lz_ln_n he q]
      conv => whnf
      refine brI (fun _ => ?_) (fun z => absurd hz z)
      conv => whnf
      exact ⟨trivial, rfl, rfl⟩
def lnQ (J : ME) (q : List Int × List Int) : ME := upd_ (upd_ (upd_ (wrs2 J (q.1 ++ q.2)) 9 (J 7 5) (J 7 4 + q.1.length)) 7 5 (J 7 5 + 1)) 10 (J 7 5) (J 7 4 + q.1.length + q.2.length)
theorem lnQ_up (J : ME) (q : List Int × List Int) (v : Int) : lnQ (upd_ J 14 3 v) q = upd_ (lnQ J q) 14 3 v := by
  unfold lnQ
  rw [show upd_ J 14 3 v 7 = J 7 from up_c (by decide), wrs2_up, up_sw (c := 14) (c' := 9) (by decide), up_sw (c := 14) (c' := 7) (by decide), up_sw (c := 14) (c' := 10) (by decide)]
theorem lnQ_F (J : ME) (q : List Int × List Int) : Fr [7, 8, 9, 10] J (lnQ J q) := fun c hc => by
  unfold lnQ
  rw [up_c (by intro z; apply hc; rw [z]; decide), up_c (by intro z; apply hc; rw [z]; decide), up_c (by intro z; apply hc; rw [z]; decide), wrs2_F _ J c (fun z => hc (List.mem_append_left [9, 10] z))]
theorem x108_1 {d n a a' : Nat} {b : Nat → Int} {J : ME} {q : List Int × List Int} (hd : 65 ≤ d) (hA : rdA b n J) (ha : J 14 3 = (a : Int)) (han : a ≤ n) (hw : J 14 4 = 1) (hl : lz_ln b n a = (true, a', q)) (h0 : 0 ≤ J 7 4) (h1 : J 7 4 ≤ a) (h2 : 0 ≤ J 7 5) (h3 : J 7 5 ≤ a) : EvM (d + 1) 108 [rf 14] J (fun v K => v = some (nt 1) ∧ K = upd_ (lnQ J q) 14 3 (a' : Int)) := by
  have h120 := hA.2.1
  have hP := lz_E_P (b := b) (n := n) (a := a) han
  rcases he : lz_E b n a with ⟨r, a1, c1⟩
  rw [he] at hP
  cases r with
  | false => rw [lz_ln_f he] at hl; cases hl
  | true =>
    have hb1 : a1 ≤ n := hP.2.1
    obtain ⟨hb2, hb3, -⟩ := hP.2.2 rfl
    have hb2 : a < a1 := hb2
    have hb3 : c1.length + a ≤ a1 := hb3
    have g7 : ∀ c v, upd_ (wrs2 J c) 14 3 v 7 4 = J 7 4 + c.length := fun c v => by rw [up_c (by decide)]; exact (wrs2_7 c J).1
    have g75 : ∀ c v, upd_ (wrs2 J c) 14 3 v 7 5 = J 7 5 := fun c v => by rw [up_c (by decide)]; exact (wrs2_7 c J).2 5 (by decide)
    have g4 : ∀ c v, upd_ (wrs2 J c) 14 3 v 14 4 = 1 := fun c v => by rw [up_ne (by decide), wrs2_F c J 14 (by decide)]; exact hw
    have gA : ∀ c v, rdA b n (upd_ (wrs2 J c) 14 3 v) := fun c v => by have := hA.mv c v; unfold wrL at this; rw [if_pos hw] at this; exact this
    refine EvM.go [] (T := T_108) rfl rfl rfl rfl ?_
    conv => whnf
    refine ⟨by omega, x27 ?_⟩
    conv => whnf
    refine ⟨by omega, (x109_w hd hA ha han hw he h0 (by omega)).mono fun v K hv => ?_⟩
    obtain ⟨rfl, rfl⟩ := hv
    conv => whnf
    refine ⟨by omega, tk_8 (a := a1) (by omega) (gA _ _) (up_eq _ _ _ _) (fun p => ?_) (fun p => ?_)⟩
    · have hlt := lz_by_lt (b := b) (n := n) (a := a1) (by omega)
      rw [up_up]
      have hP2 := lz_E_P (b := b) (n := n) (a := a1 + 1) hlt
      rcases he2 : lz_E b n (a1 + 1) with ⟨r2, a2, c2⟩
      rw [he2] at hP2
      cases r2 with
      | false => rw [lz_ln_g he p he2] at hl; cases hl
      | true =>
        rw [lz_ln_q he p he2] at hl
        cases hl
        have hc1 : a' ≤ n := hP2.2.1
        obtain ⟨hc2, hc3, -⟩ := hP2.2.2 rfl
        have hc2 : a1 + 1 < a' := hc2
        have hc3 : c2.length + (a1 + 1) ≤ a' := hc3
        conv => whnf
        refine brI (fun z => by exfalso; omega) (fun _ => ?_)
        conv => whnf
        refine ⟨by omega, x27 ?_⟩
        conv => whnf
        refine ⟨by omega, (x109_w (a := a1 + 1) (b := b) (n := n) hd (gA _ _) (up_eq _ _ _ _) hlt (g4 _ _) he2 (by rw [g7]; omega) (by rw [g7]; omega)).mono fun v K hv => ?_⟩
        obtain ⟨rfl, rfl⟩ := hv
        rw [wrs2_up, up_up, ← wrs2_app, show upd_ (wrs2 J c1) 14 3 ((a1 + 1 : Nat) : Int) 7 4 = J 7 4 + c1.length from g7 _ _]
        conv => whnf
        refine brI (fun z => absurd (z.symm.trans (g4 (c1 ++ c2) (a' : Int))) (by decide)) (fun _ => ?_)
        conv => whnf
        refine ⟨by omega, x29 (by rw [g75]; omega) (by rw [g75]; omega) ?_⟩
        conv => whnf
        refine ⟨trivial, rfl, ?_⟩
        rw [g75, g7, up_sw (c := 14) (c' := 9) (by decide), up_sw (c := 14) (c' := 7) (by decide), up_sw (c := 14) (c' := 10) (by decide)]
        unfold lnQ
        rw [List.length_append, show J 7 4 + ((c1.length + c2.length : Nat) : Int) = J 7 4 + (c1.length : Int) + (c2.length : Int) by omega]
    · rw [lz_ln_n he p] at hl
      cases hl
      conv => whnf
      refine brI (fun z => absurd (z.symm.trans (g4 c1 (a' : Int))) (by decide)) (fun _ => ?_)
      conv => whnf
      refine ⟨by omega, x29 (by rw [g75]; omega) (by rw [g75]; omega) ?_⟩
      conv => whnf
      refine ⟨trivial, rfl, ?_⟩
      rw [g75, g7, up_sw (c := 14) (c' := 9) (by decide), up_sw (c := 14) (c' := 7) (by decide), up_sw (c := 14) (c' := 10) (by decide)]
      unfold lnQ
      rw [List.nil_append, show ((([] : List Int).length : Nat) : Int) = 0 from rfl, Int.add_zero]
theorem lz_ln_P {b : Nat → Int} {n a : Nat} (h : a ≤ n) : a ≤ (lz_ln b n a).2.1 ∧ (lz_ln b n a).2.1 ≤ n ∧ ((lz_ln b n a).1 = true → (lz_ln b n a).2.2.1.length + (lz_ln b n a).2.2.2.length + a ≤ (lz_ln b n a).2.1 ∧ a < (lz_ln b n a).2.1 ∧ (lz_ln b n a).2.2.2 ≠ []) := by
  have hP := lz_E_P (b := b) (n := n) (a := a) h
  rcases he : lz_E b n a with ⟨r, a1, c1⟩
  rw [he] at hP
  have p1 : a ≤ a1 := hP.1
  have p2 : a1 ≤ n := hP.2.1
  cases r with
  | false => rw [lz_ln_f he]; exact ⟨p1, p2, fun z => by cases z⟩
  | true =>
    obtain ⟨p3, p4, p5⟩ := hP.2.2 rfl
    have p3 : a < a1 := p3
    have p4 : c1.length + a ≤ a1 := p4
    by_cases p : lz_by b n a1 = 63
    · have hlt := lz_by_lt (b := b) (n := n) (a := a1) (by omega)
      have hP2 := lz_E_P (b := b) (n := n) (a := a1 + 1) hlt
      rcases he2 : lz_E b n (a1 + 1) with ⟨r2, a2, c2⟩
      rw [he2] at hP2
      have q1 : a1 + 1 ≤ a2 := hP2.1
      have q2 : a2 ≤ n := hP2.2.1
      cases r2 with
      | false => rw [lz_ln_g he p he2]; exact ⟨by show a ≤ a2; omega, q2, fun z => by cases z⟩
      | true =>
        rw [lz_ln_q he p he2]
        obtain ⟨q3, q4, q5⟩ := hP2.2.2 rfl
        have q4 : c2.length + (a1 + 1) ≤ a2 := q4
        exact ⟨by show a ≤ a2; omega, q2, fun _ => ⟨by show c1.length + c2.length + a ≤ a2; omega, by show a < a2; omega, q5⟩⟩
    · rw [lz_ln_n he p]
      exact ⟨p1, p2, fun _ => ⟨by show 0 + c1.length + a ≤ a1; omega, p3, p5⟩⟩
