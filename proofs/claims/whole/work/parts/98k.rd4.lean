/-! THE CLASS'S READING: operands, a whole expression -/
theorem lz_ob_d {b : Nat → Int} {n a : Nat} {r : lz_R} (h : lz_dig (lz_by b n a) = true) : lz_ob b n a r = (true, (lz_num b n 4 a 0).1, [(lz_num b n 4 a 0).2]) := by unfold lz_ob; rw [h]; rfl
theorem lz_ob_n {b : Nat → Int} {n a : Nat} {r : lz_R} (h0 : lz_dig (lz_by b n a) = false) (h : 0 ≤ lz_nm (lz_by b n a)) : lz_ob b n a r = (true, a + 1, [-1 - lz_nm (lz_by b n a)]) := by unfold lz_ob; rw [h0, decide_eq_true h]; rfl
theorem lz_ob_z {b : Nat → Int} {n a : Nat} {r : lz_R} (h0 : lz_dig (lz_by b n a) = false) (h : ¬ 0 ≤ lz_nm (lz_by b n a)) : lz_ob b n a r = r := by unfold lz_ob; rw [h0, decide_eq_false h]; rfl
theorem lz_nm_no {c : Int} (h : ¬ (c = 118 ∨ c = 110 ∨ c = 103 ∨ c = 116 ∨ c = 107 ∨ c = 100)) : ¬ 0 ≤ lz_nm c := by
  unfold lz_nm
  rw [if_neg (by omega), if_neg (by omega), if_neg (by omega), if_neg (by omega), if_neg (by omega), if_neg (by omega)]
  decide
def rdQ (J : ME) (r : lz_R) : Option MV → ME → Prop := fun v K => v = some (nt (if r.1 = true then 1 else 0)) ∧ K = upd_ (wrL J r.2.2) 14 3 (r.2.1 : Int)
theorem x111_h {d a n : Nat} {o : Int} {b : Nat → Int} {r : lz_R} {J : ME} (hd : 10 ≤ d) (hA : rdA b n J) (ha : J 14 3 = (a : Int)) (han : a ≤ n) (hw : J 14 4 = 1 → (lz_ob b n a r).1 = true ∧ 0 ≤ J 7 4 ∧ J 7 4 + (lz_ob b n a r).2.2.length ≤ 120)
    (rest : lz_ob b n a r = r → Ev (d + 1) 111 43 [some (rf 14), some (nt o), some (nt 0), none] [] J (rdQ J r)) : EvM (d + 1) 111 [rf 14, nt o] J (rdQ J (lz_ob b n a r)) := by
  have h120 := hA.2.1
  refine EvM.go [43] (T := T_111) rfl rfl rfl rfl ?_
  conv => whnf
  refine ⟨by omega, x113 hA ha (fun q => ?_) (fun q => ?_)⟩ <;> conv => whnf
  · rw [lz_ob_d q] at hw ⊢
    refine ⟨by omega, x112 (by omega) hA ha ?_⟩
    conv => whnf
    refine ⟨by omega, x115 (by omega) (by rw [up_ne (by decide)]; exact hA.2.2.2) (fun z => ?_) ?_⟩
    · rw [up_ne (by decide)] at z
      have := hw z
      rw [up_c (by decide)]
      simp only [List.length_cons, List.length_nil] at this
      omega
    · conv => whnf
      exact ⟨trivial, rfl, wrL_up _ _ _⟩
  · refine ⟨by omega, tk_0 (a := a) (by omega) hA ha (fun p => ?_) (fun p => ?_)⟩ <;> conv => whnf
    · have hlt := lz_by_lt (b := b) (n := n) (a := a) (by omega)
      obtain ⟨e1, e2, e3⟩ := hA.by hlt
      have hnm : 0 ≤ lz_nm (lz_by b n a) := by
        rcases p with p | p | p | p | p | p <;> rw [p] <;> decide
      rw [lz_ob_n q hnm] at hw ⊢
      refine brI (fun z => by exfalso; omega) (fun _ => ?_)
      conv => whnf
      rw [i2c_c e2 e3]
      refine ⟨by omega, ix_0 (by omega) e2 e3 (fun w => ?_) (fun w => ?_) (fun w => ?_) (fun w => ?_) (fun w => ?_) (fun w => ?_) (fun w => absurd p w)⟩ <;> conv => whnf
      all_goals
        rw [w] at hw ⊢
        refine ⟨by omega, x115 (by omega) (by rw [up_ne (by decide)]; exact hA.2.2.2) (fun z => ?_) ?_⟩
        · rw [up_ne (by decide)] at z
          have := hw z
          rw [up_c (by decide)]
          simp only [List.length_cons, List.length_nil] at this
          omega
        · conv => whnf
          exact ⟨trivial, rfl, wrL_up _ _ _⟩
    · rw [lz_ob_z q (lz_nm_no p)]
      exact ⟨trivial, rest (lz_ob_z q (lz_nm_no p))⟩
theorem x111_0 {d n : Nat} {b : Nat → Int} (hd : 10 ≤ d) : rdC (d + 1) 111 [nt 6] b n (lz_op b n 0) := by
  intro J a hA ha han hw
  refine x111_h hd hA ha han hw (fun _ => ?_)
  refine Ev.go [] (T := T_111) rfl rfl ?_
  conv => whnf
  refine ⟨trivial, rfl, ?_⟩
  show J = upd_ (wrL J []) 14 3 (a : Int)
  rw [wrL_nil, up_id ha]
theorem x111_s {d n k : Nat} {o : Int} {b : Nat → Int} (hd : 10 ≤ d) (o0 : 0 ≤ o) (o1 : o < 6) (hc : rdC d 109 [nt 0, nt (o + 1)] b n (lz_ch b n (lz_op b n k) 5)) (ho : rdC d 111 [nt (o + 1)] b n (lz_op b n k)) : rdC (d + 1) 111 [nt o] b n (lz_op b n (k + 1)) := by
  intro J a hA ha han hw
  refine x111_h hd hA ha han hw (fun er => ?_)
  have h120 := hA.2.1
  have hw : J 14 4 = 1 → _ := hw
  rw [show lz_op b n (k + 1) a = lz_ob b n a _ from rfl, er] at hw
  clear er
  refine Ev.go [] (T := T_111) rfl rfl ?_
  conv => whnf
  refine brI (fun _ => ?_) (fun _ => by exfalso; omega)
  conv => whnf
  refine ⟨by omega, tk_1 (a := a) (by omega) hA ha (fun p => ?_) (fun p => ?_)⟩ <;> conv => whnf
  · have hlt := lz_by_lt (b := b) (n := n) (a := a) (by omega)
    have hA1 := hA.up ((a + 1 : Nat) : Int)
    have hw4 : upd_ J 14 3 ((a + 1 : Nat) : Int) 14 4 = J 14 4 := up_ne (by decide)
    have h74 : upd_ J 14 3 ((a + 1 : Nat) : Int) 7 4 = J 7 4 := by rw [up_c (by decide)]
    refine brI (fun z => by exfalso; omega) (fun _ => ?_)
    conv => whnf
    refine brI (fun z => ?_) (fun z => ?_) <;> conv => whnf
    · have hs := hc (upd_ J 14 3 ((a + 1 : Nat) : Int)) (a + 1) hA1 (up_eq _ _ _ _) hlt
      rw [show decide (lz_by b n a = 40) = true from decide_eq_true z] at hw ⊢
      rw [hw4, h74] at hs
      have hP := lz_ch_P (b := b) (n := n) (f := lz_op b n k) (fun a h => lz_op_P (b := b) k a h) 5 (a + 1) hlt
      rw [iad_e (by omega)]
      revert hs hw hP
      simp only [cond_true]
      match lz_ch b n (lz_op b n k) 5 (a + 1) with
      | (true, a', c') =>
        intro hw hs hP
        have b2 : a' ≤ n := hP.2.1
        by_cases h41 : lz_by b n a' = 41
        · rw [show lz_o1 b n a (true, a', c') = (true, a' + 1, c') by unfold lz_o1; show (bif decide (lz_by b n a' = 41) then _ else _) = _; rw [decide_eq_true h41]; rfl] at hw ⊢
          refine ⟨by omega, (hs (fun z => ⟨rfl, (hw z).2⟩)).mono fun v K hv => ?_⟩
          obtain ⟨rfl, rfl⟩ := hv
          conv => whnf
          refine ⟨by omega, tk_2 (a := a') (by omega) (hA1.mv c' _) (up_eq _ _ _ _) (fun q => ?_) (fun q => absurd h41 q)⟩
          conv => whnf
          refine brI (fun z => by exfalso; omega) (fun _ => ?_)
          conv => whnf
          refine ⟨trivial, rfl, ?_⟩
          show upd_ (upd_ (wrL (upd_ J 14 3 ((a + 1 : Nat) : Int)) c') 14 3 (a' : Int)) 14 3 ((a' + 1 : Nat) : Int) = upd_ (wrL J c') 14 3 ((a' + 1 : Nat) : Int)
          rw [up_up, wrL_up, up_up]
        · rw [show lz_o1 b n a (true, a', c') = (false, a', []) by unfold lz_o1; show (bif decide (lz_by b n a' = 41) then _ else _) = _; rw [decide_eq_false h41]; rfl] at hw ⊢
          have h0 : ¬ J 14 4 = 1 := fun z => by have := (hw z).1; cases this
          refine ⟨by omega, (hs (fun z => absurd z h0)).mono fun v K hv => ?_⟩
          obtain ⟨rfl, rfl⟩ := hv
          conv => whnf
          refine ⟨by omega, tk_2 (a := a') (by omega) (hA1.mv c' _) (up_eq _ _ _ _) (fun q => absurd q h41) (fun q => ?_)⟩
          conv => whnf
          refine ⟨trivial, rfl, ?_⟩
          show upd_ (wrL (upd_ J 14 3 ((a + 1 : Nat) : Int)) c') 14 3 (a' : Int) = upd_ (wrL J []) 14 3 (a' : Int)
          rw [wrL_up, up_up, wrL_0 h0, wrL_0 h0]
      | (false, a', c') =>
        intro hw hs hP
        have h0 : ¬ J 14 4 = 1 := fun z => by have := (hw z).1; cases this
        refine ⟨by omega, (hs (fun z => absurd z h0)).mono fun v K hv => ?_⟩
        obtain ⟨rfl, rfl⟩ := hv
        conv => whnf
        refine ⟨trivial, rfl, ?_⟩
        show upd_ (wrL (upd_ J 14 3 ((a + 1 : Nat) : Int)) c') 14 3 (a' : Int) = upd_ (wrL J []) 14 3 (a' : Int)
        rw [wrL_up, up_up, wrL_0 h0, wrL_0 h0]
    · have hs := ho (upd_ J 14 3 ((a + 1 : Nat) : Int)) (a + 1) hA1 (up_eq _ _ _ _) hlt
      have hor : (decide (lz_by b n a = 33) || decide (lz_by b n a = 45)) = true := by
        rcases p with p | p | p
        · exact absurd p z
        · rw [decide_eq_true p]; rfl
        · rw [decide_eq_true p, Bool.or_true]
      rw [show decide (lz_by b n a = 40) = false from decide_eq_false z, hor] at hw ⊢
      rw [hw4, h74] at hs
      rw [iad_e (by omega)]
      revert hs hw
      simp only [cond_true, cond_false]
      match lz_op b n k (a + 1) with
      | (true, a', c') =>
        intro hw hs
        have hlen : J 14 4 = 1 → 0 ≤ J 7 4 ∧ J 7 4 + c'.length + 1 ≤ 120 := fun z => by
          obtain ⟨w1, w2, w3⟩ := hw z
          have w3 : J 7 4 + ((c' ++ [bif decide (lz_by b n a = 33) then (-33 : Int) else -126]).length : Int) ≤ 120 := w3
          simp only [List.length_append, List.length_cons, List.length_nil] at w3
          omega
        refine ⟨by omega, (hs (fun z => ⟨rfl, (hlen z).1, by have := hlen z; show J 7 4 + (c'.length : Int) ≤ 120; omega⟩)).mono fun v K hv => ?_⟩
        obtain ⟨rfl, rfl⟩ := hv
        conv => whnf
        refine brI (fun y => ?_) (fun y => ?_) <;> conv => whnf
        all_goals
          refine ⟨by omega, x115 (by omega) (by rw [wrL_w, hw4]; exact hA.2.2.2) (fun x => ?_) ?_⟩
          · rw [wrL_w, hw4] at x
            have := hlen x
            rw [wrL_7 (by rw [hw4]; exact x), h74]
            show 0 ≤ J 7 4 + (c'.length : Int) ∧ J 7 4 + (c'.length : Int) < 120
            omega
          · conv => whnf
            rw [wrL_3, wrL_up, up_up]
            refine ⟨trivial, rfl, ?_⟩
            show _ = upd_ (wrL J (c' ++ [bif decide (lz_by b n a = 33) then (-33 : Int) else -126])) 14 3 (a' : Int)
            first
            | rw [decide_eq_true y]; rfl
            | rw [decide_eq_false y]; rfl
      | (false, a', c') =>
        intro hw hs
        have h0 : ¬ J 14 4 = 1 := fun z => by have := (hw z).1; cases this
        refine ⟨by omega, (hs (fun z => absurd z h0)).mono fun v K hv => ?_⟩
        obtain ⟨rfl, rfl⟩ := hv
        conv => whnf
        refine ⟨trivial, rfl, ?_⟩
        show upd_ (wrL (upd_ J 14 3 ((a + 1 : Nat) : Int)) c') 14 3 (a' : Int) = upd_ (wrL J []) 14 3 (a' : Int)
        rw [wrL_up, up_up, wrL_0 h0, wrL_0 h0]
  · rw [show decide (lz_by b n a = 40) = false from decide_eq_false (by omega), show decide (lz_by b n a = 33) = false from decide_eq_false (by omega), show decide (lz_by b n a = 45) = false from decide_eq_false (by omega)]
    refine ⟨trivial, rfl, ?_⟩
    show J = upd_ (wrL J []) 14 3 (a : Int)
    rw [wrL_nil, up_id ha]
theorem x109_all {d n : Nat} {o : Int} {b : Nat → Int} {g0 : Nat → lz_R} (hd : 10 ≤ d) (hP : ∀ a, a ≤ n → lz_P n a (g0 a)) (h : rdC d 111 [nt o] b n g0) : rdC (d + 6) 109 [nt 0, nt o] b n (lz_ch b n g0 5) :=
  x109_5 (by omega) (fun a ha => lz_ch_P hP 4 a ha) (x109_4 (by omega) (fun a ha => lz_ch_P hP 3 a ha) (x109_3 (by omega) (fun a ha => lz_ch_P hP 2 a ha) (x109_2 (by omega) (fun a ha => lz_ch_P hP 1 a ha) (x109_1 (by omega) (fun a ha => lz_ch_P hP 0 a ha) (x109_0 h)))))
theorem x111_all {n : Nat} {b : Nat → Int} : ∀ (k d : Nat), k ≤ 6 → 11 + 8 * k ≤ d → rdC d 111 [nt (6 - (k : Int))] b n (lz_op b n k)
  | 0, d, _, hd => by
    obtain ⟨e, rfl⟩ : ∃ e, d = e + 1 := ⟨d - 1, by omega⟩
    exact x111_0 (by omega)
  | k + 1, d, hk, hd => by
    obtain ⟨e, rfl⟩ : ∃ e, d = e + 7 := ⟨d - 7, by omega⟩
    have e1 : (6 : Int) - ((k + 1 : Nat) : Int) + 1 = 6 - (k : Int) := by omega
    have h1 := x111_all (n := n) (b := b) k e (by omega) (by omega)
    have h2 := x111_all (n := n) (b := b) k (e + 6) (by omega) (by omega)
    exact x111_s (by omega) (by omega) (by omega) (by rw [e1]; exact x109_all (by omega) (fun a ha => lz_op_P (b := b) k a ha) h1) (by rw [e1]; exact h2)
theorem x109 {d n : Nat} {b : Nat → Int} (hd : 65 ≤ d) : rdC d 109 [nt 0, nt 0] b n (lz_E b n) := by
  obtain ⟨e, rfl⟩ : ∃ e, d = e + 6 := ⟨d - 6, by omega⟩
  exact x109_all (by omega) (fun a ha => lz_op_P (b := b) 6 a ha) (x111_all 6 e (by omega) (by omega))
