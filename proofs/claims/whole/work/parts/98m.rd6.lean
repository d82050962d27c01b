/-! THE CLASS'S READING: a text -/
theorem tx_f {b : Nat → Int} {n m a a' : Nat} {q : List Int × List Int} {L : lz_L} (hl : lz_ln b n a = (false, a', q)) : lz_tx b n (m + 1) a L = (false, a', []) := by
  unfold lz_tx; rw [hl]
theorem tx_s {b : Nat → Int} {n m a a' : Nat} {q : List Int × List Int} {L : lz_L} (hl : lz_ln b n a = (true, a', q)) (p : lz_by b n a' = 59) : lz_tx b n (m + 1) a L = lz_tx b n m (a' + 1) (L ++ [q]) := by
  rw [lz_tx, hl]
  show (bif decide (lz_by b n a' = 59) then _ else _) = _
  rw [decide_eq_true p]; rfl
theorem tx_e {b : Nat → Int} {n m a a' : Nat} {q : List Int × List Int} {L : lz_L} (hl : lz_ln b n a = (true, a', q)) (p : ¬ lz_by b n a' = 59) : lz_tx b n (m + 1) a L = bif Nat.beq a' n then (true, a', L ++ [q]) else (false, a', []) := by
  rw [lz_tx, hl]
  show (bif decide (lz_by b n a' = 59) then _ else _) = _
  rw [decide_eq_false p]; rfl
theorem x107_0 {d n : Nat} {b : Nat → Int} {J : ME} (hd : 65 ≤ d) (hA : rdA b n J) (hz : J 14 4 = 0) : EvM (d + 2) 107 [rf 14] J (fun v K => v = some (nt (if (lz_T b n).1 = true then 1 else 0)) ∧ K = upd_ J 14 3 ((lz_T b n).2.1 : Int)) := by
  have h120 := hA.2.1
  have loop : ∀ (m a : Nat) (L : lz_L) (J : ME), a ≤ n → m ≤ n + 1 → rdA b n J → J 14 3 = (a : Int) → J 14 4 = 0 → Ev (d + 2) 107 7 [some (rf 14), some (nt ((n : Int) + 1 - (m : Int)))] [] J (fun v K => v = some (nt (if (lz_tx b n m a L).1 = true then 1 else 0)) ∧ K = upd_ J 14 3 ((lz_tx b n m a L).2.1 : Int)) := by
    intro m
    induction m with
    | zero =>
      intro a L J han hm hA ha hz
      have h2 := hA.1
      refine Ev.go [] (T := T_107) rfl rfl ?_
      conv => whnf
      refine brI (fun z => ?_) (fun z => ?_)
      all_goals first | (exfalso; omega) | skip
      conv => whnf
      refine ⟨trivial, rfl, ?_⟩
      show J = upd_ J 14 3 (a : Int)
      rw [up_id ha]
    | succ m ih =>
      intro a L J han hm hA ha hz
      have h2 := hA.1
      refine Ev.go [7] (T := T_107) rfl rfl ?_
      conv => whnf
      refine brI (fun z => ?_) (fun z => ?_)
      all_goals first | (exfalso; omega) | skip
      conv => whnf
      refine ⟨by omega, (x108_0 hd hA ha han hz).mono fun v K hv => ?_⟩
      obtain ⟨rfl, rfl⟩ := hv
      have hP := lz_ln_P (b := b) (n := n) (a := a) han
      rcases hl : lz_ln b n a with ⟨r, a', q⟩
      rw [hl] at hP
      have hb1 : a' ≤ n := hP.2.1
      cases r with
      | false =>
        rw [tx_f hl]
        conv => whnf
        exact ⟨trivial, rfl, rfl⟩
      | true =>
        conv => whnf
        refine ⟨by omega, tk_9 (a := a') (by omega) (hA.up _) (up_eq _ _ _ _) (fun p => ?_) (fun p => ?_)⟩
        · have hlt := lz_by_lt (b := b) (n := n) (a := a') (by omega)
          rw [tx_s hl p, up_up]
          conv => whnf
          refine brI (fun z => by exfalso; omega) (fun _ => ?_)
          conv => whnf
          have := ih (a' + 1) (L ++ [q]) (upd_ J 14 3 ((a' + 1 : Nat) : Int)) hlt (by omega) (hA.up _) (up_eq _ _ _ _) (by rw [up_ne (by decide)]; exact hz)
          rw [up_up] at this
          refine ⟨trivial, Ev.to ?_ rfl this⟩
          rw [iad_e (by omega), show (n : Int) + 1 - ((m + 1 : Nat) : Int) + 1 = (n : Int) + 1 - (m : Int) by omega]
        · rw [tx_e hl p]
          conv => whnf
          refine brI (fun z => ?_) (fun z => ?_)
          · have z : upd_ J 14 3 (a' : Int) 14 3 = upd_ J 14 3 (a' : Int) 14 2 := z
            rw [up_eq, up_ne (by decide), hA.1] at z
            rw [show Nat.beq a' n = true by rw [show a' = n by omega]; exact Nat.beq_refl n]
            conv => whnf
            exact ⟨trivial, rfl, rfl⟩
          · have z : ¬ upd_ J 14 3 (a' : Int) 14 3 = upd_ J 14 3 (a' : Int) 14 2 := z
            rw [up_eq, up_ne (by decide), hA.1] at z
            have e : Nat.beq a' n = false := by
              cases hq : Nat.beq a' n with
              | false => rfl
              | true => exact absurd (congrArg Int.ofNat (Nat.eq_of_beq_eq_true hq)) z
            rw [e]
            conv => whnf
            exact ⟨trivial, rfl, rfl⟩
  refine EvM.go [7] (T := T_107) rfl rfl rfl rfl ?_
  conv => whnf
  have := loop (n + 1) 0 [] (upd_ J 14 3 0) (Nat.zero_le n) (Nat.le_refl _) (hA.up _) (up_eq _ _ _ _) (by rw [up_ne (by decide)]; exact hz)
  rw [up_up, show (n : Int) + 1 - ((n + 1 : Nat) : Int) = 0 by omega] at this
  exact ⟨trivial, this⟩
def lnR (J : ME) : lz_L → ME
  | [] => J
  | q :: R => lnR (lnQ J q) R
theorem lnR_up : ∀ (R : lz_L) (J : ME) (v : Int), lnR (upd_ J 14 3 v) R = upd_ (lnR J R) 14 3 v
  | [], J, v => rfl
  | q :: R, J, v => by
    show lnR (lnQ (upd_ J 14 3 v) q) R = _
    rw [lnQ_up, lnR_up R]; rfl
theorem lnR_F : ∀ (R : lz_L) (J : ME), Fr [7, 8, 9, 10] J (lnR J R)
  | [], J => Fr.rfl'
  | q :: R, J => (lnQ_F J q).tr (lnR_F R (lnQ J q))
theorem lnQ_7 (J : ME) (q : List Int × List Int) : lnQ J q 7 4 = J 7 4 + q.1.length + q.2.length ∧ lnQ J q 7 5 = J 7 5 + 1 := by
  unfold lnQ
  constructor
  · rw [up_c (by decide), up_ne (by decide), up_c (by decide), (wrs2_7 _ J).1, List.length_append]; omega
  · rw [up_c (by decide), up_eq]
theorem rdA.ln {b : Nat → Int} {n : Nat} {J : ME} (h : rdA b n J) (q : List Int × List Int) (v : Int) : rdA b n (upd_ (lnQ J q) 14 3 v) := by
  unfold rdA
  rw [up_ne (by decide), up_ne (by decide), up_c (by decide), lnQ_F J q 14 (by decide), lnQ_F J q 15 (by decide)]
  exact h
theorem x107_1 {d n e : Nat} {b : Nat → Int} {J : ME} {L' : lz_L} (hd : 65 ≤ d) (hA : rdA b n J) (hw : J 14 4 = 1) (h0 : J 7 4 = 0) (h1 : J 7 5 = 0) (ht : lz_T b n = (true, e, L')) : EvM (d + 2) 107 [rf 14] J (fun v K => (∃ x, v = some (nt x)) ∧ K = upd_ (lnR J L') 14 3 (e : Int)) := by
  have h120 := hA.2.1
  have loop : ∀ (m a : Nat) (L : lz_L) (J : ME), a ≤ n → m ≤ n + 1 → rdA b n J → J 14 3 = (a : Int) → J 14 4 = 1 → 0 ≤ J 7 4 → J 7 4 ≤ a → 0 ≤ J 7 5 → J 7 5 ≤ a → lz_tx b n m a L = (true, e, L') → Ev (d + 2) 107 7 [some (rf 14), some (nt ((n : Int) + 1 - (m : Int)))] [] J (fun v K => (∃ x, v = some (nt x)) ∧ ∃ R, L' = L ++ R ∧ K = upd_ (lnR J R) 14 3 (e : Int)) := by
    intro m
    induction m with
    | zero =>
      intro a L J han hm hA ha hw g0 g1 g2 g3 ht
      cases ht
    | succ m ih =>
      intro a L J han hm hA ha hw g0 g1 g2 g3 ht
      have h2 := hA.1
      have hP := lz_ln_P (b := b) (n := n) (a := a) han
      rcases hl : lz_ln b n a with ⟨r, a', q⟩
      rw [hl] at hP
      have hb1 : a' ≤ n := hP.2.1
      cases r with
      | false => rw [tx_f hl] at ht; cases ht
      | true =>
        have hb2 : q.1.length + q.2.length + a ≤ a' := (hP.2.2 rfl).1
        have hb3 : a < a' := (hP.2.2 rfl).2.1
        have l7 := lnQ_7 J q
        refine Ev.go [7] (T := T_107) rfl rfl ?_
        conv => whnf
        refine brI (fun z => ?_) (fun z => ?_)
        all_goals first | (exfalso; omega) | skip
        conv => whnf
        refine ⟨by omega, (x108_1 hd hA ha han hw hl g0 g1 g2 g3).mono fun v K hv => ?_⟩
        obtain ⟨rfl, rfl⟩ := hv
        conv => whnf
        refine ⟨by omega, tk_9 (a := a') (by omega) (hA.ln q _) (up_eq _ _ _ _) (fun p => ?_) (fun p => ?_)⟩
        · have hlt := lz_by_lt (b := b) (n := n) (a := a') (by omega)
          rw [tx_s hl p] at ht
          rw [up_up]
          conv => whnf
          refine brI (fun z => by exfalso; omega) (fun _ => ?_)
          conv => whnf
          have := ih (a' + 1) (L ++ [q]) (upd_ (lnQ J q) 14 3 ((a' + 1 : Nat) : Int)) hlt (by omega) (hA.ln q _) (up_eq _ _ _ _) (by rw [up_ne (by decide), lnQ_F J q 14 (by decide)]; exact hw) (by rw [up_c (by decide), l7.1]; omega) (by rw [up_c (by decide), l7.1]; omega) (by rw [up_c (by decide), l7.2]; omega) (by rw [up_c (by decide), l7.2]; omega) ht
          refine ⟨trivial, Ev.to ?_ rfl (this.mono fun v K hv => ?_)⟩
          · rw [iad_e (by omega), show (n : Int) + 1 - ((m + 1 : Nat) : Int) + 1 = (n : Int) + 1 - (m : Int) by omega]
          · obtain ⟨hx, R, hR, rfl⟩ := hv
            exact ⟨hx, q :: R, by rw [hR, List.append_assoc]; rfl, by rw [lnR_up, up_up]; rfl⟩
        · rw [tx_e hl p] at ht
          have e1 : Nat.beq a' n = true := by
            cases hq : Nat.beq a' n with
            | true => rfl
            | false => rw [hq] at ht; cases ht
          rw [e1] at ht
          cases ht
          conv => whnf
          refine brI (fun z => ?_) (fun z => ?_) <;> conv => whnf
          all_goals exact ⟨trivial, ⟨_, rfl⟩, [q], rfl, rfl⟩
  refine EvM.go [7] (T := T_107) rfl rfl rfl rfl ?_
  conv => whnf
  have := loop (n + 1) 0 [] (upd_ J 14 3 0) (Nat.zero_le n) (Nat.le_refl _) (hA.up _) (up_eq _ _ _ _) (by rw [up_ne (by decide)]; exact hw) (by rw [up_c (by decide), h0]; decide) (by rw [up_c (by decide), h0]; decide) (by rw [up_c (by decide), h1]; decide) (by rw [up_c (by decide), h1]; decide) ht
  rw [show (n : Int) + 1 - ((n + 1 : Nat) : Int) = 0 by omega] at this
  refine ⟨trivial, this.mono fun v K hv => ?_⟩
  obtain ⟨hx, R, hR, rfl⟩ := hv
  rw [List.nil_append] at hR
  rw [hR, lnR_up, up_up]
  exact ⟨hx, rfl⟩
