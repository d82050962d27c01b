/-! THE CLASS'S LAW: what lies in its cells -/
theorem wrs2_8 : ∀ (c : List Int) (J : ME), (∀ x, x < J 7 4 → wrs2 J c 8 x = J 8 x) ∧ ∀ i : Nat, i < c.length → some (wrs2 J c 8 (J 7 4 + (i : Int))) = c[i]?
  | [], J => ⟨fun _ _ => rfl, fun i h => absurd h (Nat.not_lt_zero i)⟩
  | y :: c, J => by
    obtain ⟨h1, h2⟩ := wrs2_8 c (wr1 J y)
    have e7 := (wr1_7 J y).1
    have e8 : ∀ x, wr1 J y 8 x = if x = J 7 4 then y else J 8 x := fun x => by
      unfold wr1
      rw [up_any, up_c (by decide)]
    refine ⟨fun x hx => ?_, fun i hi => ?_⟩
    · show wrs2 (wr1 J y) c 8 x = _
      rw [h1 x (by omega), e8, if_neg (by omega)]
    · show some (wrs2 (wr1 J y) c 8 _) = _
      cases i with
      | zero => rw [h1 _ (by omega), e8, if_pos (by omega)]; rfl
      | succ i =>
        have := h2 i (by simpa using hi)
        rw [e7] at this
        rw [show J 7 4 + ((i + 1 : Nat) : Int) = J 7 4 + 1 + (i : Int) by omega, this]
        rfl
theorem lnQ_8 (J : ME) (q : List Int × List Int) : lnQ J q 8 = wrs2 J (q.1 ++ q.2) 8 := by
  unfold lnQ
  rw [up_c (by decide), up_c (by decide), up_c (by decide)]
theorem lnQ_9 (J : ME) (q : List Int × List Int) (x : Int) : lnQ J q 9 x = (if x = J 7 5 then J 7 4 + q.1.length else J 9 x) ∧ lnQ J q 10 x = (if x = J 7 5 then J 7 4 + q.1.length + q.2.length else J 10 x) := by
  unfold lnQ
  constructor
  · rw [up_c (by decide), up_c (by decide), up_any, wrs2_F _ J 9 (by decide)]
  · rw [up_any, up_c (by decide), up_c (by decide), wrs2_F _ J 10 (by decide)]
theorem lnR_all : ∀ (L : lz_L) (J : ME) (A B : Nat), J 7 4 = (A : Int) → J 7 5 = (B : Int) → lnR J L 7 4 = ((A + (lz_code L).length : Nat) : Int) ∧ lnR J L 7 5 = ((B + L.length : Nat) : Int) ∧ (∀ x, x < (A : Int) → lnR J L 8 x = J 8 x) ∧ (∀ i : Nat, i < (lz_code L).length → some (lnR J L 8 ((A : Int) + (i : Int))) = (lz_code L)[i]?) ∧ (∀ x, x < (B : Int) → lnR J L 9 x = J 9 x ∧ lnR J L 10 x = J 10 x) ∧ lz_ends (lnR J L 9) (lnR J L 10) L B A
  | [], J, A, B, hA, hB => ⟨hA, hB, fun _ _ => rfl, fun i h => absurd h (Nat.not_lt_zero i), fun _ _ => ⟨rfl, rfl⟩, trivial⟩
  | (c, e) :: R, J, A, B, hA, hB => by
    have l7 := lnQ_7 J (c, e)
    have m1 : lnQ J (c, e) 7 4 = ((A + c.length + e.length : Nat) : Int) := by
      have : lnQ J (c, e) 7 4 = J 7 4 + (c.length : Int) + (e.length : Int) := l7.1
      rw [this, hA]; omega
    have m2 : lnQ J (c, e) 7 5 = ((B + 1 : Nat) : Int) := by rw [l7.2, hB]; rfl
    obtain ⟨h1, h2, h3, h4, h5, h6⟩ := lnR_all R (lnQ J (c, e)) (A + c.length + e.length) (B + 1) m1 m2
    have w8 := wrs2_8 (c ++ e) J
    have l8 : lnQ J (c, e) 8 = wrs2 J (c ++ e) 8 := lnQ_8 J (c, e)
    have l9 := lnQ_9 J (c, e)
    have ec : lz_code ((c, e) :: R) = (c ++ e) ++ lz_code R := rfl
    rw [ec]
    refine ⟨?_, ?_, fun x hx => ?_, fun i hi => ?_, fun x hx => ?_, ?_⟩
    · show lnR (lnQ J (c, e)) R 7 4 = _
      rw [h1, List.length_append, List.length_append]; omega
    · show lnR (lnQ J (c, e)) R 7 5 = _
      rw [h2, List.length_cons]; omega
    · show lnR (lnQ J (c, e)) R 8 x = _
      rw [h3 x (by omega), l8, w8.1 x (by omega)]
    · show some (lnR (lnQ J (c, e)) R 8 _) = _
      by_cases hq : i < (c ++ e).length
      · rw [List.getElem?_append_left hq, ← w8.2 i hq, h3 _ (by rw [List.length_append] at hq; omega), l8, hA]
      · have hq : (c ++ e).length ≤ i := by omega
        rw [List.getElem?_append_right hq, ← h4 (i - (c ++ e).length) (by rw [List.length_append] at hi; omega)]
        rw [List.length_append] at hq ⊢
        rw [show (A : Int) + (i : Int) = ((A + c.length + e.length : Nat) : Int) + ((i - (c.length + e.length) : Nat) : Int) by omega]
    · show lnR (lnQ J (c, e)) R 9 x = _ ∧ lnR (lnQ J (c, e)) R 10 x = _
      rw [(h5 x (by omega)).1, (h5 x (by omega)).2, (l9 x).1, (l9 x).2, if_neg (by omega), if_neg (by omega)]
      exact ⟨rfl, rfl⟩
    · refine ⟨?_, ?_, h6⟩
      · show lnR (lnQ J (c, e)) R 9 (B : Int) = _
        rw [(h5 (B : Int) (by omega)).1, (l9 _).1, if_pos hB.symm, hA]
        show (A : Int) + (c.length : Int) = _
        omega
      · show lnR (lnQ J (c, e)) R 10 (B : Int) = _
        rw [(h5 (B : Int) (by omega)).2, (l9 _).2, if_pos hB.symm, hA]
        show (A : Int) + (c.length : Int) + (e.length : Int) = _
        omega
-- the text's lines: short enough, none without a second half
theorem lz_tx_L {b : Nat → Int} {n : Nat} : ∀ (m a : Nat) (L : lz_L), a ≤ n → (lz_code L).length ≤ a → L.length ≤ a → (∀ q ∈ L, q.2 ≠ []) → (lz_tx b n m a L).1 = true → (lz_code (lz_tx b n m a L).2.2).length ≤ n ∧ (lz_tx b n m a L).2.2.length ≤ n ∧ ∀ q ∈ (lz_tx b n m a L).2.2, q.2 ≠ []
  | 0, a, L, h, h1, h2, h3, h4 => by cases h4
  | m + 1, a, L, h, h1, h2, h3, h4 => by
    have hP := lz_ln_P (b := b) (n := n) (a := a) h
    rcases hl : lz_ln b n a with ⟨r, a', q⟩
    rw [hl] at hP
    cases r with
    | false => rw [tx_f hl] at h4; cases h4
    | true =>
      have p1 : a' ≤ n := hP.2.1
      obtain ⟨p2, p3, p4⟩ := hP.2.2 rfl
      have p2 : q.1.length + q.2.length + a ≤ a' := p2
      have p3 : a < a' := p3
      have ecc : ∀ (L : lz_L), (lz_code (L ++ [q])).length = (lz_code L).length + q.1.length + q.2.length := fun L => by
        induction L with
        | nil => show (q.1 ++ q.2 ++ []).length = 0 + _ + _; rw [List.append_nil, List.length_append]; omega
        | cons y L ih =>
          show (y.1 ++ y.2 ++ lz_code (L ++ [q])).length = (y.1 ++ y.2 ++ lz_code L).length + _ + _
          rw [List.length_append, List.length_append (bs := lz_code L), ih]; omega
      have k1 := ecc L
      have k2 : (L ++ [q]).length = L.length + 1 := by rw [List.length_append]; rfl
      have k3 : ∀ y ∈ L ++ [q], y.2 ≠ [] := fun y hy => by
        rcases List.mem_append.mp hy with hy | hy
        · exact h3 y hy
        · rw [List.mem_singleton.mp hy]; exact p4
      by_cases p : lz_by b n a' = 59
      · rw [tx_s hl p] at h4 ⊢
        have hlt := lz_by_lt (b := b) (n := n) (a := a') (by omega)
        exact lz_tx_L m (a' + 1) (L ++ [q]) hlt (by omega) (by omega) k3 h4
      · rw [tx_e hl p] at h4 ⊢
        cases hb : Nat.beq a' n with
        | false => rw [hb] at h4; cases h4
        | true =>
          exact ⟨by show (lz_code (L ++ [q])).length ≤ n; omega, by show (L ++ [q]).length ≤ n; omega, k3⟩
