/-! A TEXT'S READING SPEAKS OF ITS BYTES ALONE -/
section
variable {b b' : Nat → Int} {n : Nat}
theorem lzc_num (h : lz_by b n = lz_by b' n) : ∀ (k a : Nat) (v : Int), lz_num b n k a v = lz_num b' n k a v
  | 0, a, v => rfl
  | k + 1, a, v => by unfold lz_num; rw [h, lzc_num h k]
theorem lzc_lp (h : lz_by b n = lz_by b' n) (f : Nat → lz_R) (j : Nat) : ∀ (m a : Nat) (c : List Int), lz_lp b n f j m a c = lz_lp b' n f j m a c
  | 0, a, c => rfl
  | m + 1, a, c => by
    unfold lz_lp
    rw [h]
    cases lz_sg j (lz_by b' n a) with
    | false => rfl
    | true =>
      show (match f (a + 1) with
      | (true, a', c') => lz_lp b n f j m a' (c ++ c' ++ [-(lz_by b' n a)])
      | (false, a', _) => (false, a', [])) = (match f (a + 1) with
      | (true, a', c') => lz_lp b' n f j m a' (c ++ c' ++ [-(lz_by b' n a)])
      | (false, a', _) => (false, a', []))
      match f (a + 1) with
      | (true, a', c') => exact lzc_lp h f j m a' _
      | (false, a', c') => rfl
theorem lzc_ch (h : lz_by b n = lz_by b' n) (f : Nat → lz_R) : ∀ j, lz_ch b n f j = lz_ch b' n f j
  | 0 => rfl
  | j + 1 => by
    funext a
    have ih := lzc_ch h f j
    show (match lz_ch b n f j a with
    | (true, a', c) => lz_lp b n (lz_ch b n f j) j (lz_mx n j) a' c
    | (false, a', _) => (false, a', [])) = (match lz_ch b' n f j a with
    | (true, a', c) => lz_lp b' n (lz_ch b' n f j) j (lz_mx n j) a' c
    | (false, a', _) => (false, a', []))
    rw [ih]
    match lz_ch b' n f j a with
    | (true, a', c) => exact lzc_lp h _ j _ a' c
    | (false, a', c) => rfl
theorem lzc_ob (h : lz_by b n = lz_by b' n) (a : Nat) (r : lz_R) : lz_ob b n a r = lz_ob b' n a r := by
  unfold lz_ob
  rw [h, lzc_num h]
theorem lzc_op (h : lz_by b n = lz_by b' n) : ∀ k, lz_op b n k = lz_op b' n k
  | 0 => by funext a; exact lzc_ob h a _
  | k + 1 => by
    funext a
    have ih := lzc_op h k
    show lz_ob b n a (bif decide (lz_by b n a = 40) then lz_o1 b n a (lz_ch b n (lz_op b n k) 5 (a + 1))
      else bif decide (lz_by b n a = 33) || decide (lz_by b n a = 45) then lz_o2 (lz_by b n a) (lz_op b n k (a + 1)) else (false, a, [])) = lz_ob b' n a (bif decide (lz_by b' n a = 40) then lz_o1 b' n a (lz_ch b' n (lz_op b' n k) 5 (a + 1))
      else bif decide (lz_by b' n a = 33) || decide (lz_by b' n a = 45) then lz_o2 (lz_by b' n a) (lz_op b' n k (a + 1)) else (false, a, []))
    have e1 : ∀ r, lz_o1 b n a r = lz_o1 b' n a r := fun r => by unfold lz_o1; rw [h]
    rw [lzc_ob h, h, ih, lzc_ch h, e1]
theorem lzc_E (h : lz_by b n = lz_by b' n) : lz_E b n = lz_E b' n := by
  funext a
  unfold lz_E
  rw [lzc_op h, lzc_ch h]
theorem lzc_ln (h : lz_by b n = lz_by b' n) : lz_ln b n = lz_ln b' n := by
  funext a
  unfold lz_ln
  rw [lzc_E h, h]
theorem lzc_tx (h : lz_by b n = lz_by b' n) : ∀ (m a : Nat) (L : lz_L), lz_tx b n m a L = lz_tx b' n m a L
  | 0, a, L => rfl
  | m + 1, a, L => by
    rcases hl : lz_ln b' n a with ⟨r, a', q⟩
    have hl2 : lz_ln b n a = (r, a', q) := by rw [lzc_ln h]; exact hl
    cases r with
    | false => rw [tx_f hl, tx_f hl2]
    | true =>
      by_cases p : lz_by b' n a' = 59
      · rw [tx_s hl p, tx_s hl2 (by rw [h]; exact p)]; exact lzc_tx h m _ _
      · rw [tx_e hl p, tx_e hl2 (by rw [h]; exact p)]
theorem lzc_T (h : ∀ j, j < n → b j = b' j) : lz_T b n = lz_T b' n := by
  refine lzc_tx ?_ (n + 1) 0 []
  funext a
  unfold lz_by
  cases hq : Nat.blt a n with
  | false => rfl
  | true => exact h a (ltB hq)
end
theorem lnR_79 : ∀ (L : lz_L) (J : ME), lnR J L 7 9 = J 7 9
  | [], J => rfl
  | q :: R, J => by
    show lnR (lnQ J q) R 7 9 = _
    rw [lnR_79 R]
    unfold lnQ
    rw [up_c (by decide), up_ne (by decide), up_c (by decide), (wrs2_7 _ J).2 9 (by decide)]
