/-! THE LAW'S TEXT: each expression leaves one number, however deep the stack -/
def lz_W (nm : Int → Int) (D : Nat) (r : lz_R) : Prop := r.1 = true → ∃ v, lz_V nm r.2.2 v D
theorem lz_W.mono {nm : Int → Int} {D D' : Nat} {r : lz_R} (h : lz_W nm D r) (hD : D ≤ D') : lz_W nm D' r := fun z => by
  obtain ⟨v, hv⟩ := h z
  exact ⟨v, hv.mono hD⟩
theorem lz_num_0 {b : Nat → Int} {n : Nat} : ∀ (k a : Nat) (v : Int), 0 ≤ v → 0 ≤ (lz_num b n k a v).2
  | 0, a, v, h => h
  | k + 1, a, v, h => by
    unfold lz_num
    cases hd : lz_dig (lz_by b n a) with
    | false => exact h
    | true =>
      have h1 := lz_dig_nz hd
      exact lz_num_0 k (a + 1) _ (by omega)
theorem lz_lp_W {nm : Int → Int} {D : Nat} {b : Nat → Int} {n j : Nat} {f : Nat → lz_R} (hf : ∀ a, lz_W nm D (f a)) : ∀ (m a : Nat) (c : List Int), (∃ v, lz_V nm c v (D + 1)) → lz_W nm (D + 1) (lz_lp b n f j m a c)
  | 0, a, c, h => fun _ => h
  | m + 1, a, c, h => by
    cases hs : lz_sg j (lz_by b n a) with
    | false => rw [lz_lp_n hs]; exact fun _ => h
    | true =>
      rw [lz_lp_s hs]
      have hp := hf (a + 1)
      revert hp
      match f (a + 1) with
      | (true, a', c') =>
        intro hp
        obtain ⟨v, hv⟩ := h
        obtain ⟨w, hw⟩ := hp rfl
        exact lz_lp_W hf m a' _ ⟨_, lz_V_on hs hv hw⟩
      | (false, a', c') => intro _ z; cases z
theorem lz_ch_W {nm : Int → Int} {D : Nat} {b : Nat → Int} {n : Nat} {f : Nat → lz_R} (hf : ∀ a, lz_W nm D (f a)) : ∀ (j a : Nat), lz_W nm (D + j) (lz_ch b n f j a)
  | 0, a => hf a
  | j + 1, a => by
    have ih := lz_ch_W (b := b) (n := n) hf j
    have ech : lz_ch b n f (j + 1) a = (match lz_ch b n f j a with
    | (true, a', c) => lz_lp b n (lz_ch b n f j) j (lz_mx n j) a' c
    | (false, a', _) => (false, a', [])) := rfl
    rw [ech]
    have hp := ih a
    revert hp
    match lz_ch b n f j a with
    | (true, a', c) =>
      intro hp
      obtain ⟨v, hv⟩ := hp rfl
      exact lz_lp_W ih (lz_mx n j) a' c ⟨v, hv.mono (Nat.le_succ _)⟩
    | (false, a', c) => intro _ z; cases z
theorem lz_ob_W {nm : Int → Int} {D : Nat} {b : Nat → Int} {n a : Nat} {r : lz_R} (hD : 1 ≤ D) (h : lz_W nm D r) : lz_W nm D (lz_ob b n a r) := by
  cases hd : lz_dig (lz_by b n a) with
  | true =>
    rw [lz_ob_d hd]
    have h0 := lz_num_0 (b := b) (n := n) 4 a 0 (Int.le_refl 0)
    exact fun _ => ⟨_, (lz_V_push (by omega)).mono hD⟩
  | false =>
    by_cases hn : 0 ≤ lz_nm (lz_by b n a)
    · rw [lz_ob_n hd hn]
      have := (lz_nm_nz hn).2
      exact fun _ => ⟨_, (lz_V_push (by omega)).mono hD⟩
    · rw [lz_ob_z hd hn]; exact h
theorem lz_op_W {nm : Int → Int} {b : Nat → Int} {n : Nat} : ∀ (k a : Nat), lz_W nm (1 + 5 * k) (lz_op b n k a)
  | 0, a => lz_ob_W (by omega) (fun z => by cases z)
  | k + 1, a => by
    have ih := lz_op_W (nm := nm) (b := b) (n := n) k
    refine lz_ob_W (by omega) ?_
    cases h4 : decide (lz_by b n a = 40) with
    | true =>
      have hp := lz_ch_W (b := b) (n := n) ih 5 (a + 1)
      show lz_W nm _ (lz_o1 b n a (lz_ch b n (lz_op b n k) 5 (a + 1)))
      revert hp
      match lz_ch b n (lz_op b n k) 5 (a + 1) with
      | (true, a', c') =>
        intro hp
        show lz_W nm _ (bif decide (lz_by b n a' = 41) then (true, a' + 1, c') else (false, a', []))
        cases h5 : decide (lz_by b n a' = 41) with
        | true =>
          have hp : lz_W nm (1 + 5 * (k + 1)) (true, a', c') := hp.mono (by omega)
          exact hp
        | false => intro z; cases z
      | (false, a', c') => intro _ z; cases z
    | false =>
      cases h3 : (decide (lz_by b n a = 33) || decide (lz_by b n a = 45)) with
      | true =>
        have hp := ih (a + 1)
        show lz_W nm _ (lz_o2 (lz_by b n a) (lz_op b n k (a + 1)))
        revert hp
        match lz_op b n k (a + 1) with
        | (true, a', c') =>
          intro hp _
          obtain ⟨v, hv⟩ := hp rfl
          have hv : lz_V nm c' v (1 + 5 * k) := hv
          show ∃ v, lz_V nm (c' ++ [bif decide (lz_by b n a = 33) then -33 else -126]) v _
          refine ⟨_, (lz_V_un hv ?_).mono (by omega)⟩
          cases decide (lz_by b n a = 33)
          · exact Or.inr rfl
          · exact Or.inl rfl
        | (false, a', c') => intro _ z; cases z
      | false => intro z; cases z
theorem lz_E_W {nm : Int → Int} {b : Nat → Int} {n a : Nat} : lz_W nm 40 (lz_E b n a) := (lz_ch_W (b := b) (n := n) (fun a => lz_op_W (nm := nm) 6 a) 5 a).mono (by decide)
def lz_Y (nm : Int → Int) (q : List Int × List Int) : Prop := (∃ v, lz_V nm q.2 v 40) ∧ (q.1 ≠ [] → ∃ v, lz_V nm q.1 v 40)
theorem lz_ln_W {nm : Int → Int} {b : Nat → Int} {n a a' : Nat} {q : List Int × List Int} (hl : lz_ln b n a = (true, a', q)) : lz_Y nm q := by
  have hW := lz_E_W (nm := nm) (b := b) (n := n) (a := a)
  rcases he : lz_E b n a with ⟨r, a1, c1⟩
  rw [he] at hW
  cases r with
  | false => rw [lz_ln_f he] at hl; cases hl
  | true =>
    by_cases p : lz_by b n a1 = 63
    · have hW2 := lz_E_W (nm := nm) (b := b) (n := n) (a := a1 + 1)
      rcases he2 : lz_E b n (a1 + 1) with ⟨r2, a2, c2⟩
      rw [he2] at hW2
      cases r2 with
      | false => rw [lz_ln_g he p he2] at hl; cases hl
      | true =>
        rw [lz_ln_q he p he2] at hl
        cases hl
        exact ⟨hW2 rfl, fun _ => hW rfl⟩
    · rw [lz_ln_n he p] at hl
      cases hl
      exact ⟨hW rfl, fun z => absurd rfl z⟩
theorem lz_tx_W {nm : Int → Int} {b : Nat → Int} {n : Nat} : ∀ (m a : Nat) (L : lz_L), (∀ q ∈ L, lz_Y nm q) → ∀ q ∈ (lz_tx b n m a L).2.2, lz_Y nm q
  | 0, a, L, h => fun q hq => by cases hq
  | m + 1, a, L, h => by
    rcases hl : lz_ln b n a with ⟨r, a', y⟩
    cases r with
    | false => rw [tx_f hl]; intro q hq; cases hq
    | true =>
      have k : ∀ q ∈ L ++ [y], lz_Y nm q := fun q hq => by
        rcases List.mem_append.mp hq with hq | hq
        · exact h q hq
        · rw [List.mem_singleton.mp hq]; exact lz_ln_W hl
      by_cases p : lz_by b n a' = 59
      · rw [tx_s hl p]; exact lz_tx_W m (a' + 1) _ k
      · rw [tx_e hl p]
        cases Nat.beq a' n with
        | false => intro q hq; cases hq
        | true => exact k
theorem lawT_cL {n : Nat} {b : Nat → Int} {J K : ME} (hn : n ≤ 120) (ht : (lz_T b n).1 = true) (h : lawT J K (lz_T b n).2.2) : cL (lz_T b n).2.2 (K 7 4) (K 7 5) (K 8) (K 9) (K 10) := by
  obtain ⟨J2, hF, h4, h5, h9, hK, _⟩ := h
  obtain ⟨h1, h2, -, h3, -, h6⟩ := lnR_all (lz_T b n).2.2 J2 0 0 h4 h5
  have l := lz_tx_L (b := b) (n := n) (n + 1) 0 [] (Nat.zero_le n) (Nat.le_refl 0) (Nat.le_refl 0) (fun q hq => by cases hq) ht
  have l : (lz_code (lz_T b n).2.2).length ≤ n ∧ (lz_T b n).2.2.length ≤ n ∧ ∀ q ∈ (lz_T b n).2.2, q.2 ≠ [] := l
  rw [hK 7 (by decide), hK 8 (by decide), hK 9 (by decide), hK 10 (by decide)]
  rw [Nat.zero_add] at h1 h2
  refine ⟨h1, by omega, h2, by omega, fun i hi => ?_, h6, l.2.2, fun nm q hq => lz_tx_W (n + 1) 0 [] (fun q hq => by cases hq) q hq⟩
  have := h3 i hi
  rwa [show ((0 : Nat) : Int) + (i : Int) = (i : Int) by omega] at this
