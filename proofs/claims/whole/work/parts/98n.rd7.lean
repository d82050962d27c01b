/-! THE CLASS'S LAW, as it answers and what it lays -/
theorem lz_tx_bd {b : Nat → Int} {n : Nat} : ∀ (m a : Nat) (L : lz_L), a ≤ n → (lz_tx b n m a L).2.1 ≤ n
  | 0, a, L, h => h
  | m + 1, a, L, h => by
    have hP := lz_ln_P (b := b) (n := n) (a := a) h
    rcases hl : lz_ln b n a with ⟨r, a', q⟩
    rw [hl] at hP
    have hb1 : a' ≤ n := hP.2.1
    cases r with
    | false => rw [tx_f hl]; exact hb1
    | true =>
      by_cases p : lz_by b n a' = 59
      · rw [tx_s hl p]; exact lz_tx_bd m (a' + 1) _ (lz_by_lt (b := b) (n := n) (a := a') (by omega))
      · rw [tx_e hl p]
        cases Nat.beq a' n <;> exact hb1
theorem lz_T_bd {b : Nat → Int} {n : Nat} : (lz_T b n).2.1 ≤ n := lz_tx_bd (n + 1) 0 [] (Nat.zero_le n)
def rdB (b : Nat → Int) (n : Nat) (J : ME) : Prop := J 14 2 = (n : Int) ∧ n ≤ 120 ∧ ∀ j : Nat, j < n → J 15 (j : Int) = b j ∧ 0 ≤ b j ∧ b j ≤ 255
theorem rdB.w {b : Nat → Int} {n : Nat} {J : ME} (h : rdB b n J) {w : Int} (hw : w = 0 ∨ w = 1) : rdA b n (upd_ J 14 4 w) := by
  unfold rdA
  rw [up_ne (by decide), up_eq, up_c (by decide)]
  exact ⟨h.1, h.2.1, h.2.2, hw⟩
/-- what a fault leaves -/
def lawF (J K : ME) : Prop := Fr [14] J K ∧ K 14 2 = 0
/-- what a law leaves -/
def lawT (J K : ME) (L : lz_L) : Prop := ∃ J2, Fr [7, 14] J J2 ∧ J2 7 4 = 0 ∧ J2 7 5 = 0 ∧ J2 7 9 = J 7 9 + 1 ∧ Fr [14] (lnR J2 L) K ∧ K 14 2 = 0
theorem x106 {d n : Nat} {b : Nat → Int} {J : ME} (hd : 65 ≤ d) (hB : rdB b n J) (h0 : 0 ≤ J 7 9) (h1 : J 7 9 < 1000000) : EvM (d + 3) 106 [rf 14] J (fun v K => ((lz_T b n).1 = false → v = some (nt ((lz_T b n).2.1 : Int)) ∧ lawF J K) ∧ ((lz_T b n).1 = true → v = some (nt (-1)) ∧ lawT J K (lz_T b n).2.2)) := by
  refine EvM.go [] (T := T_106) rfl rfl rfl rfl ?_
  conv => whnf
  refine ⟨by omega, (x107_0 (b := b) (n := n) hd (hB.w (Or.inl rfl)) (up_eq _ _ _ _)).mono fun v K hv => ?_⟩
  obtain ⟨rfl, rfl⟩ := hv
  rcases ht : lz_T b n with ⟨r, e, L'⟩
  cases r with
  | false =>
    conv => whnf
    refine ⟨trivial, ?_⟩
    refine ⟨fun _ => ⟨rfl, ?_, up_eq _ _ _ _⟩, fun z => (by cases z)⟩
    repeat' first | exact Fr.rfl' | refine fr_up ?_ (by decide)
  | true =>
    conv => whnf
    refine ⟨by omega, x26 ?_ ?_ ?_⟩
    · rw [up_c (by decide), up_c (by decide), up_c (by decide)]; exact h0
    · rw [up_c (by decide), up_c (by decide), up_c (by decide)]; exact h1
    · conv => whnf
      refine ⟨by omega, (x107_1 (b := b) (n := n) (e := e) (L' := L') hd ?_ ?_ ?_ ?_ ht).mono fun v K hv => ?_⟩
      · unfold rdA
        simp (disch := decide) only [up_c, up_ne, up_eq]
        exact ⟨hB.1, hB.2.1, hB.2.2, Or.inr trivial⟩
      · simp (disch := decide) only [up_c, up_ne, up_eq]
      · simp (disch := decide) only [up_c, up_ne, up_eq]
      · simp (disch := decide) only [up_c, up_ne, up_eq]
      · obtain ⟨⟨x, rfl⟩, rfl⟩ := hv
        conv => whnf
        refine ⟨trivial, ?_⟩
        refine ⟨fun z => (by cases z), fun _ => ⟨rfl, ?_⟩⟩
        refine ⟨upd_ (upd_ (upd_ (upd_ (upd_ (upd_ J 14 4 0) 14 3 (e : Int)) 14 4 1) 7 4 0) 7 5 0) 7 9 (upd_ (upd_ (upd_ J 14 4 0) 14 3 (e : Int)) 14 4 1 7 9 + 1), ?_, ?_, ?_, ?_, ?_, ?_⟩
        · repeat' first | exact Fr.rfl' | refine fr_up ?_ (by decide)
        · simp (disch := decide) only [up_c, up_ne, up_eq]
        · simp (disch := decide) only [up_c, up_ne, up_eq]
        · simp (disch := decide) only [up_c, up_ne, up_eq]
        · exact fr_up (fr_up Fr.rfl' (by decide)) (by decide)
        · exact up_eq _ _ _ _
theorem x135 {d n : Nat} {b : Nat → Int} {J : ME} (hd : 65 ≤ d) (hB : rdB b n J) (h0 : 0 ≤ J 7 9) (h1 : J 7 9 < 1000000) : EvM (d + 4) 135 [rf 0] J (fun v K => ((lz_T b n).1 = false → v = some (nt (-100 - ((lz_T b n).2.1 : Int))) ∧ lawF J K) ∧ ((lz_T b n).1 = true → v = some (nt 1) ∧ lawT J K (lz_T b n).2.2)) := by
  have h120 := hB.2.1
  have hbd : (lz_T b n).2.1 ≤ n := lz_T_bd
  refine EvM.go [] (T := T_135) rfl rfl rfl rfl ?_
  conv => whnf
  refine ⟨by omega, (x106 (b := b) (n := n) hd hB h0 h1).mono fun v K hv => ?_⟩
  revert hv hbd
  rcases lz_T b n with ⟨r, e, L'⟩
  intro hbd hv
  have hbd : e ≤ n := hbd
  cases r with
  | false =>
    obtain ⟨rfl, hK⟩ := hv.1 rfl
    conv => whnf
    refine ⟨trivial, ?_⟩
    refine ⟨fun _ => ⟨?_, hK⟩, fun z => (by cases z)⟩
    show some (nt (isb (-100) (e : Int))) = some (nt (-100 - (e : Int)))
    rw [isb_e (by omega)]
  | true =>
    obtain ⟨rfl, hK⟩ := hv.2 rfl
    conv => whnf
    refine ⟨trivial, ?_⟩
    exact ⟨fun z => (by cases z), fun _ => ⟨rfl, hK⟩⟩
