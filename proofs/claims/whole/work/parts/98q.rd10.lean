/-! THE MODEL'S LAW -/
def laM (I K : ME) : Prop := (∀ j, j ≠ 11 → j ≠ 13 → (j < 14 ∨ 18 < j) → K 53 j = I 53 j) ∧ Fr [53, 60] I K ∧ K 53 11 = 0
theorem m221 {d n : Nat} {b : Nat → Int} {I : ME} (hd : 60 ≤ d) (h11 : I 53 11 = (n : Int)) (hn : n ≤ 120) (hb : ∀ j : Nat, j < n → I 59 (j : Int) = b j) : EvM (d + 1) 221 [rf 53] I (fun v K => ((lz_T b n).1 = false → v = some (nt (-100 - ((lz_T b n).2.1 : Int))) ∧ laM I K ∧ K 53 13 = I 53 13 ∧ Fr [53] I K) ∧ ((lz_T b n).1 = true → v = some (nt 1) ∧ laM I K ∧ K 53 13 = (n : Int) ∧ ∀ j : Nat, j < n → K 60 (j : Int) = b j)) := by
  have hbd : (lz_T b n).2.1 ≤ n := lz_T_bd
  have loop : ∀ (m i : Nat) (x : Int) (J : ME), i + m = n → laM I J → (∀ j : Nat, j < i → J 60 (j : Int) = b j) → Ev (d + 1) 221 37 [some (rf 53), some (nt x), some (nt (n : Int)), some (nt (i : Int))] [] J (fun v K => v = some (nt 1) ∧ laM I K ∧ K 53 13 = (n : Int) ∧ ∀ j : Nat, j < n → K 60 (j : Int) = b j) := by
    intro m
    induction m with
    | zero =>
      intro i x J hi hl hj
      refine Ev.go [] (T := T_221) rfl rfl ?_
      conv => whnf
      refine brI (fun z => ?_) (fun z => ?_)
      all_goals first | (exfalso; omega) | skip
      conv => whnf
      refine ⟨trivial, rfl, ⟨fun j h1 h2 h3 => ?_, fr_up hl.2.1 (by decide), ?_⟩, up_eq _ _ _ _, fun j hjn => ?_⟩
      · rw [up_ne h2]; exact hl.1 j h1 h2 h3
      · rw [up_ne (by decide)]; exact hl.2.2
      · rw [up_c (by decide)]; exact hj j (by omega)
    | succ m ih =>
      intro i x J hi hl hj
      have e59 : J 59 = I 59 := hl.2.1 59 (by decide)
      refine Ev.go [37] (T := T_221) rfl rfl ?_
      conv => whnf
      refine brI (fun z => ?_) (fun z => ?_)
      all_goals first | (exfalso; omega) | skip
      conv => whnf
      refine anI (by omega) ?_
      conv => whnf
      refine anI (by omega) ?_
      conv => whnf
      refine ⟨trivial, Ev.to ?_ rfl (ih (i + 1) x (upd_ J 60 (i : Int) (J 59 (i : Int))) (by omega) ⟨fun j h1 h2 h3 => ?_, fr_up hl.2.1 (by decide), ?_⟩ (fun j hji => ?_))⟩
      · rw [iad_e (by omega)]; rfl
      · rw [up_c (by decide)]; exact hl.1 j h1 h2 h3
      · rw [up_c (by decide)]; exact hl.2.2
      · rw [up_any]
        by_cases q : (j : Int) = (i : Int)
        · rw [if_pos q, e59, ← q]; exact hb j (by omega)
        · rw [if_neg q]; exact hj j (by omega)
  refine EvM.go [37] (T := T_221) rfl rfl rfl rfl ?_
  conv => whnf
  rw [h11]
  refine ⟨by omega, m220 (b := b) hd (Or.inl ⟨by decide, hb⟩) hn (fun v J hv => ?_)⟩
  revert hv hbd
  rcases lz_T b n with ⟨r, e, L'⟩
  intro hbd hv
  have hbd : e ≤ n := hbd
  obtain ⟨⟨w1, w2⟩, w3, w4⟩ := hv
  have e11 : J 53 11 = (n : Int) := by rw [w1 11 (by decide)]; exact h11
  have hl : laM I (upd_ J 53 11 0) := ⟨fun j h1 h2 h3 => by rw [up_ne h1]; exact w1 j h3, fr_up (fun c hc => w2 c (fun z => hc (List.mem_append_left [60] z))) (by decide), up_eq _ _ _ _⟩
  cases r with
  | false =>
    have w4 : J 53 17 = (e : Int) := w4 rfl
    conv => whnf
    refine brI (fun z => ?_) (fun z => ?_)
    all_goals first | (exfalso; have z : J 53 17 < 0 := z; omega) | skip
    conv => whnf
    refine ⟨trivial, ?_⟩
    refine ⟨fun _ => ⟨?_, hl, ?_, fr_up w2 (by decide)⟩, fun z => (by cases z)⟩
    · show some (nt (isb (-100) (J 53 17))) = some (nt (-100 - (e : Int)))
      rw [w4, isb_e (by omega)]
    · rw [up_ne (by decide)]; exact w1 13 (by decide)
  | true =>
    obtain ⟨w3, -⟩ := w3 rfl
    conv => whnf
    refine brI (fun z => ?_) (fun z => ?_)
    all_goals first | (exfalso; have z : ¬ J 53 17 < 0 := z; omega) | skip
    conv => whnf
    refine ⟨trivial, Ev.to (by rw [e11]; rfl) rfl ((loop n 0 v (upd_ J 53 11 0) (by omega) hl (fun j hj => absurd hj (Nat.not_lt_zero j))).mono fun v K hv => ⟨fun z => (by cases z), fun _ => hv⟩)⟩
