/-! THE CLASS'S READING: small steps -/
def rdA (b : Nat → Int) (n : Nat) (J : ME) : Prop := J 14 2 = (n : Int) ∧ n ≤ 120 ∧ (∀ j : Nat, j < n → J 15 (j : Int) = b j ∧ 0 ≤ b j ∧ b j ≤ 255) ∧ (J 14 4 = 0 ∨ J 14 4 = 1)
def wr1 (J : ME) (x : Int) : ME := upd_ (upd_ J 7 4 (J 7 4 + 1)) 8 (J 7 4) x
def wrs2 (J : ME) : List Int → ME
  | [] => J
  | x :: c => wrs2 (wr1 J x) c
def wrL (J : ME) (c : List Int) : ME := if J 14 4 = 1 then wrs2 J c else J
theorem wrs2_app (J : ME) : ∀ c c', wrs2 J (c ++ c') = wrs2 (wrs2 J c) c'
  | [], _ => rfl
  | x :: c, c' => wrs2_app (wr1 J x) c c'
theorem wr1_F (J : ME) (x : Int) : Fr [7, 8] J (wr1 J x) := by
  unfold wr1; repeat' first | exact Fr.rfl' | refine fr_up ?_ (by decide)
theorem wrs2_F : ∀ (c : List Int) (J : ME), Fr [7, 8] J (wrs2 J c)
  | [], J => Fr.rfl'
  | x :: c, J => (wr1_F J x).tr (wrs2_F c (wr1 J x))
theorem wr1_7 (J : ME) (x : Int) : wr1 J x 7 4 = J 7 4 + 1 ∧ ∀ j, j ≠ 4 → wr1 J x 7 j = J 7 j := by
  unfold wr1
  exact ⟨by rw [up_c (by decide), up_eq], fun j hj => by rw [up_c (by decide), up_ne hj]⟩
theorem wrs2_7 : ∀ (c : List Int) (J : ME), wrs2 J c 7 4 = J 7 4 + c.length ∧ ∀ j, j ≠ 4 → wrs2 J c 7 j = J 7 j
  | [], J => ⟨by show J 7 4 = J 7 4 + (0 : Nat); omega, fun _ _ => rfl⟩
  | x :: c, J => by
    obtain ⟨a, b⟩ := wrs2_7 c (wr1 J x)
    obtain ⟨a', b'⟩ := wr1_7 J x
    exact ⟨by show wrs2 (wr1 J x) c 7 4 = _; rw [a, a', List.length_cons]; omega, fun j hj => (b j hj).trans (b' j hj)⟩
theorem wr1_up (J : ME) (x v : Int) : wr1 (upd_ J 14 3 v) x = upd_ (wr1 J x) 14 3 v := by
  unfold wr1
  rw [up_c (by decide)]
  funext c i
  unfold upd_
  by_cases h1 : c = 14 ∧ i = 3
  · rw [if_pos h1, if_neg (by omega), if_neg (by omega), if_pos h1]
  · by_cases h2 : c = 8 ∧ i = J 7 4
    · simp only [if_neg h1, if_pos h2]
    · by_cases h3 : c = 7 ∧ i = 4
      · simp only [if_neg h1, if_neg h2, if_pos h3]
      · simp only [if_neg h1, if_neg h2, if_neg h3]
theorem wrs2_up : ∀ (c : List Int) (J : ME) (v : Int), wrs2 (upd_ J 14 3 v) c = upd_ (wrs2 J c) 14 3 v
  | [], J, v => rfl
  | x :: c, J, v => by
    show wrs2 (wr1 (upd_ J 14 3 v) x) c = _
    rw [wr1_up, wrs2_up c]
    rfl
theorem wrL_up (c : List Int) (J : ME) (v : Int) : wrL (upd_ J 14 3 v) c = upd_ (wrL J c) 14 3 v := by
  unfold wrL
  rw [up_ne (by decide)]
  split
  · rw [wrs2_up]
  · rfl
theorem wrL_app (J : ME) (c c' : List Int) : wrL (wrL J c) c' = wrL J (c ++ c') := by
  unfold wrL
  by_cases h : J 14 4 = 1
  · rw [if_pos h]
    rw [wrs2_F c J 14 (by decide), if_pos h, if_pos h, wrs2_app]
  · rw [if_neg h, if_neg h, if_neg h]
theorem wrL_F (J : ME) (c : List Int) : Fr [7, 8] J (wrL J c) := by
  unfold wrL
  split
  · exact wrs2_F c J
  · exact Fr.rfl'
theorem wrL_nil (J : ME) : wrL J [] = J := by
  unfold wrL; split <;> rfl
theorem rdA.mv {b : Nat → Int} {n : Nat} {J : ME} (h : rdA b n J) (c : List Int) (v : Int) : rdA b n (upd_ (wrL J c) 14 3 v) := by
  unfold rdA
  rw [up_ne (by decide), up_ne (by decide), up_c (by decide), wrL_F J c 14 (by decide), wrL_F J c 15 (by decide)]
  exact h
theorem rdA.up {b : Nat → Int} {n : Nat} {J : ME} (h : rdA b n J) (v : Int) : rdA b n (upd_ J 14 3 v) := by
  have := h.mv [] v
  rwa [wrL_nil] at this
theorem rdA.by {b : Nat → Int} {n a : Nat} {J : ME} (h : rdA b n J) (ha : a < n) : J 15 (a : Int) = lz_by b n a ∧ 0 ≤ lz_by b n a ∧ lz_by b n a ≤ 255 := by
  obtain ⟨h1, h2, h3, h4⟩ := h
  have e : lz_by b n a = b a := by
    unfold lz_by
    rw [show Nat.blt a n = true from Nat.ble_eq_true_of_le ha]; rfl
  rw [e]; exact h3 a ha
theorem lz_by_ge {b : Nat → Int} {n a : Nat} (h : n ≤ a) : lz_by b n a = 0 := by
  unfold lz_by
  have : Nat.blt a n = false := by
    cases hq : Nat.blt a n with
    | false => rfl
    | true => have := ltB hq; omega
  rw [this]; rfl
theorem x113 {d a n : Nat} {b : Nat → Int} {J : ME} {Q : Option MV → ME → Prop} (hA : rdA b n J) (ha : J 14 3 = (a : Int)) (h1 : lz_dig (lz_by b n a) = true → Q (some (nt 1)) J) (h0 : lz_dig (lz_by b n a) = false → Q (some (nt 0)) J) : EvM d 113 [rf 14] J Q := by
  have no : ¬ (48 ≤ lz_by b n a ∧ lz_by b n a ≤ 57) → lz_dig (lz_by b n a) = false := fun q => by
    cases hz : lz_dig (lz_by b n a) with
    | false => rfl
    | true => exact absurd (lz_dig_nz hz) q
  have yes : (48 ≤ lz_by b n a ∧ lz_by b n a ≤ 57) → lz_dig (lz_by b n a) = true := fun q => by
    unfold lz_dig; rw [decide_eq_true q.1, decide_eq_true q.2]; rfl
  have h2 := hA.1
  have h120 := hA.2.1
  refine EvM.go [] (T := T_113) rfl rfl rfl rfl ?_
  conv => whnf
  refine brI (fun p => ?_) (fun p => ?_) <;> conv => whnf
  · obtain ⟨e1, e2, e3⟩ := hA.by (a := a) (by omega)
    rw [ha]
    refine anI (by omega) ?_
    conv => whnf
    rw [e1]
    refine brI (fun q => ?_) (fun q => ?_) <;> conv => whnf
    · exact ⟨trivial, h0 (no (by omega))⟩
    · refine anI (by rw [ha]; omega) ?_
      conv => whnf
      rw [ha, e1]
      refine brI (fun q => ?_) (fun q => ?_) <;> conv => whnf
      · exact ⟨trivial, h0 (no (by omega))⟩
      · exact ⟨trivial, h1 (yes (by omega))⟩
  · have := lz_by_ge (b := b) (n := n) (a := a) (by omega)
    exact ⟨trivial, h0 (no (by omega))⟩
theorem x112 {d a n : Nat} {b : Nat → Int} {J : ME} {Q : Option MV → ME → Prop} (hd : 1 ≤ d) (hA : rdA b n J) (ha : J 14 3 = (a : Int)) (h : Q (some (nt (lz_num b n 4 a 0).2)) (upd_ J 14 3 ((lz_num b n 4 a 0).1 : Int))) : EvM d 112 [rf 14] J Q := by
  have h120 := hA.2.1
  have key : ∀ (m a : Nat) (v : Int) (K : ME), rdA b n K → K 14 3 = (a : Int) → 0 ≤ v → v < 10 ^ (4 - m) → m ≤ 4 → Q (some (nt (lz_num b n m a v).2)) (upd_ K 14 3 ((lz_num b n m a v).1 : Int)) → Ev d 112 4 [some (rf 14), some (nt v), some (nt (4 - m : Int))] [] K Q := by
    intro m
    induction m with
    | zero =>
      intro a v K hA ha hv0 hv hm hQ
      refine Ev.go [] (T := T_112) rfl rfl ?_
      conv => whnf
      refine ⟨trivial, ?_⟩
      have hQ : Q (some (nt v)) (upd_ K 14 3 (a : Int)) := hQ
      rw [up_id ha] at hQ
      exact hQ
    | succ m ih =>
      intro a v K hA ha hv0 hv hm hQ
      have hv2 : v < 1000 := by
        have hm' : m + 1 = 1 ∨ m + 1 = 2 ∨ m + 1 = 3 ∨ m + 1 = 4 := by omega
        rcases hm' with e | e | e | e <;> rw [e] at hv <;> omega
      refine Ev.go [4] (T := T_112) rfl rfl ?_
      conv => whnf
      refine brI (fun _ => ?_) (fun _ => by exfalso; omega)
      conv => whnf
      refine ⟨by omega, x113 hA ha (fun q => ?_) (fun q => ?_)⟩ <;> conv => whnf
      · have hz := lz_dig_nz q
        have hlt := lz_by_lt (b := b) (n := n) (a := a) (by omega)
        obtain ⟨e1, e2, e3⟩ := hA.by hlt
        have e : lz_num b n (m + 1) a v = lz_num b n m (a + 1) (v * 10 + lz_by b n a - 48) := by
          show (bif lz_dig (lz_by b n a) then _ else _) = _
          rw [q]; rfl
        rw [e] at hQ
        rw [ha]
        refine anI (by omega) ?_
        conv => whnf
        rw [e1, ha, iad_e (a := (a : Int)) (by omega)]
        have hp : (10 : Int) ^ (4 - m) = 10 ^ (4 - (m + 1)) * 10 := by
          rw [show 4 - m = (4 - (m + 1)) + 1 by omega, Int.pow_succ]
        refine ⟨trivial, Ev.to ?_ rfl (ih (a + 1) (v * 10 + lz_by b n a - 48) (upd_ K 14 3 ((a : Int) + 1)) (hA.up _) (up_eq _ _ _ _) (by omega) (by omega) (by omega) (by rw [up_up]; exact hQ))⟩
        rw [iml_e (by omega), iad_e (a := v * 10) (by omega), isb_e (by omega), iad_e (by omega), show (4 : Int) - ((m + 1 : Nat) : Int) + 1 = 4 - (m : Int) by omega]
      · have e : lz_num b n (m + 1) a v = (a, v) := by
          show (bif lz_dig (lz_by b n a) then _ else _) = _
          rw [q]; rfl
        rw [e] at hQ
        have hQ : Q (some (nt v)) (upd_ K 14 3 (a : Int)) := hQ
        rw [up_id ha] at hQ
        exact ⟨trivial, hQ⟩
  refine EvM.go [4] (T := T_112) rfl rfl rfl rfl ?_
  conv => whnf
  exact ⟨trivial, key 4 a 0 J hA ha (by decide) (by decide) (by decide) h⟩
theorem x28 {d : Nat} {x : Int} {J : ME} {Q : Option MV → ME → Prop} (h0 : 0 ≤ J 7 4) (h1 : J 7 4 < 120) (h : Q none (wr1 J x)) : EvM d 28 [rf 7, nt x] J Q := by
  refine EvM.go [] (T := T_28) rfl rfl rfl rfl ?_
  conv => whnf
  refine brI (fun _ => ?_) (fun _ => by exfalso; omega)
  conv => whnf
  refine anI (by omega) ?_
  conv => whnf
  rw [iad_e (by omega)]
  exact ⟨trivial, h⟩
theorem x115 {d : Nat} {x : Int} {J : ME} {Q : Option MV → ME → Prop} (hd : 1 ≤ d) (h01 : J 14 4 = 0 ∨ J 14 4 = 1) (h0 : J 14 4 = 1 → 0 ≤ J 7 4 ∧ J 7 4 < 120) (h : Q none (wrL J [x])) : EvM d 115 [rf 14, nt x] J Q := by
  unfold wrL at h
  refine EvM.go [] (T := T_115) rfl rfl rfl rfl ?_
  conv => whnf
  refine brI (fun q => ?_) (fun q => ?_) <;> conv => whnf
  · rw [if_neg (by omega)] at h
    exact ⟨trivial, h⟩
  · rw [if_pos (by omega)] at h
    have := h0 (by omega)
    refine ⟨by omega, x28 this.1 this.2 ?_⟩
    conv => whnf
    exact ⟨trivial, h⟩
theorem tk_0 {d a n : Nat} {b : Nat → Int} {J : ME} {Q : Option MV → ME → Prop} (hd : 9 ≤ d) (hA : rdA b n J) (ha : J 14 3 = (a : Int)) (h1 : (lz_by b n a = 118 ∨ lz_by b n a = 110 ∨ lz_by b n a = 103 ∨ lz_by b n a = 116 ∨ lz_by b n a = 107 ∨ lz_by b n a = 100) → Q (some (nt (lz_by b n a))) (upd_ J 14 3 ((a + 1 : Nat) : Int))) (h0 : ¬ (lz_by b n a = 118 ∨ lz_by b n a = 110 ∨ lz_by b n a = 103 ∨ lz_by b n a = 116 ∨ lz_by b n a = 107 ∨ lz_by b n a = 100) → Q (some (nt 0)) J) : EvM d 114 [rf 14, rf 1100] J Q := by
  have h2 := hA.1
  have h120 := hA.2.1
  refine EvM.go [] (T := T_114) rfl rfl rfl rfl ?_
  conv => whnf
  refine brI (fun p => ?_) (fun p => ?_) <;> conv => whnf
  · obtain ⟨e1, e2, e3⟩ := hA.by (a := a) (by omega)
    rw [ha]
    refine anI (by omega) ?_
    conv => whnf
    rw [e1, i2c_c e2 e3]
    have e4 : iad (a : Int) 1 = ((a + 1 : Nat) : Int) := by rw [iad_e (by omega)]; rfl
    refine ⟨by omega, ix_0 (by omega) e2 e3 (fun q => ?_) (fun q => ?_) (fun q => ?_) (fun q => ?_) (fun q => ?_) (fun q => ?_) (fun q => ?_)⟩ <;> conv => whnf
    all_goals first
      | exact ⟨trivial, h0 (by omega)⟩
      | skip
    all_goals
      rw [ha]
      refine anI (by omega) ?_
      conv => whnf
      simp (disch := decide) only [up_c]
      rw [e1, e4]
      exact ⟨trivial, h1 (by omega)⟩
  · have := lz_by_ge (b := b) (n := n) (a := a) (by omega)
    exact ⟨trivial, h0 (by omega)⟩
theorem tk_1 {d a n : Nat} {b : Nat → Int} {J : ME} {Q : Option MV → ME → Prop} (hd : 9 ≤ d) (hA : rdA b n J) (ha : J 14 3 = (a : Int)) (h1 : (lz_by b n a = 40 ∨ lz_by b n a = 33 ∨ lz_by b n a = 45) → Q (some (nt (lz_by b n a))) (upd_ J 14 3 ((a + 1 : Nat) : Int))) (h0 : ¬ (lz_by b n a = 40 ∨ lz_by b n a = 33 ∨ lz_by b n a = 45) → Q (some (nt 0)) J) : EvM d 114 [rf 14, rf 1101] J Q := by
  have h2 := hA.1
  have h120 := hA.2.1
  refine EvM.go [] (T := T_114) rfl rfl rfl rfl ?_
  conv => whnf
  refine brI (fun p => ?_) (fun p => ?_) <;> conv => whnf
  · obtain ⟨e1, e2, e3⟩ := hA.by (a := a) (by omega)
    rw [ha]
    refine anI (by omega) ?_
    conv => whnf
    rw [e1, i2c_c e2 e3]
    have e4 : iad (a : Int) 1 = ((a + 1 : Nat) : Int) := by rw [iad_e (by omega)]; rfl
    refine ⟨by omega, ix_1 (by omega) e2 e3 (fun q => ?_) (fun q => ?_) (fun q => ?_) (fun q => ?_)⟩ <;> conv => whnf
    all_goals first
      | exact ⟨trivial, h0 (by omega)⟩
      | skip
    all_goals
      rw [ha]
      refine anI (by omega) ?_
      conv => whnf
      simp (disch := decide) only [up_c]
      rw [e1, e4]
      exact ⟨trivial, h1 (by omega)⟩
  · have := lz_by_ge (b := b) (n := n) (a := a) (by omega)
    exact ⟨trivial, h0 (by omega)⟩
theorem tk_2 {d a n : Nat} {b : Nat → Int} {J : ME} {Q : Option MV → ME → Prop} (hd : 9 ≤ d) (hA : rdA b n J) (ha : J 14 3 = (a : Int)) (h1 : (lz_by b n a = 41) → Q (some (nt (lz_by b n a))) (upd_ J 14 3 ((a + 1 : Nat) : Int))) (h0 : ¬ (lz_by b n a = 41) → Q (some (nt 0)) J) : EvM d 114 [rf 14, rf 1102] J Q := by
  have h2 := hA.1
  have h120 := hA.2.1
  refine EvM.go [] (T := T_114) rfl rfl rfl rfl ?_
  conv => whnf
  refine brI (fun p => ?_) (fun p => ?_) <;> conv => whnf
  · obtain ⟨e1, e2, e3⟩ := hA.by (a := a) (by omega)
    rw [ha]
    refine anI (by omega) ?_
    conv => whnf
    rw [e1, i2c_c e2 e3]
    have e4 : iad (a : Int) 1 = ((a + 1 : Nat) : Int) := by rw [iad_e (by omega)]; rfl
    refine ⟨by omega, ix_2 (by omega) e2 e3 (fun q => ?_) (fun q => ?_)⟩ <;> conv => whnf
    all_goals first
      | exact ⟨trivial, h0 (by omega)⟩
      | skip
    all_goals
      rw [ha]
      refine anI (by omega) ?_
      conv => whnf
      simp (disch := decide) only [up_c]
      rw [e1, e4]
      exact ⟨trivial, h1 (by omega)⟩
  · have := lz_by_ge (b := b) (n := n) (a := a) (by omega)
    exact ⟨trivial, h0 (by omega)⟩
theorem tk_3 {d a n : Nat} {b : Nat → Int} {J : ME} {Q : Option MV → ME → Prop} (hd : 9 ≤ d) (hA : rdA b n J) (ha : J 14 3 = (a : Int)) (h1 : (lz_by b n a = 124) → Q (some (nt (lz_by b n a))) (upd_ J 14 3 ((a + 1 : Nat) : Int))) (h0 : ¬ (lz_by b n a = 124) → Q (some (nt 0)) J) : EvM d 114 [rf 14, rf 1103] J Q := by
  have h2 := hA.1
  have h120 := hA.2.1
  refine EvM.go [] (T := T_114) rfl rfl rfl rfl ?_
  conv => whnf
  refine brI (fun p => ?_) (fun p => ?_) <;> conv => whnf
  · obtain ⟨e1, e2, e3⟩ := hA.by (a := a) (by omega)
    rw [ha]
    refine anI (by omega) ?_
    conv => whnf
    rw [e1, i2c_c e2 e3]
    have e4 : iad (a : Int) 1 = ((a + 1 : Nat) : Int) := by rw [iad_e (by omega)]; rfl
    refine ⟨by omega, ix_3 (by omega) e2 e3 (fun q => ?_) (fun q => ?_)⟩ <;> conv => whnf
    all_goals first
      | exact ⟨trivial, h0 (by omega)⟩
      | skip
    all_goals
      rw [ha]
      refine anI (by omega) ?_
      conv => whnf
      simp (disch := decide) only [up_c]
      rw [e1, e4]
      exact ⟨trivial, h1 (by omega)⟩
  · have := lz_by_ge (b := b) (n := n) (a := a) (by omega)
    exact ⟨trivial, h0 (by omega)⟩
theorem tk_4 {d a n : Nat} {b : Nat → Int} {J : ME} {Q : Option MV → ME → Prop} (hd : 9 ≤ d) (hA : rdA b n J) (ha : J 14 3 = (a : Int)) (h1 : (lz_by b n a = 38) → Q (some (nt (lz_by b n a))) (upd_ J 14 3 ((a + 1 : Nat) : Int))) (h0 : ¬ (lz_by b n a = 38) → Q (some (nt 0)) J) : EvM d 114 [rf 14, rf 1104] J Q := by
  have h2 := hA.1
  have h120 := hA.2.1
  refine EvM.go [] (T := T_114) rfl rfl rfl rfl ?_
  conv => whnf
  refine brI (fun p => ?_) (fun p => ?_) <;> conv => whnf
  · obtain ⟨e1, e2, e3⟩ := hA.by (a := a) (by omega)
    rw [ha]
    refine anI (by omega) ?_
    conv => whnf
    rw [e1, i2c_c e2 e3]
    have e4 : iad (a : Int) 1 = ((a + 1 : Nat) : Int) := by rw [iad_e (by omega)]; rfl
    refine ⟨by omega, ix_4 (by omega) e2 e3 (fun q => ?_) (fun q => ?_)⟩ <;> conv => whnf
    all_goals first
      | exact ⟨trivial, h0 (by omega)⟩
      | skip
    all_goals
      rw [ha]
      refine anI (by omega) ?_
      conv => whnf
      simp (disch := decide) only [up_c]
      rw [e1, e4]
      exact ⟨trivial, h1 (by omega)⟩
  · have := lz_by_ge (b := b) (n := n) (a := a) (by omega)
    exact ⟨trivial, h0 (by omega)⟩
theorem tk_5 {d a n : Nat} {b : Nat → Int} {J : ME} {Q : Option MV → ME → Prop} (hd : 9 ≤ d) (hA : rdA b n J) (ha : J 14 3 = (a : Int)) (h1 : (lz_by b n a = 60 ∨ lz_by b n a = 61 ∨ lz_by b n a = 62) → Q (some (nt (lz_by b n a))) (upd_ J 14 3 ((a + 1 : Nat) : Int))) (h0 : ¬ (lz_by b n a = 60 ∨ lz_by b n a = 61 ∨ lz_by b n a = 62) → Q (some (nt 0)) J) : EvM d 114 [rf 14, rf 1105] J Q := by
  have h2 := hA.1
  have h120 := hA.2.1
  refine EvM.go [] (T := T_114) rfl rfl rfl rfl ?_
  conv => whnf
  refine brI (fun p => ?_) (fun p => ?_) <;> conv => whnf
  · obtain ⟨e1, e2, e3⟩ := hA.by (a := a) (by omega)
    rw [ha]
    refine anI (by omega) ?_
    conv => whnf
    rw [e1, i2c_c e2 e3]
    have e4 : iad (a : Int) 1 = ((a + 1 : Nat) : Int) := by rw [iad_e (by omega)]; rfl
    refine ⟨by omega, ix_5 (by omega) e2 e3 (fun q => ?_) (fun q => ?_) (fun q => ?_) (fun q => ?_)⟩ <;> conv => whnf
    all_goals first
      | exact ⟨trivial, h0 (by omega)⟩
      | skip
    all_goals
      rw [ha]
      refine anI (by omega) ?_
      conv => whnf
      simp (disch := decide) only [up_c]
      rw [e1, e4]
      exact ⟨trivial, h1 (by omega)⟩
  · have := lz_by_ge (b := b) (n := n) (a := a) (by omega)
    exact ⟨trivial, h0 (by omega)⟩
theorem tk_6 {d a n : Nat} {b : Nat → Int} {J : ME} {Q : Option MV → ME → Prop} (hd : 9 ≤ d) (hA : rdA b n J) (ha : J 14 3 = (a : Int)) (h1 : (lz_by b n a = 43 ∨ lz_by b n a = 45) → Q (some (nt (lz_by b n a))) (upd_ J 14 3 ((a + 1 : Nat) : Int))) (h0 : ¬ (lz_by b n a = 43 ∨ lz_by b n a = 45) → Q (some (nt 0)) J) : EvM d 114 [rf 14, rf 1106] J Q := by
  have h2 := hA.1
  have h120 := hA.2.1
  refine EvM.go [] (T := T_114) rfl rfl rfl rfl ?_
  conv => whnf
  refine brI (fun p => ?_) (fun p => ?_) <;> conv => whnf
  · obtain ⟨e1, e2, e3⟩ := hA.by (a := a) (by omega)
    rw [ha]
    refine anI (by omega) ?_
    conv => whnf
    rw [e1, i2c_c e2 e3]
    have e4 : iad (a : Int) 1 = ((a + 1 : Nat) : Int) := by rw [iad_e (by omega)]; rfl
    refine ⟨by omega, ix_6 (by omega) e2 e3 (fun q => ?_) (fun q => ?_) (fun q => ?_)⟩ <;> conv => whnf
    all_goals first
      | exact ⟨trivial, h0 (by omega)⟩
      | skip
    all_goals
      rw [ha]
      refine anI (by omega) ?_
      conv => whnf
      simp (disch := decide) only [up_c]
      rw [e1, e4]
      exact ⟨trivial, h1 (by omega)⟩
  · have := lz_by_ge (b := b) (n := n) (a := a) (by omega)
    exact ⟨trivial, h0 (by omega)⟩
theorem tk_7 {d a n : Nat} {b : Nat → Int} {J : ME} {Q : Option MV → ME → Prop} (hd : 9 ≤ d) (hA : rdA b n J) (ha : J 14 3 = (a : Int)) (h1 : (lz_by b n a = 42 ∨ lz_by b n a = 47 ∨ lz_by b n a = 37) → Q (some (nt (lz_by b n a))) (upd_ J 14 3 ((a + 1 : Nat) : Int))) (h0 : ¬ (lz_by b n a = 42 ∨ lz_by b n a = 47 ∨ lz_by b n a = 37) → Q (some (nt 0)) J) : EvM d 114 [rf 14, rf 1107] J Q := by
  have h2 := hA.1
  have h120 := hA.2.1
  refine EvM.go [] (T := T_114) rfl rfl rfl rfl ?_
  conv => whnf
  refine brI (fun p => ?_) (fun p => ?_) <;> conv => whnf
  · obtain ⟨e1, e2, e3⟩ := hA.by (a := a) (by omega)
    rw [ha]
    refine anI (by omega) ?_
    conv => whnf
    rw [e1, i2c_c e2 e3]
    have e4 : iad (a : Int) 1 = ((a + 1 : Nat) : Int) := by rw [iad_e (by omega)]; rfl
    refine ⟨by omega, ix_7 (by omega) e2 e3 (fun q => ?_) (fun q => ?_) (fun q => ?_) (fun q => ?_)⟩ <;> conv => whnf
    all_goals first
      | exact ⟨trivial, h0 (by omega)⟩
      | skip
    all_goals
      rw [ha]
      refine anI (by omega) ?_
      conv => whnf
      simp (disch := decide) only [up_c]
      rw [e1, e4]
      exact ⟨trivial, h1 (by omega)⟩
  · have := lz_by_ge (b := b) (n := n) (a := a) (by omega)
    exact ⟨trivial, h0 (by omega)⟩
theorem tk_8 {d a n : Nat} {b : Nat → Int} {J : ME} {Q : Option MV → ME → Prop} (hd : 9 ≤ d) (hA : rdA b n J) (ha : J 14 3 = (a : Int)) (h1 : (lz_by b n a = 63) → Q (some (nt (lz_by b n a))) (upd_ J 14 3 ((a + 1 : Nat) : Int))) (h0 : ¬ (lz_by b n a = 63) → Q (some (nt 0)) J) : EvM d 114 [rf 14, rf 1108] J Q := by
  have h2 := hA.1
  have h120 := hA.2.1
  refine EvM.go [] (T := T_114) rfl rfl rfl rfl ?_
  conv => whnf
  refine brI (fun p => ?_) (fun p => ?_) <;> conv => whnf
  · obtain ⟨e1, e2, e3⟩ := hA.by (a := a) (by omega)
    rw [ha]
    refine anI (by omega) ?_
    conv => whnf
    rw [e1, i2c_c e2 e3]
    have e4 : iad (a : Int) 1 = ((a + 1 : Nat) : Int) := by rw [iad_e (by omega)]; rfl
    refine ⟨by omega, ix_8 (by omega) e2 e3 (fun q => ?_) (fun q => ?_)⟩ <;> conv => whnf
    all_goals first
      | exact ⟨trivial, h0 (by omega)⟩
      | skip
    all_goals
      rw [ha]
      refine anI (by omega) ?_
      conv => whnf
      simp (disch := decide) only [up_c]
      rw [e1, e4]
      exact ⟨trivial, h1 (by omega)⟩
  · have := lz_by_ge (b := b) (n := n) (a := a) (by omega)
    exact ⟨trivial, h0 (by omega)⟩
theorem tk_9 {d a n : Nat} {b : Nat → Int} {J : ME} {Q : Option MV → ME → Prop} (hd : 9 ≤ d) (hA : rdA b n J) (ha : J 14 3 = (a : Int)) (h1 : (lz_by b n a = 59) → Q (some (nt (lz_by b n a))) (upd_ J 14 3 ((a + 1 : Nat) : Int))) (h0 : ¬ (lz_by b n a = 59) → Q (some (nt 0)) J) : EvM d 114 [rf 14, rf 1109] J Q := by
  have h2 := hA.1
  have h120 := hA.2.1
  refine EvM.go [] (T := T_114) rfl rfl rfl rfl ?_
  conv => whnf
  refine brI (fun p => ?_) (fun p => ?_) <;> conv => whnf
  · obtain ⟨e1, e2, e3⟩ := hA.by (a := a) (by omega)
    rw [ha]
    refine anI (by omega) ?_
    conv => whnf
    rw [e1, i2c_c e2 e3]
    have e4 : iad (a : Int) 1 = ((a + 1 : Nat) : Int) := by rw [iad_e (by omega)]; rfl
    refine ⟨by omega, ix_9 (by omega) e2 e3 (fun q => ?_) (fun q => ?_)⟩ <;> conv => whnf
    all_goals first
      | exact ⟨trivial, h0 (by omega)⟩
      | skip
    all_goals
      rw [ha]
      refine anI (by omega) ?_
      conv => whnf
      simp (disch := decide) only [up_c]
      rw [e1, e4]
      exact ⟨trivial, h1 (by omega)⟩
  · have := lz_by_ge (b := b) (n := n) (a := a) (by omega)
    exact ⟨trivial, h0 (by omega)⟩
