/-! THE CLASS'S READING: levels, operands -/
def rdC (d k : Nat) (as : List MV) (b : Nat → Int) (n : Nat) (f : Nat → lz_R) : Prop := ∀ (J : ME) (a : Nat), rdA b n J → J 14 3 = (a : Int) → a ≤ n → (J 14 4 = 1 → (f a).1 = true ∧ 0 ≤ J 7 4 ∧ J 7 4 + (f a).2.2.length ≤ 120) →
  EvM d k (rf 14 :: as) J (fun v K => v = some (nt (if (f a).1 = true then 1 else 0)) ∧ K = upd_ (wrL J (f a).2.2) 14 3 ((f a).2.1 : Int))
theorem lz_lp_len {b : Nat → Int} {n : Nat} {g : Nat → lz_R} {j : Nat} : ∀ (m a : Nat) (c : List Int), (lz_lp b n g j m a c).1 = true → c.length ≤ (lz_lp b n g j m a c).2.2.length
  | 0, a, c, _ => Nat.le_refl _
  | m + 1, a, c, h => by
    cases hs : lz_sg j (lz_by b n a) with
    | false => rw [lz_lp_n hs]; exact Nat.le_refl _
    | true =>
      rw [lz_lp_s hs] at h ⊢
      revert h
      match g (a + 1) with
      | (true, a', c') =>
        intro h
        have := lz_lp_len m a' (c ++ c' ++ [-(lz_by b n a)]) h
        simp only [List.length_append, List.length_cons, List.length_nil] at this
        show c.length ≤ (lz_lp b n g j m a' (c ++ c' ++ [-(lz_by b n a)])).2.2.length
        omega
      | (false, a', c') => intro h; cases h
theorem wrL_0 {J : ME} (h : ¬ J 14 4 = 1) (c : List Int) : wrL J c = J := by unfold wrL; rw [if_neg h]
theorem wrL_7 {J : ME} (h : J 14 4 = 1) (c : List Int) (v : Int) : upd_ (wrL J c) 14 3 v 7 4 = J 7 4 + c.length := by
  rw [up_c (by decide)]
  unfold wrL
  rw [if_pos h]
  exact (wrs2_7 c J).1
theorem wrL_w (J : ME) (c : List Int) (v : Int) : upd_ (wrL J c) 14 3 v 14 4 = J 14 4 := by
  rw [up_ne (by decide), wrL_F J c 14 (by decide)]
theorem wrL_2 (J : ME) (c c' : List Int) (v v' : Int) : upd_ (wrL (upd_ (wrL J c) 14 3 v) c') 14 3 v' = upd_ (wrL J (c ++ c')) 14 3 v' := by
  rw [wrL_up, up_up, wrL_app]
theorem wrL_3 (J : ME) (c c' : List Int) (v : Int) : wrL (upd_ (wrL J c) 14 3 v) c' = upd_ (wrL J (c ++ c')) 14 3 v := by
  rw [wrL_up, wrL_app]
theorem x109_0 {d n : Nat} {o : Int} {b : Nat → Int} {f : Nat → lz_R} (h : rdC d 111 [nt o] b n f) : rdC (d + 1) 109 [nt 5, nt o] b n f := by
  intro J a hA ha han hw
  refine EvM.go [] (T := T_109) rfl rfl rfl rfl ?_
  conv => whnf
  refine ⟨by omega, (h J a hA ha han hw).mono fun v K hv => ?_⟩
  obtain ⟨rfl, hK⟩ := hv
  conv => whnf
  by_cases hf : (f a).1 = true
  · rw [if_pos hf]
    exact ⟨trivial, rfl, hK⟩
  · rw [if_neg hf]
    exact ⟨trivial, rfl, hK⟩
theorem x109_1 {d n : Nat} {o : Int} {b : Nat → Int} {g0 : Nat → lz_R} (hd : 10 ≤ d) (hg : evL b n (lz_ch b n g0 0)) (h : rdC d 109 [nt 5, nt o] b n (lz_ch b n g0 0)) : rdC (d + 1) 109 [nt 4, nt o] b n (lz_ch b n g0 1) := by
  intro J a hA ha han hw
  have h120 := hA.2.1
  have el : iad 4 1 = 5 := by decide
  have hsg : ∀ a, lz_sg 0 (lz_by b n a) = true ↔ (lz_by b n a = 42 ∨ lz_by b n a = 47 ∨ lz_by b n a = 37) := fun a => by
    unfold lz_sg
    simp only [Bool.or_eq_true, decide_eq_true_eq, or_assoc]
  have loop : ∀ (m a : Nat) (c : List Int) (t : Option Int), m ≤ n → a ≤ n → (J 14 4 = 1 → (lz_lp b n (lz_ch b n g0 0) 0 m a c).1 = true ∧ 0 ≤ J 7 4 ∧ J 7 4 + (lz_lp b n (lz_ch b n g0 0) 0 m a c).2.2.length ≤ 120) → Ev (d + 1) 109 41 [some (rf 14), some (nt 4), some (nt o), some (nt (n : Int)), some (nt ((n : Int) - (m : Int))), t.map nt] [] (upd_ (wrL J c) 14 3 (a : Int)) (fun v K => v = some (nt (if (lz_lp b n (lz_ch b n g0 0) 0 m a c).1 = true then 1 else 0)) ∧ K = upd_ (wrL J (lz_lp b n (lz_ch b n g0 0) 0 m a c).2.2) 14 3 ((lz_lp b n (lz_ch b n g0 0) 0 m a c).2.1 : Int)) := by
    intro m
    induction m with
    | zero =>
      intro a c t hm han hw
      refine Ev.go [] (T := T_109) rfl rfl ?_
      cases t
      all_goals
        conv => whnf
        refine brI (fun _ => by exfalso; omega) (fun _ => ?_); (conv => whnf)
        exact ⟨trivial, rfl, rfl⟩
    | succ m ih =>
      intro a c t hm han hw
      have hK := hA.mv c (a : Int)
      refine Ev.go [41] (T := T_109) rfl rfl ?_
      cases t
      all_goals
        conv => whnf
        refine brI (fun _ => ?_) (fun _ => by exfalso; omega)
        conv => whnf
        refine ⟨by omega, EvM.go [] (T := T_110) rfl rfl rfl rfl ?_⟩
        conv => whnf
        refine ⟨trivial, ?_⟩
        conv => whnf
        refine ⟨by omega, tk_7 (a := a) (by omega) hK (up_eq _ _ _ _) (fun q => ?_) (fun q => ?_)⟩ <;> conv => whnf
        · have hs := (hsg a).mpr q
          have hnz := lz_sg_nz hs
          have hlt := lz_by_lt (b := b) (n := n) (a := a) (by omega)
          rw [lz_lp_s hs] at hw ⊢
          refine brI (fun z => by exfalso; omega) (fun _ => ?_)
          conv => whnf
          rw [el, up_up]
          have hbd := hg (a + 1) (by omega)
          have hsub := h (upd_ (wrL J c) 14 3 ((a + 1 : Nat) : Int)) (a + 1) (hA.mv c _) (up_eq _ _ _ _) (by omega)
          rw [wrL_w] at hsub
          revert hsub hw hbd
          match lz_ch b n g0 0 (a + 1) with
          | (true, a', c') =>
            intro hw hbd hsub
            have b2 : a' ≤ n := hbd.2.1
            have hlen : J 14 4 = 1 → 0 ≤ J 7 4 ∧ J 7 4 + c.length + c'.length + 1 ≤ 120 := fun z => by
              obtain ⟨w1, w2, w3⟩ := hw z
              have := lz_lp_len m a' (c ++ c' ++ [-(lz_by b n a)]) w1
              simp only [List.length_append, List.length_cons, List.length_nil] at this
              exact ⟨w2, by have w3 : J 7 4 + ((lz_lp b n (lz_ch b n g0 0) 0 m a' (c ++ c' ++ [-(lz_by b n a)])).2.2.length : Int) ≤ 120 := w3; omega⟩
            have hsub := hsub (fun z => ⟨rfl, by rw [wrL_7 z]; have := (hlen z).1; omega, by rw [wrL_7 z]; show J 7 4 + (c.length : Int) + (c'.length : Int) ≤ 120; have := (hlen z).2; omega⟩)
            refine ⟨by omega, hsub.mono fun v K hv => ?_⟩
            obtain ⟨rfl, rfl⟩ := hv
            conv => whnf
            have eg : ing (lz_by b n a) = -(lz_by b n a) := ing_e (by omega)
            rw [eg]
            show 0 < d + 1 ∧ EvM _ _ _ (upd_ (wrL (upd_ (wrL J c) 14 3 ((a + 1 : Nat) : Int)) c') 14 3 (a' : Int)) _
            rw [wrL_2]
            refine ⟨by omega, x115 (by omega) (by rw [wrL_w]; exact hA.2.2.2) (fun z => ?_) ?_⟩
            · rw [wrL_w] at z
              have := hlen z
              rw [wrL_7 z, List.length_append]
              omega
            · conv => whnf
              rw [wrL_3]
              refine ⟨trivial, Ev.to ?_ rfl (ih a' (c ++ c' ++ [-(lz_by b n a)]) (some (lz_by b n a)) (by omega) b2 hw)⟩
              rw [iad_e (by omega), show (n : Int) - ((m + 1 : Nat) : Int) + 1 = (n : Int) - (m : Int) by omega]
              rfl
          | (false, a', c') =>
            intro hw hbd hsub
            have h0 : ¬ J 14 4 = 1 := fun z => by have := (hw z).1; cases this
            have hsub := hsub (fun z => absurd z h0)
            refine ⟨by omega, hsub.mono fun v K hv => ?_⟩
            obtain ⟨rfl, rfl⟩ := hv
            conv => whnf
            refine ⟨trivial, rfl, ?_⟩
            show upd_ (wrL (upd_ (wrL J c) 14 3 _) c') 14 3 (a' : Int) = upd_ (wrL J []) 14 3 (a' : Int)
            rw [wrL_2, wrL_0 h0, wrL_0 h0]
        · have hs : lz_sg 0 (lz_by b n a) = false := by
            cases hz : lz_sg 0 (lz_by b n a) with
            | false => rfl
            | true => exact absurd ((hsg a).mp hz) q
          rw [lz_lp_n hs]
          exact ⟨trivial, rfl, rfl⟩
  have hbd := hg a han
  have hsub := h J a hA ha han
  have ech : lz_ch b n g0 1 a = (match lz_ch b n g0 0 a with
    | (true, a', c) => lz_lp b n (lz_ch b n g0 0) 0 n a' c
    | (false, a', _) => (false, a', [])) := rfl
  rw [ech] at hw ⊢
  refine EvM.go [41] (T := T_109) rfl rfl rfl rfl ?_
  conv => whnf
  rw [el]
  revert hsub hw hbd
  match lz_ch b n g0 0 a with
  | (true, a', c') =>
    intro hw hbd hsub
    have b2 : a' ≤ n := hbd.2.1
    have hsub := hsub (fun z => by
      obtain ⟨w1, w2, w3⟩ := hw z
      have := lz_lp_len n a' c' w1
      exact ⟨rfl, w2, by have w3 : J 7 4 + ((lz_lp b n (lz_ch b n g0 0) 0 n a' c').2.2.length : Int) ≤ 120 := w3; show J 7 4 + (c'.length : Int) ≤ 120; omega⟩)
    refine ⟨by omega, hsub.mono fun v K hv => ?_⟩
    obtain ⟨rfl, rfl⟩ := hv
    conv => whnf
    have e14 : upd_ (wrL J c') 14 3 (a' : Int) 14 2 = (n : Int) := (hA.mv c' _).1
    have := loop n a' c' none (Nat.le_refl _) b2 hw
    rw [Int.sub_self] at this; show True ∧ Ev _ _ _ [_, _, _, some (nt (upd_ (wrL J c') 14 3 (a' : Int) 14 2)), _, _] _ _ _; rw [e14]
    exact ⟨trivial, this⟩
  | (false, a', c') =>
    intro hw hbd hsub
    have h0 : ¬ J 14 4 = 1 := fun z => by have := (hw z).1; cases this
    have hsub := hsub (fun z => absurd z h0)
    refine ⟨by omega, hsub.mono fun v K hv => ?_⟩
    obtain ⟨rfl, rfl⟩ := hv
    conv => whnf
    refine ⟨trivial, rfl, ?_⟩
    show upd_ (wrL J c') 14 3 (a' : Int) = upd_ (wrL J []) 14 3 (a' : Int)
    rw [wrL_0 h0, wrL_0 h0]
theorem x109_2 {d n : Nat} {o : Int} {b : Nat → Int} {g0 : Nat → lz_R} (hd : 10 ≤ d) (hg : evL b n (lz_ch b n g0 1)) (h : rdC d 109 [nt 4, nt o] b n (lz_ch b n g0 1)) : rdC (d + 1) 109 [nt 3, nt o] b n (lz_ch b n g0 2) := by
  intro J a hA ha han hw
  have h120 := hA.2.1
  have el : iad 3 1 = 4 := by decide
  have hsg : ∀ a, lz_sg 1 (lz_by b n a) = true ↔ (lz_by b n a = 43 ∨ lz_by b n a = 45) := fun a => by
    unfold lz_sg
    simp only [Bool.or_eq_true, decide_eq_true_eq, or_assoc]
  have loop : ∀ (m a : Nat) (c : List Int) (t : Option Int), m ≤ n → a ≤ n → (J 14 4 = 1 → (lz_lp b n (lz_ch b n g0 1) 1 m a c).1 = true ∧ 0 ≤ J 7 4 ∧ J 7 4 + (lz_lp b n (lz_ch b n g0 1) 1 m a c).2.2.length ≤ 120) → Ev (d + 1) 109 41 [some (rf 14), some (nt 3), some (nt o), some (nt (n : Int)), some (nt ((n : Int) - (m : Int))), t.map nt] [] (upd_ (wrL J c) 14 3 (a : Int)) (fun v K => v = some (nt (if (lz_lp b n (lz_ch b n g0 1) 1 m a c).1 = true then 1 else 0)) ∧ K = upd_ (wrL J (lz_lp b n (lz_ch b n g0 1) 1 m a c).2.2) 14 3 ((lz_lp b n (lz_ch b n g0 1) 1 m a c).2.1 : Int)) := by
    intro m
    induction m with
    | zero =>
      intro a c t hm han hw
      refine Ev.go [] (T := T_109) rfl rfl ?_
      cases t
      all_goals
        conv => whnf
        refine brI (fun _ => by exfalso; omega) (fun _ => ?_); (conv => whnf)
        exact ⟨trivial, rfl, rfl⟩
    | succ m ih =>
      intro a c t hm han hw
      have hK := hA.mv c (a : Int)
      refine Ev.go [41] (T := T_109) rfl rfl ?_
      cases t
      all_goals
        conv => whnf
        refine brI (fun _ => ?_) (fun _ => by exfalso; omega)
        conv => whnf
        refine ⟨by omega, EvM.go [] (T := T_110) rfl rfl rfl rfl ?_⟩
        conv => whnf
        refine ⟨trivial, ?_⟩
        conv => whnf
        refine ⟨by omega, tk_6 (a := a) (by omega) hK (up_eq _ _ _ _) (fun q => ?_) (fun q => ?_)⟩ <;> conv => whnf
        · have hs := (hsg a).mpr q
          have hnz := lz_sg_nz hs
          have hlt := lz_by_lt (b := b) (n := n) (a := a) (by omega)
          rw [lz_lp_s hs] at hw ⊢
          refine brI (fun z => by exfalso; omega) (fun _ => ?_)
          conv => whnf
          rw [el, up_up]
          have hbd := hg (a + 1) (by omega)
          have hsub := h (upd_ (wrL J c) 14 3 ((a + 1 : Nat) : Int)) (a + 1) (hA.mv c _) (up_eq _ _ _ _) (by omega)
          rw [wrL_w] at hsub
          revert hsub hw hbd
          match lz_ch b n g0 1 (a + 1) with
          | (true, a', c') =>
            intro hw hbd hsub
            have b2 : a' ≤ n := hbd.2.1
            have hlen : J 14 4 = 1 → 0 ≤ J 7 4 ∧ J 7 4 + c.length + c'.length + 1 ≤ 120 := fun z => by
              obtain ⟨w1, w2, w3⟩ := hw z
              have := lz_lp_len m a' (c ++ c' ++ [-(lz_by b n a)]) w1
              simp only [List.length_append, List.length_cons, List.length_nil] at this
              exact ⟨w2, by have w3 : J 7 4 + ((lz_lp b n (lz_ch b n g0 1) 1 m a' (c ++ c' ++ [-(lz_by b n a)])).2.2.length : Int) ≤ 120 := w3; omega⟩
            have hsub := hsub (fun z => ⟨rfl, by rw [wrL_7 z]; have := (hlen z).1; omega, by rw [wrL_7 z]; show J 7 4 + (c.length : Int) + (c'.length : Int) ≤ 120; have := (hlen z).2; omega⟩)
            refine ⟨by omega, hsub.mono fun v K hv => ?_⟩
            obtain ⟨rfl, rfl⟩ := hv
            conv => whnf
            have eg : ing (lz_by b n a) = -(lz_by b n a) := ing_e (by omega)
            rw [eg]
            show 0 < d + 1 ∧ EvM _ _ _ (upd_ (wrL (upd_ (wrL J c) 14 3 ((a + 1 : Nat) : Int)) c') 14 3 (a' : Int)) _
            rw [wrL_2]
            refine ⟨by omega, x115 (by omega) (by rw [wrL_w]; exact hA.2.2.2) (fun z => ?_) ?_⟩
            · rw [wrL_w] at z
              have := hlen z
              rw [wrL_7 z, List.length_append]
              omega
            · conv => whnf
              rw [wrL_3]
              refine ⟨trivial, Ev.to ?_ rfl (ih a' (c ++ c' ++ [-(lz_by b n a)]) (some (lz_by b n a)) (by omega) b2 hw)⟩
              rw [iad_e (by omega), show (n : Int) - ((m + 1 : Nat) : Int) + 1 = (n : Int) - (m : Int) by omega]
              rfl
          | (false, a', c') =>
            intro hw hbd hsub
            have h0 : ¬ J 14 4 = 1 := fun z => by have := (hw z).1; cases this
            have hsub := hsub (fun z => absurd z h0)
            refine ⟨by omega, hsub.mono fun v K hv => ?_⟩
            obtain ⟨rfl, rfl⟩ := hv
            conv => whnf
            refine ⟨trivial, rfl, ?_⟩
            show upd_ (wrL (upd_ (wrL J c) 14 3 _) c') 14 3 (a' : Int) = upd_ (wrL J []) 14 3 (a' : Int)
            rw [wrL_2, wrL_0 h0, wrL_0 h0]
        · have hs : lz_sg 1 (lz_by b n a) = false := by
            cases hz : lz_sg 1 (lz_by b n a) with
            | false => rfl
            | true => exact absurd ((hsg a).mp hz) q
          rw [lz_lp_n hs]
          exact ⟨trivial, rfl, rfl⟩
  have hbd := hg a han
  have hsub := h J a hA ha han
  have ech : lz_ch b n g0 2 a = (match lz_ch b n g0 1 a with
    | (true, a', c) => lz_lp b n (lz_ch b n g0 1) 1 n a' c
    | (false, a', _) => (false, a', [])) := rfl
  rw [ech] at hw ⊢
  refine EvM.go [41] (T := T_109) rfl rfl rfl rfl ?_
  conv => whnf
  rw [el]
  revert hsub hw hbd
  match lz_ch b n g0 1 a with
  | (true, a', c') =>
    intro hw hbd hsub
    have b2 : a' ≤ n := hbd.2.1
    have hsub := hsub (fun z => by
      obtain ⟨w1, w2, w3⟩ := hw z
      have := lz_lp_len n a' c' w1
      exact ⟨rfl, w2, by have w3 : J 7 4 + ((lz_lp b n (lz_ch b n g0 1) 1 n a' c').2.2.length : Int) ≤ 120 := w3; show J 7 4 + (c'.length : Int) ≤ 120; omega⟩)
    refine ⟨by omega, hsub.mono fun v K hv => ?_⟩
    obtain ⟨rfl, rfl⟩ := hv
    conv => whnf
    have e14 : upd_ (wrL J c') 14 3 (a' : Int) 14 2 = (n : Int) := (hA.mv c' _).1
    have := loop n a' c' none (Nat.le_refl _) b2 hw
    rw [Int.sub_self] at this; show True ∧ Ev _ _ _ [_, _, _, some (nt (upd_ (wrL J c') 14 3 (a' : Int) 14 2)), _, _] _ _ _; rw [e14]
    exact ⟨trivial, this⟩
  | (false, a', c') =>
    intro hw hbd hsub
    have h0 : ¬ J 14 4 = 1 := fun z => by have := (hw z).1; cases this
    have hsub := hsub (fun z => absurd z h0)
    refine ⟨by omega, hsub.mono fun v K hv => ?_⟩
    obtain ⟨rfl, rfl⟩ := hv
    conv => whnf
    refine ⟨trivial, rfl, ?_⟩
    show upd_ (wrL J c') 14 3 (a' : Int) = upd_ (wrL J []) 14 3 (a' : Int)
    rw [wrL_0 h0, wrL_0 h0]
theorem x109_3 {d n : Nat} {o : Int} {b : Nat → Int} {g0 : Nat → lz_R} (hd : 10 ≤ d) (hg : evL b n (lz_ch b n g0 2)) (h : rdC d 109 [nt 3, nt o] b n (lz_ch b n g0 2)) : rdC (d + 1) 109 [nt 2, nt o] b n (lz_ch b n g0 3) := by
  intro J a hA ha han hw
  have h120 := hA.2.1
  have el : iad 2 1 = 3 := by decide
  have hsg : ∀ a, lz_sg 2 (lz_by b n a) = true ↔ (lz_by b n a = 60 ∨ lz_by b n a = 61 ∨ lz_by b n a = 62) := fun a => by
    unfold lz_sg
    simp only [Bool.or_eq_true, decide_eq_true_eq, or_assoc]
  have loop : ∀ (m a : Nat) (c : List Int) (t : Option Int), m ≤ 1 → a ≤ n → (J 14 4 = 1 → (lz_lp b n (lz_ch b n g0 2) 2 m a c).1 = true ∧ 0 ≤ J 7 4 ∧ J 7 4 + (lz_lp b n (lz_ch b n g0 2) 2 m a c).2.2.length ≤ 120) → Ev (d + 1) 109 41 [some (rf 14), some (nt 2), some (nt o), some (nt 1), some (nt (1 - (m : Int))), t.map nt] [] (upd_ (wrL J c) 14 3 (a : Int)) (fun v K => v = some (nt (if (lz_lp b n (lz_ch b n g0 2) 2 m a c).1 = true then 1 else 0)) ∧ K = upd_ (wrL J (lz_lp b n (lz_ch b n g0 2) 2 m a c).2.2) 14 3 ((lz_lp b n (lz_ch b n g0 2) 2 m a c).2.1 : Int)) := by
    intro m
    induction m with
    | zero =>
      intro a c t hm han hw
      refine Ev.go [] (T := T_109) rfl rfl ?_
      cases t
      all_goals
        conv => whnf
        skip
        exact ⟨trivial, rfl, rfl⟩
    | succ m ih =>
      intro a c t hm han hw
      have hK := hA.mv c (a : Int)
      refine Ev.go [41] (T := T_109) rfl rfl ?_
      cases t
      all_goals
        conv => whnf
        refine brI (fun _ => ?_) (fun _ => by exfalso; omega)
        conv => whnf
        refine ⟨by omega, EvM.go [] (T := T_110) rfl rfl rfl rfl ?_⟩
        conv => whnf
        refine ⟨trivial, ?_⟩
        conv => whnf
        refine ⟨by omega, tk_5 (a := a) (by omega) hK (up_eq _ _ _ _) (fun q => ?_) (fun q => ?_)⟩ <;> conv => whnf
        · have hs := (hsg a).mpr q
          have hnz := lz_sg_nz hs
          have hlt := lz_by_lt (b := b) (n := n) (a := a) (by omega)
          rw [lz_lp_s hs] at hw ⊢
          refine brI (fun z => by exfalso; omega) (fun _ => ?_)
          conv => whnf
          rw [el, up_up]
          have hbd := hg (a + 1) (by omega)
          have hsub := h (upd_ (wrL J c) 14 3 ((a + 1 : Nat) : Int)) (a + 1) (hA.mv c _) (up_eq _ _ _ _) (by omega)
          rw [wrL_w] at hsub
          revert hsub hw hbd
          match lz_ch b n g0 2 (a + 1) with
          | (true, a', c') =>
            intro hw hbd hsub
            have b2 : a' ≤ n := hbd.2.1
            have hlen : J 14 4 = 1 → 0 ≤ J 7 4 ∧ J 7 4 + c.length + c'.length + 1 ≤ 120 := fun z => by
              obtain ⟨w1, w2, w3⟩ := hw z
              have := lz_lp_len m a' (c ++ c' ++ [-(lz_by b n a)]) w1
              simp only [List.length_append, List.length_cons, List.length_nil] at this
              exact ⟨w2, by have w3 : J 7 4 + ((lz_lp b n (lz_ch b n g0 2) 2 m a' (c ++ c' ++ [-(lz_by b n a)])).2.2.length : Int) ≤ 120 := w3; omega⟩
            have hsub := hsub (fun z => ⟨rfl, by rw [wrL_7 z]; have := (hlen z).1; omega, by rw [wrL_7 z]; show J 7 4 + (c.length : Int) + (c'.length : Int) ≤ 120; have := (hlen z).2; omega⟩)
            refine ⟨by omega, hsub.mono fun v K hv => ?_⟩
            obtain ⟨rfl, rfl⟩ := hv
            conv => whnf
            have eg : ing (lz_by b n a) = -(lz_by b n a) := ing_e (by omega)
            rw [eg]
            show 0 < d + 1 ∧ EvM _ _ _ (upd_ (wrL (upd_ (wrL J c) 14 3 ((a + 1 : Nat) : Int)) c') 14 3 (a' : Int)) _
            rw [wrL_2]
            refine ⟨by omega, x115 (by omega) (by rw [wrL_w]; exact hA.2.2.2) (fun z => ?_) ?_⟩
            · rw [wrL_w] at z
              have := hlen z
              rw [wrL_7 z, List.length_append]
              omega
            · conv => whnf
              rw [wrL_3]
              refine ⟨trivial, Ev.to ?_ rfl (ih a' (c ++ c' ++ [-(lz_by b n a)]) (some (lz_by b n a)) (by omega) b2 hw)⟩
              rw [iad_e (by omega), show 1 - ((m + 1 : Nat) : Int) + 1 = 1 - (m : Int) by omega]
              rfl
          | (false, a', c') =>
            intro hw hbd hsub
            have h0 : ¬ J 14 4 = 1 := fun z => by have := (hw z).1; cases this
            have hsub := hsub (fun z => absurd z h0)
            refine ⟨by omega, hsub.mono fun v K hv => ?_⟩
            obtain ⟨rfl, rfl⟩ := hv
            conv => whnf
            refine ⟨trivial, rfl, ?_⟩
            show upd_ (wrL (upd_ (wrL J c) 14 3 _) c') 14 3 (a' : Int) = upd_ (wrL J []) 14 3 (a' : Int)
            rw [wrL_2, wrL_0 h0, wrL_0 h0]
        · have hs : lz_sg 2 (lz_by b n a) = false := by
            cases hz : lz_sg 2 (lz_by b n a) with
            | false => rfl
            | true => exact absurd ((hsg a).mp hz) q
          rw [lz_lp_n hs]
          exact ⟨trivial, rfl, rfl⟩
  have hbd := hg a han
  have hsub := h J a hA ha han
  have ech : lz_ch b n g0 3 a = (match lz_ch b n g0 2 a with
    | (true, a', c) => lz_lp b n (lz_ch b n g0 2) 2 1 a' c
    | (false, a', _) => (false, a', [])) := rfl
  rw [ech] at hw ⊢
  refine EvM.go [41] (T := T_109) rfl rfl rfl rfl ?_
  conv => whnf
  rw [el]
  revert hsub hw hbd
  match lz_ch b n g0 2 a with
  | (true, a', c') =>
    intro hw hbd hsub
    have b2 : a' ≤ n := hbd.2.1
    have hsub := hsub (fun z => by
      obtain ⟨w1, w2, w3⟩ := hw z
      have := lz_lp_len 1 a' c' w1
      exact ⟨rfl, w2, by have w3 : J 7 4 + ((lz_lp b n (lz_ch b n g0 2) 2 1 a' c').2.2.length : Int) ≤ 120 := w3; show J 7 4 + (c'.length : Int) ≤ 120; omega⟩)
    refine ⟨by omega, hsub.mono fun v K hv => ?_⟩
    obtain ⟨rfl, rfl⟩ := hv
    conv => whnf
    have e14 : upd_ (wrL J c') 14 3 (a' : Int) 14 2 = (n : Int) := (hA.mv c' _).1
    have := loop 1 a' c' none (Nat.le_refl _) b2 hw
    rw [show (1 : Int) - ((1 : Nat) : Int) = 0 from rfl] at this
    exact ⟨trivial, this⟩
  | (false, a', c') =>
    intro hw hbd hsub
    have h0 : ¬ J 14 4 = 1 := fun z => by have := (hw z).1; cases this
    have hsub := hsub (fun z => absurd z h0)
    refine ⟨by omega, hsub.mono fun v K hv => ?_⟩
    obtain ⟨rfl, rfl⟩ := hv
    conv => whnf
    refine ⟨trivial, rfl, ?_⟩
    show upd_ (wrL J c') 14 3 (a' : Int) = upd_ (wrL J []) 14 3 (a' : Int)
    rw [wrL_0 h0, wrL_0 h0]
theorem x109_4 {d n : Nat} {o : Int} {b : Nat → Int} {g0 : Nat → lz_R} (hd : 10 ≤ d) (hg : evL b n (lz_ch b n g0 3)) (h : rdC d 109 [nt 2, nt o] b n (lz_ch b n g0 3)) : rdC (d + 1) 109 [nt 1, nt o] b n (lz_ch b n g0 4) := by
  intro J a hA ha han hw
  have h120 := hA.2.1
  have el : iad 1 1 = 2 := by decide
  have hsg : ∀ a, lz_sg 3 (lz_by b n a) = true ↔ (lz_by b n a = 38) := fun a => by
    unfold lz_sg
    simp only [Bool.or_eq_true, decide_eq_true_eq, or_assoc]
  have loop : ∀ (m a : Nat) (c : List Int) (t : Option Int), m ≤ n → a ≤ n → (J 14 4 = 1 → (lz_lp b n (lz_ch b n g0 3) 3 m a c).1 = true ∧ 0 ≤ J 7 4 ∧ J 7 4 + (lz_lp b n (lz_ch b n g0 3) 3 m a c).2.2.length ≤ 120) → Ev (d + 1) 109 41 [some (rf 14), some (nt 1), some (nt o), some (nt (n : Int)), some (nt ((n : Int) - (m : Int))), t.map nt] [] (upd_ (wrL J c) 14 3 (a : Int)) (fun v K => v = some (nt (if (lz_lp b n (lz_ch b n g0 3) 3 m a c).1 = true then 1 else 0)) ∧ K = upd_ (wrL J (lz_lp b n (lz_ch b n g0 3) 3 m a c).2.2) 14 3 ((lz_lp b n (lz_ch b n g0 3) 3 m a c).2.1 : Int)) := by
    intro m
    induction m with
    | zero =>
      intro a c t hm han hw
      refine Ev.go [] (T := T_109) rfl rfl ?_
      cases t
      all_goals
        conv => whnf
        refine brI (fun _ => by exfalso; omega) (fun _ => ?_); (conv => whnf)
        exact ⟨trivial, rfl, rfl⟩
    | succ m ih =>
      intro a c t hm han hw
      have hK := hA.mv c (a : Int)
      refine Ev.go [41] (T := T_109) rfl rfl ?_
      cases t
      all_goals
        conv => whnf
        refine brI (fun _ => ?_) (fun _ => by exfalso; omega)
        conv => whnf
        refine ⟨by omega, EvM.go [] (T := T_110) rfl rfl rfl rfl ?_⟩
        conv => whnf
        refine ⟨trivial, ?_⟩
        conv => whnf
        refine ⟨by omega, tk_4 (a := a) (by omega) hK (up_eq _ _ _ _) (fun q => ?_) (fun q => ?_)⟩ <;> conv => whnf
        · have hs := (hsg a).mpr q
          have hnz := lz_sg_nz hs
          have hlt := lz_by_lt (b := b) (n := n) (a := a) (by omega)
          rw [lz_lp_s hs] at hw ⊢
          refine brI (fun z => by exfalso; omega) (fun _ => ?_)
          conv => whnf
          rw [el, up_up]
          have hbd := hg (a + 1) (by omega)
          have hsub := h (upd_ (wrL J c) 14 3 ((a + 1 : Nat) : Int)) (a + 1) (hA.mv c _) (up_eq _ _ _ _) (by omega)
          rw [wrL_w] at hsub
          revert hsub hw hbd
          match lz_ch b n g0 3 (a + 1) with
          | (true, a', c') =>
            intro hw hbd hsub
            have b2 : a' ≤ n := hbd.2.1
            have hlen : J 14 4 = 1 → 0 ≤ J 7 4 ∧ J 7 4 + c.length + c'.length + 1 ≤ 120 := fun z => by
              obtain ⟨w1, w2, w3⟩ := hw z
              have := lz_lp_len m a' (c ++ c' ++ [-(lz_by b n a)]) w1
              simp only [List.length_append, List.length_cons, List.length_nil] at this
              exact ⟨w2, by have w3 : J 7 4 + ((lz_lp b n (lz_ch b n g0 3) 3 m a' (c ++ c' ++ [-(lz_by b n a)])).2.2.length : Int) ≤ 120 := w3; omega⟩
            have hsub := hsub (fun z => ⟨rfl, by rw [wrL_7 z]; have := (hlen z).1; omega, by rw [wrL_7 z]; show J 7 4 + (c.length : Int) + (c'.length : Int) ≤ 120; have := (hlen z).2; omega⟩)
            refine ⟨by omega, hsub.mono fun v K hv => ?_⟩
            obtain ⟨rfl, rfl⟩ := hv
            conv => whnf
            have eg : ing (lz_by b n a) = -(lz_by b n a) := ing_e (by omega)
            rw [eg]
            show 0 < d + 1 ∧ EvM _ _ _ (upd_ (wrL (upd_ (wrL J c) 14 3 ((a + 1 : Nat) : Int)) c') 14 3 (a' : Int)) _
            rw [wrL_2]
            refine ⟨by omega, x115 (by omega) (by rw [wrL_w]; exact hA.2.2.2) (fun z => ?_) ?_⟩
            · rw [wrL_w] at z
              have := hlen z
              rw [wrL_7 z, List.length_append]
              omega
            · conv => whnf
              rw [wrL_3]
              refine ⟨trivial, Ev.to ?_ rfl (ih a' (c ++ c' ++ [-(lz_by b n a)]) (some (lz_by b n a)) (by omega) b2 hw)⟩
              rw [iad_e (by omega), show (n : Int) - ((m + 1 : Nat) : Int) + 1 = (n : Int) - (m : Int) by omega]
              rfl
          | (false, a', c') =>
            intro hw hbd hsub
            have h0 : ¬ J 14 4 = 1 := fun z => by have := (hw z).1; cases this
            have hsub := hsub (fun z => absurd z h0)
            refine ⟨by omega, hsub.mono fun v K hv => ?_⟩
            obtain ⟨rfl, rfl⟩ := hv
            conv => whnf
            refine ⟨trivial, rfl, ?_⟩
            show upd_ (wrL (upd_ (wrL J c) 14 3 _) c') 14 3 (a' : Int) = upd_ (wrL J []) 14 3 (a' : Int)
            rw [wrL_2, wrL_0 h0, wrL_0 h0]
        · have hs : lz_sg 3 (lz_by b n a) = false := by
            cases hz : lz_sg 3 (lz_by b n a) with
            | false => rfl
            | true => exact absurd ((hsg a).mp hz) q
          rw [lz_lp_n hs]
          exact ⟨trivial, rfl, rfl⟩
  have hbd := hg a han
  have hsub := h J a hA ha han
  have ech : lz_ch b n g0 4 a = (match lz_ch b n g0 3 a with
    | (true, a', c) => lz_lp b n (lz_ch b n g0 3) 3 n a' c
    | (false, a', _) => (false, a', [])) := rfl
  rw [ech] at hw ⊢
  refine EvM.go [41] (T := T_109) rfl rfl rfl rfl ?_
  conv => whnf
  rw [el]
  revert hsub hw hbd
  match lz_ch b n g0 3 a with
  | (true, a', c') =>
    intro hw hbd hsub
    have b2 : a' ≤ n := hbd.2.1
    have hsub := hsub (fun z => by
      obtain ⟨w1, w2, w3⟩ := hw z
      have := lz_lp_len n a' c' w1
      exact ⟨rfl, w2, by have w3 : J 7 4 + ((lz_lp b n (lz_ch b n g0 3) 3 n a' c').2.2.length : Int) ≤ 120 := w3; show J 7 4 + (c'.length : Int) ≤ 120; omega⟩)
    refine ⟨by omega, hsub.mono fun v K hv => ?_⟩
    obtain ⟨rfl, rfl⟩ := hv
    conv => whnf
    have e14 : upd_ (wrL J c') 14 3 (a' : Int) 14 2 = (n : Int) := (hA.mv c' _).1
    have := loop n a' c' none (Nat.le_refl _) b2 hw
    rw [Int.sub_self] at this; show True ∧ Ev _ _ _ [_, _, _, some (nt (upd_ (wrL J c') 14 3 (a' : Int) 14 2)), _, _] _ _ _; rw [e14]
    exact ⟨trivial, this⟩
  | (false, a', c') =>
    intro hw hbd hsub
    have h0 : ¬ J 14 4 = 1 := fun z => by have := (hw z).1; cases this
    have hsub := hsub (fun z => absurd z h0)
    refine ⟨by omega, hsub.mono fun v K hv => ?_⟩
    obtain ⟨rfl, rfl⟩ := hv
    conv => whnf
    refine ⟨trivial, rfl, ?_⟩
    show upd_ (wrL J c') 14 3 (a' : Int) = upd_ (wrL J []) 14 3 (a' : Int)
    rw [wrL_0 h0, wrL_0 h0]
theorem x109_5 {d n : Nat} {o : Int} {b : Nat → Int} {g0 : Nat → lz_R} (hd : 10 ≤ d) (hg : evL b n (lz_ch b n g0 4)) (h : rdC d 109 [nt 1, nt o] b n (lz_ch b n g0 4)) : rdC (d + 1) 109 [nt 0, nt o] b n (lz_ch b n g0 5) := by
  intro J a hA ha han hw
  have h120 := hA.2.1
  have el : iad 0 1 = 1 := by decide
  have hsg : ∀ a, lz_sg 4 (lz_by b n a) = true ↔ (lz_by b n a = 124) := fun a => by
    unfold lz_sg
    simp only [Bool.or_eq_true, decide_eq_true_eq, or_assoc]
  have loop : ∀ (m a : Nat) (c : List Int) (t : Option Int), m ≤ n → a ≤ n → (J 14 4 = 1 → (lz_lp b n (lz_ch b n g0 4) 4 m a c).1 = true ∧ 0 ≤ J 7 4 ∧ J 7 4 + (lz_lp b n (lz_ch b n g0 4) 4 m a c).2.2.length ≤ 120) → Ev (d + 1) 109 41 [some (rf 14), some (nt 0), some (nt o), some (nt (n : Int)), some (nt ((n : Int) - (m : Int))), t.map nt] [] (upd_ (wrL J c) 14 3 (a : Int)) (fun v K => v = some (nt (if (lz_lp b n (lz_ch b n g0 4) 4 m a c).1 = true then 1 else 0)) ∧ K = upd_ (wrL J (lz_lp b n (lz_ch b n g0 4) 4 m a c).2.2) 14 3 ((lz_lp b n (lz_ch b n g0 4) 4 m a c).2.1 : Int)) := by
    intro m
    induction m with
    | zero =>
      intro a c t hm han hw
      refine Ev.go [] (T := T_109) rfl rfl ?_
      cases t
      all_goals
        conv => whnf
        refine brI (fun _ => by exfalso; omega) (fun _ => ?_); (conv => whnf)
        exact ⟨trivial, rfl, rfl⟩
    | succ m ih =>
      intro a c t hm han hw
      have hK := hA.mv c (a : Int)
      refine Ev.go [41] (T := T_109) rfl rfl ?_
      cases t
      all_goals
        conv => whnf
        refine brI (fun _ => ?_) (fun _ => by exfalso; omega)
        conv => whnf
        refine ⟨by omega, EvM.go [] (T := T_110) rfl rfl rfl rfl ?_⟩
        conv => whnf
        refine ⟨trivial, ?_⟩
        conv => whnf
        refine ⟨by omega, tk_3 (a := a) (by omega) hK (up_eq _ _ _ _) (fun q => ?_) (fun q => ?_)⟩ <;> conv => whnf
        · have hs := (hsg a).mpr q
          have hnz := lz_sg_nz hs
          have hlt := lz_by_lt (b := b) (n := n) (a := a) (by omega)
          rw [lz_lp_s hs] at hw ⊢
          refine brI (fun z => by exfalso; omega) (fun _ => ?_)
          conv => whnf
          rw [el, up_up]
          have hbd := hg (a + 1) (by omega)
          have hsub := h (upd_ (wrL J c) 14 3 ((a + 1 : Nat) : Int)) (a + 1) (hA.mv c _) (up_eq _ _ _ _) (by omega)
          rw [wrL_w] at hsub
          revert hsub hw hbd
          match lz_ch b n g0 4 (a + 1) with
          | (true, a', c') =>
            intro hw hbd hsub
            have b2 : a' ≤ n := hbd.2.1
            have hlen : J 14 4 = 1 → 0 ≤ J 7 4 ∧ J 7 4 + c.length + c'.length + 1 ≤ 120 := fun z => by
              obtain ⟨w1, w2, w3⟩ := hw z
              have := lz_lp_len m a' (c ++ c' ++ [-(lz_by b n a)]) w1
              simp only [List.length_append, List.length_cons, List.length_nil] at this
              exact ⟨w2, by have w3 : J 7 4 + ((lz_lp b n (lz_ch b n g0 4) 4 m a' (c ++ c' ++ [-(lz_by b n a)])).2.2.length : Int) ≤ 120 := w3; omega⟩
            have hsub := hsub (fun z => ⟨rfl, by rw [wrL_7 z]; have := (hlen z).1; omega, by rw [wrL_7 z]; show J 7 4 + (c.length : Int) + (c'.length : Int) ≤ 120; have := (hlen z).2; omega⟩)
            refine ⟨by omega, hsub.mono fun v K hv => ?_⟩
            obtain ⟨rfl, rfl⟩ := hv
            conv => whnf
            have eg : ing (lz_by b n a) = -(lz_by b n a) := ing_e (by omega)
            rw [eg]
            show 0 < d + 1 ∧ EvM _ _ _ (upd_ (wrL (upd_ (wrL J c) 14 3 ((a + 1 : Nat) : Int)) c') 14 3 (a' : Int)) _
            rw [wrL_2]
            refine ⟨by omega, x115 (by omega) (by rw [wrL_w]; exact hA.2.2.2) (fun z => ?_) ?_⟩
            · rw [wrL_w] at z
              have := hlen z
              rw [wrL_7 z, List.length_append]
              omega
            · conv => whnf
              rw [wrL_3]
              refine ⟨trivial, Ev.to ?_ rfl (ih a' (c ++ c' ++ [-(lz_by b n a)]) (some (lz_by b n a)) (by omega) b2 hw)⟩
              rw [iad_e (by omega), show (n : Int) - ((m + 1 : Nat) : Int) + 1 = (n : Int) - (m : Int) by omega]
              rfl
          | (false, a', c') =>
            intro hw hbd hsub
            have h0 : ¬ J 14 4 = 1 := fun z => by have := (hw z).1; cases this
            have hsub := hsub (fun z => absurd z h0)
            refine ⟨by omega, hsub.mono fun v K hv => ?_⟩
            obtain ⟨rfl, rfl⟩ := hv
            conv => whnf
            refine ⟨trivial, rfl, ?_⟩
            show upd_ (wrL (upd_ (wrL J c) 14 3 _) c') 14 3 (a' : Int) = upd_ (wrL J []) 14 3 (a' : Int)
            rw [wrL_2, wrL_0 h0, wrL_0 h0]
        · have hs : lz_sg 4 (lz_by b n a) = false := by
            cases hz : lz_sg 4 (lz_by b n a) with
            | false => rfl
            | true => exact absurd ((hsg a).mp hz) q
          rw [lz_lp_n hs]
          exact ⟨trivial, rfl, rfl⟩
  have hbd := hg a han
  have hsub := h J a hA ha han
  have ech : lz_ch b n g0 5 a = (match lz_ch b n g0 4 a with
    | (true, a', c) => lz_lp b n (lz_ch b n g0 4) 4 n a' c
    | (false, a', _) => (false, a', [])) := rfl
  rw [ech] at hw ⊢
  refine EvM.go [41] (T := T_109) rfl rfl rfl rfl ?_
  conv => whnf
  rw [el]
  revert hsub hw hbd
  match lz_ch b n g0 4 a with
  | (true, a', c') =>
    intro hw hbd hsub
    have b2 : a' ≤ n := hbd.2.1
    have hsub := hsub (fun z => by
      obtain ⟨w1, w2, w3⟩ := hw z
      have := lz_lp_len n a' c' w1
      exact ⟨rfl, w2, by have w3 : J 7 4 + ((lz_lp b n (lz_ch b n g0 4) 4 n a' c').2.2.length : Int) ≤ 120 := w3; show J 7 4 + (c'.length : Int) ≤ 120; omega⟩)
    refine ⟨by omega, hsub.mono fun v K hv => ?_⟩
    obtain ⟨rfl, rfl⟩ := hv
    conv => whnf
    have e14 : upd_ (wrL J c') 14 3 (a' : Int) 14 2 = (n : Int) := (hA.mv c' _).1
    have := loop n a' c' none (Nat.le_refl _) b2 hw
    rw [Int.sub_self] at this; show True ∧ Ev _ _ _ [_, _, _, some (nt (upd_ (wrL J c') 14 3 (a' : Int) 14 2)), _, _] _ _ _; rw [e14]
    exact ⟨trivial, this⟩
  | (false, a', c') =>
    intro hw hbd hsub
    have h0 : ¬ J 14 4 = 1 := fun z => by have := (hw z).1; cases this
    have hsub := hsub (fun z => absurd z h0)
    refine ⟨by omega, hsub.mono fun v K hv => ?_⟩
    obtain ⟨rfl, rfl⟩ := hv
    conv => whnf
    refine ⟨trivial, rfl, ?_⟩
    show upd_ (wrL J c') 14 3 (a' : Int) = upd_ (wrL J []) 14 3 (a' : Int)
    rw [wrL_0 h0, wrL_0 h0]
