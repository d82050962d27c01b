/-! ACTS -/
def tr1 (a : Nat) (f : Int) (b : Nat) (I : ME) (x : Int) : ME := upd_ (if I a f < 24 then upd_ I b (I a f) x else I) a f (iad (I a f) 1)
def trG (a : Nat) (f : Int) (b : Nat) (I : ME) : List Int → ME
  | [] => I
  | x :: L => trG a f b (tr1 a f b I x) L
theorem trG_app (a : Nat) (f : Int) (b : Nat) : ∀ (I : ME) (L L' : List Int), trG a f b I (L ++ L') = trG a f b (trG a f b I L) L'
  | I, [], L' => rfl
  | I, x :: L, L' => trG_app a f b (tr1 a f b I x) L L'
theorem tr1_c {a : Nat} {f : Int} {b : Nat} {I : ME} {x : Int} {c : Nat} (h1 : c ≠ a) (h2 : c ≠ b) : tr1 a f b I x c = I c := by
  unfold tr1
  rw [up_c h1]
  split
  · rw [up_c h2]
  · rfl
theorem tr1_f {a : Nat} {f : Int} {b : Nat} {I : ME} {x j : Int} (hab : a ≠ b) (hj : j ≠ f) : tr1 a f b I x a j = I a j := by
  unfold tr1
  rw [up_ne hj]
  split
  · rw [up_c hab]
  · rfl
theorem trG_c {a : Nat} {f : Int} {b : Nat} {c : Nat} (h1 : c ≠ a) (h2 : c ≠ b) : ∀ (I : ME) (L : List Int), trG a f b I L c = I c
  | I, [] => rfl
  | I, x :: L => (trG_c h1 h2 (tr1 a f b I x) L).trans (tr1_c h1 h2)
theorem trG_f {a : Nat} {f : Int} {b : Nat} {j : Int} (hab : a ≠ b) (hj : j ≠ f) : ∀ (I : ME) (L : List Int), trG a f b I L a j = I a j
  | I, [] => rfl
  | I, x :: L => (trG_f hab hj (tr1 a f b I x) L).trans (tr1_f hab hj)
theorem trG_r {a : Nat} {f : Int} {b : Nat} : ∀ (I : ME) (L : List Int), 0 ≤ I a f → I a f + L.length ≤ 1000 → trG a f b I L a f = I a f + L.length
  | I, [], _, _ => by show I a f = _; rw [List.length_nil]; omega
  | I, x :: L, h0, h1 => by
    rw [List.length_cons] at h1 ⊢
    have e : tr1 a f b I x a f = I a f + 1 := by unfold tr1; rw [up_eq, iad_e (by omega)]
    have := trG_r (a := a) (f := f) (b := b) (tr1 a f b I x) L (by omega) (by omega)
    show trG a f b (tr1 a f b I x) L a f = _
    rw [this, e]; omega
theorem trG_at {a : Nat} {f : Int} {b : Nat} (hab : b ≠ a) : ∀ (I : ME) (L : List Int) (i : Int), 0 ≤ I a f → I a f + L.length ≤ 1000 → trG a f b I L b i = if I a f ≤ i ∧ i < I a f + L.length ∧ i < 24 then L.getD (i - I a f).toNat 0 else I b i
  | I, [], i, _, _ => by rw [if_neg (by rw [List.length_nil]; omega)]; rfl
  | I, x :: L, i, h0, h1 => by
    rw [List.length_cons] at h1 ⊢
    have e : tr1 a f b I x a f = I a f + 1 := by unfold tr1; rw [up_eq, iad_e (by omega)]
    have eb : tr1 a f b I x b i = if i = I a f ∧ I a f < 24 then x else I b i := by
      unfold tr1
      rw [up_c hab]
      by_cases hq : I a f < 24
      · rw [if_pos hq, up_any]
        by_cases hi : i = I a f
        · rw [if_pos hi, if_pos ⟨hi, hq⟩]
        · rw [if_neg hi, if_neg (fun q => hi q.1)]
      · rw [if_neg hq, if_neg (fun q => hq q.2)]
    have := trG_at (a := a) (f := f) (b := b) hab (tr1 a f b I x) L i (by omega) (by omega)
    show trG a f b (tr1 a f b I x) L b i = _
    rw [this, e, eb]
    by_cases h2 : I a f + 1 ≤ i ∧ i < I a f + 1 + L.length ∧ i < 24
    · rw [if_pos h2, if_pos (by omega), show (i - I a f).toNat = (i - (I a f + 1)).toNat + 1 by omega]
      rfl
    · rw [if_neg h2]
      by_cases h3 : i = I a f ∧ I a f < 24
      · rw [if_pos h3, if_pos (by omega), show (i - I a f).toNat = 0 by omega]
        rfl
      · rw [if_neg h3, if_neg (by omega)]
def rsB (k a : Int) : Int := ([1, 10, 11, 2, 20, 10, 11, 2, 1, 30, 11, 2, 1, 41, 40, 2, 20, 10, 50, 2, 1, 41, 40, 60, 70, 10, 11, 2, 20, 80, 50, 81] : List Int).getD (4 * k + a).toNat 0
def rsA (k a : Int) : Int := ([0, 0, 0, 0, 0, 0, 0, 0, 0, 0, 0, 0, 0, 2, 2, 0, 0, 0, 1, 0, 0, 2, 2, 3, 0, 0, 0, 0, 0, 4, 1, 4] : List Int).getD (4 * k + a).toNat 0
theorem tr1_y {a : Nat} {f : Int} {b : Nat} {I : ME} {x : Int} (h : I a f < 24) (hab : a ≠ b) : upd_ (upd_ I b (I a f) x) a f (iad (upd_ I b (I a f) x a f) 1) = tr1 a f b I x := by
  unfold tr1; rw [if_pos h, up_c hab]
theorem tr1_n {a : Nat} {f : Int} {b : Nat} {I : ME} {x : Int} (h : ¬ I a f < 24) : upd_ I a f (iad (I a f) 1) = tr1 a f b I x := by
  unfold tr1; rw [if_neg h]
set_option maxHeartbeats 4000000 in
theorem x10 {d : Nat} {k a x deep : Int} {I : ME} {Q : Option MV → ME → Prop} (hd : 1 ≤ d) (hk : 0 ≤ k ∧ k < 8) (ha : 0 ≤ a ∧ a < 4) (hp : 0 ≤ deep ∧ deep ≤ 30) (hr : 0 ≤ I 44 3)
    (h : EvM (d - 1) 11 [rf 44, nt (rsB k a), nt (rsA k a), nt x, nt (deep + 1)] (tr1 44 3 46 I (rsB k a)) (fun v I' => ∃ w, v = some (nt w) ∧ Q v I')) : EvM d 10 [rf 44, nt k, nt a, nt x, nt deep] I Q := by
  have hc : k = 0 ∨ k = 1 ∨ k = 2 ∨ k = 3 ∨ k = 4 ∨ k = 5 ∨ k = 6 ∨ k = 7 := by omega
  have hc2 : a = 0 ∨ a = 1 ∨ a = 2 ∨ a = 3 := by omega
  rcases hc with rfl | rfl | rfl | rfl | rfl | rfl | rfl | rfl <;> rcases hc2 with rfl | rfl | rfl | rfl
  all_goals
    refine EvM.go [] (T := T_10) rfl rfl rfl rfl ?_
    conv => whnf
    repeat' first
      | (refine anI (by decide) ?_; conv => whnf)
      | fail
    refine brI (fun _ => by exfalso; omega) (fun _ => ?_)
    conv => whnf
    refine anI (by decide) ?_
    conv => whnf
    refine brI (fun hq => ?_) (fun hq => ?_) <;> conv => whnf
    · refine anI (by omega) ?_
      conv => whnf
      rw [tr1_y hq (by decide)]
      refine anI (by decide) ?_
      conv => whnf
      rw [show iad deep 1 = deep + 1 from iad_e (by omega)]
      refine ⟨by omega, h.mono fun v I' q => ?_⟩
      obtain ⟨w, rfl, q⟩ := q
      conv => whnf
      exact ⟨trivial, q⟩
    · rw [tr1_n hq]
      refine anI (by decide) ?_
      conv => whnf
      rw [show iad deep 1 = deep + 1 from iad_e (by omega)]
      refine ⟨by omega, h.mono fun v I' q => ?_⟩
      obtain ⟨w, rfl, q⟩ := q
      conv => whnf
      exact ⟨trivial, q⟩
