/-! ROWS: both sides -/
abbrev undC (a k : Int) : Prop := k = a ∨ k = 0 ∨ (a = 3 ∧ k = 2) ∨ (a = 4 ∧ k = 1) ∨ (a = 5 ∧ (k = 3 ∨ k = 2)) ∨ (a = 7 ∧ (k = 4 ∨ k = 1))
theorem kA0 : kVal 1001 0 = 0 := rfl
theorem kA1 : kVal 1001 1 = 0 := rfl
theorem kA2 : kVal 1001 2 = 0 := rfl
theorem kA3 : kVal 1001 3 = 2 := rfl
theorem kA4 : kVal 1001 4 = 1 := rfl
theorem kA5 : kVal 1001 5 = 3 := rfl
theorem kA6 : kVal 1001 6 = 0 := rfl
theorem kA7 : kVal 1001 7 = 4 := rfl
theorem cpy_a {I : ME} {c0 c1 : Nat} {sp dp n i : Int} : cpyM I c0 sp c1 dp n c1 i = if dp ≤ i ∧ i < dp + n then I c0 (sp + (i - dp)) else I c1 i := by
  rw [cpy_g]
theorem x2n {d : Nat} {a k : Int} {I : ME} {Q : Option MV → ME → Prop} (hd : 1 ≤ d) (ha : ¬ (0 ≤ a ∧ a < 8)) (h1 : Q (some (nt 0)) I) : EvM d 2 [nt a, nt k] I Q := by
  refine EvM.go [] (T := T_2) rfl rfl rfl rfl ?_
  conv => whnf
  refine ⟨by omega, x1 (fun p => by exfalso; omega) (fun _ => ?_)⟩
  conv => whnf
  exact ⟨trivial, h1⟩
theorem x2 {d : Nat} {a k : Int} {I : ME} {Q : Option MV → ME → Prop} (hd : 1 ≤ d) (ha : 0 ≤ a ∧ a < 8) (hk : 0 ≤ k ∧ k < 8) (h0 : undC a k → Q (some (nt 1)) I) (h1 : ¬ undC a k → Q (some (nt 0)) I) : EvM d 2 [nt a, nt k] I Q := by
  have hc : a = 0 ∨ a = 1 ∨ a = 2 ∨ a = 3 ∨ a = 4 ∨ a = 5 ∨ a = 6 ∨ a = 7 := by omega
  rcases hc with rfl | rfl | rfl | rfl | rfl | rfl | rfl | rfl
  all_goals
    refine EvM.go [] (T := T_2) rfl rfl rfl rfl ?_
    conv => whnf
    repeat' first
      | (simp only [kA0, kA1, kA2, kA3, kA4, kA5, kA6, kA7])
      | (refine brI (fun _ => ?_) (fun _ => ?_) <;> conv => whnf)
      | (refine ⟨by omega, x1 (fun _ => ?_) (fun p => absurd (by decide) p)⟩ <;> conv => whnf)
      | (refine anI (by decide) ?_; conv => whnf)
  all_goals first
    | exact ⟨trivial, h0 (by omega)⟩
    | exact ⟨trivial, h1 (by omega)⟩
    | (exfalso; omega)
theorem x173 {d : Nat} {s k : Int} {I : ME} {Q : Option MV → ME → Prop} (hd : 3 ≤ d) (hz : I 44 2 ≤ 50) (hb : pP s → I 48 s = 1 → 0 ≤ I 49 s ∧ I 49 s < I 44 2) (hk : ∀ i, 0 ≤ i → i < I 44 2 → 0 ≤ I 45 i ∧ I 45 i < 8)
    (h0 : ¬ (pP s ∧ 0 ≤ k ∧ k < 8) → Q (some (nt (-1))) I) (h1 : (pP s ∧ 0 ≤ k ∧ k < 8) → I 48 s = 0 → Q (some (nt (-11))) I) (h2 : (pP s ∧ 0 ≤ k ∧ k < 8) → I 48 s = 1 → undC (I 45 (I 49 s)) k → Q (some (nt (I 45 (I 49 s)))) I)
    (h3 : (pP s ∧ 0 ≤ k ∧ k < 8) → I 48 s ≠ 0 → ¬ (I 48 s = 1 ∧ undC (I 45 (I 49 s)) k) → Q (some (nt (-12))) I) : EvM d 173 [rf 0, nt s, nt k] I Q := by
  refine EvM.go [] (T := T_173) rfl rfl rfl rfl ?_
  conv => whnf
  refine ⟨by omega, x179 (fun a => ?_) (fun a => ?_)⟩ <;> conv => whnf
  · refine ⟨by omega, x1 (fun b => ?_) (fun b => ?_)⟩ <;> conv => whnf
    · refine ⟨by omega, x90 (by omega) (fun c => ?_) (fun c => ?_)⟩ <;> conv => whnf
      · exact ⟨trivial, h1 ⟨a, b⟩ (by omega)⟩
      · refine ⟨by omega, x94 (by omega) (fun e => ?_) (fun e => ?_)⟩ <;> conv => whnf
        · have hh := hb a e.2
          have hh2 := hk _ hh.1 hh.2
          refine ⟨by omega, x5 (by omega) hz (fun g => ?_) (fun g => by exfalso; omega)⟩
          conv => whnf
          refine ⟨by omega, x2 (by omega) hh2 b (fun u => ?_) (fun u => ?_)⟩ <;> conv => whnf
          · exact ⟨trivial, h2 ⟨a, b⟩ e.2 u⟩
          · exact ⟨trivial, h3 ⟨a, b⟩ (by omega) (fun r => u r.2)⟩
        · refine ⟨by omega, x5 (by omega) hz (fun g => by exfalso; omega) (fun g => ?_)⟩
          conv => whnf
          refine ⟨by omega, x2n (by omega) (by decide) ?_⟩
          conv => whnf
          exact ⟨trivial, h3 ⟨a, b⟩ (by omega) (fun r => e ⟨a, r.1⟩)⟩
    · exact ⟨trivial, h0 (fun r => b r.2)⟩
  · exact ⟨trivial, h0 (fun r => a r.1)⟩
def abvI (k : Int) : Int := if k = 3 then 2 else if k = 4 then 1 else if k = 5 then 3 else if k = 7 then 4 else 0
theorem m277 {d : Nat} {k : Int} {I : ME} {Q : Option MV → ME → Prop} (h : Q (some (nt (abvI k))) I) : EvM d 277 [nt k] I Q := by
  unfold abvI at h
  refine EvM.go [] (T := T_277) rfl rfl rfl rfl ?_
  conv => whnf
  refine brI (fun e => ?_) (fun e => ?_) <;> conv => whnf
  · rw [if_pos e] at h; exact ⟨trivial, h⟩
  · rw [if_neg e] at h
    refine brI (fun e => ?_) (fun e => ?_) <;> conv => whnf
    · rw [if_pos e] at h; exact ⟨trivial, h⟩
    · rw [if_neg e] at h
      refine brI (fun e => ?_) (fun e => ?_) <;> conv => whnf
      · rw [if_pos e] at h; exact ⟨trivial, h⟩
      · rw [if_neg e] at h
        refine brI (fun e => ?_) (fun e => ?_) <;> conv => whnf
        · rw [if_pos e] at h; exact ⟨trivial, h⟩
        · rw [if_neg e] at h; exact ⟨trivial, h⟩
theorem m275 {d : Nat} {b : Int} {I : ME} {Q : Option MV → ME → Prop} (hb : 0 ≤ b ∧ b < 50) (h : Q (some (nt (I 74 b))) I) : EvM d 275 [rf 53, nt b] I Q := by
  refine EvM.go [] (T := T_275) rfl rfl rfl rfl ?_
  conv => whnf
  refine anI (by omega) ?_
  conv => whnf
  exact ⟨trivial, h⟩
theorem m293 {d : Nat} {s k : Int} {I : ME} {Q : Option MV → ME → Prop} (hd : 2 ≤ d) (hk : ∀ s, pP s → 0 ≤ I 76 s → I 76 s < 50 → 0 ≤ I 74 (I 76 s) ∧ I 74 (I 76 s) < 8)
    (h0 : ¬ (pP s ∧ 0 ≤ k ∧ k < 8) → Q (some (nt (-1))) I) (h1 : (pP s ∧ 0 ≤ k ∧ k < 8) → I 76 s < 0 → Q (some (nt (-11))) I) (h2 : (pP s ∧ 0 ≤ k ∧ k < 8) → 0 ≤ I 76 s → I 76 s < 50 → undC (I 74 (I 76 s)) k → Q (some (nt (I 74 (I 76 s)))) I)
    (h3 : (pP s ∧ 0 ≤ k ∧ k < 8) → 0 ≤ I 76 s → ¬ (I 76 s < 50 ∧ undC (I 74 (I 76 s)) k) → Q (some (nt (-12))) I) : EvM d 293 [rf 53, nt s, nt k] I Q := by
  have loop : (pP s ∧ 0 ≤ k ∧ k < 8) → 0 ≤ I 76 s → I 76 s < 50 → ∀ (m : Nat) (a : Int), a.toNat = m → 0 ≤ a → a < 8 → (undC a k ↔ undC (I 74 (I 76 s)) k) → Ev d 293 58 [some (rf 53), some (nt s), some (nt k), some (nt a)] [] I Q := by
    intro hp i0 i1 m
    induction m using Nat.strongRecOn with
    | _ m ih =>
      intro a hm a0 a1 hu
      refine Ev.go [58] (T := T_293) rfl rfl ?_
      conv => whnf
      refine brI (fun e => ?_) (fun e => ?_) <;> conv => whnf
      · refine brI (fun _ => ?_) (fun q => absurd e q)
        conv => whnf
        refine anI (by omega) ?_
        conv => whnf
        refine ⟨by omega, m275 (by omega) ?_⟩
        conv => whnf
        exact ⟨trivial, h2 hp i0 i1 (hu.mp (Or.inl e.symm))⟩
      · refine brI (fun g => ?_) (fun g => ?_) <;> conv => whnf
        · refine ⟨by omega, m277 ?_⟩
          conv => whnf
          refine ⟨trivial, ih (abvI a).toNat ?_ (abvI a) rfl ?_ ?_ ?_⟩
          all_goals
            have hc : a = 1 ∨ a = 2 ∨ a = 3 ∨ a = 4 ∨ a = 5 ∨ a = 6 ∨ a = 7 := by omega
            rcases hc with rfl | rfl | rfl | rfl | rfl | rfl | rfl
          all_goals first
            | (show undC 0 k ↔ _; rw [← hu]; omega)
            | (show undC 1 k ↔ _; rw [← hu]; omega)
            | (show undC 2 k ↔ _; rw [← hu]; omega)
            | (show undC 3 k ↔ _; rw [← hu]; omega)
            | (show undC 4 k ↔ _; rw [← hu]; omega)
            | (subst hm; decide)
            | decide
        · refine brI (fun q => absurd q e) (fun _ => ?_)
          conv => whnf
          refine ⟨trivial, h3 hp i0 (fun r => ?_)⟩
          have := hu.mpr r.2
          omega
  refine EvM.go [58] (T := T_293) rfl rfl rfl rfl ?_
  conv => whnf
  refine ⟨by omega, m285 (by omega) (fun a => ?_) (fun a => ?_)⟩ <;> conv => whnf
  · refine ⟨by omega, m187 (fun b => ?_) (fun b => ?_)⟩ <;> conv => whnf
    · refine anI (by omega) ?_
      conv => whnf
      refine brI (fun e => ?_) (fun e => ?_) <;> conv => whnf
      · exact ⟨trivial, h1 ⟨a, by omega⟩ e⟩
      · refine anI (by omega) ?_
        conv => whnf
        refine brI (fun g => ?_) (fun g => ?_) <;> conv => whnf
        · refine anI (by omega) ?_
          conv => whnf
          refine ⟨by omega, m275 (by omega) ?_⟩
          conv => whnf
          have := hk s a (by omega) g
          exact ⟨trivial, loop ⟨a, by omega⟩ (by omega) g _ _ rfl this.1 this.2 Iff.rfl⟩
        · exact ⟨trivial, h3 ⟨a, by omega⟩ (by omega) (fun r => g r.1)⟩
    · exact ⟨trivial, h0 (by omega)⟩
  · exact ⟨trivial, h0 (fun r => a r.1)⟩
theorem op43 {s k : Int} : OpI 173 293 [nt s, nt k] := by
  intro c I hc0 hc h
  have hf := h.f
  have hm := h.mono
  have hs : ∀ s, pP s → _ := fun s q => h.s (s := s) q
  obtain ⟨ln, hC, hM⟩ := h
  obtain ⟨a, b, e', d, f, g, l, q, k'⟩ := hC
  obtain ⟨a', b', g', d', f', r', l'⟩ := hM
  have hkk : ∀ s, pP s → 0 ≤ I 76 s → I 76 s < 50 → 0 ≤ I 74 (I 76 s) ∧ I 74 (I 76 s) < 8 := fun s hp h0 h1 => by
    have := hs s hp
    rw [f'.2.2.1 (I 76 s) h0 (by omega)]
    exact f.2.2 (I 76 s) h0 (by omega)
  have hk1 : pP s → I 48 s = 1 → I 74 (I 76 s) = I 45 (I 49 s) := fun hp h1 => by
    have := hs s hp
    rw [f'.2.2.1 (I 76 s) (by omega) (by omega), show I 76 s = I 49 s by omega]
  have hS : pP s → _ := fun q => hs s q
  refine x173 (by omega) (by omega) (fun hp h1 => by have := hs s hp; omega) f.2.2 (fun p => ?_) (fun p q => ?_) (fun p q u => ?_) (fun p q u => ?_)
  · exact ⟨_, rfl, m293 (by omega) hkk (fun _ => ⟨rfl, hm, rfl⟩) (fun q => absurd q p) (fun q => absurd q p) (fun q => absurd q p)⟩
  · have := hS p.1
    exact ⟨_, rfl, m293 (by omega) hkk (fun q => absurd p q) (fun _ _ => ⟨rfl, hm, rfl⟩) (fun _ x => by exfalso; omega) (fun _ x => by exfalso; omega)⟩
  · have := hS p.1
    have e := hk1 p.1 q
    refine ⟨_, rfl, m293 (by omega) hkk (fun q => absurd p q) (fun _ x => by exfalso; omega) (fun _ x1 x2 x3 => ⟨by rw [e], hm, rfl⟩) (fun _ x1 x2 => ?_)⟩
    rw [e] at x2; exfalso; exact x2 ⟨by omega, u⟩
  · have := hS p.1
    refine ⟨_, rfl, m293 (by omega) hkk (fun q => absurd p q) (fun _ x => by exfalso; omega) (fun _ x1 x2 x3 => ?_) (fun _ x1 x2 => ⟨rfl, hm, rfl⟩)⟩
    rw [hk1 p.1 (by omega)] at x3
    exfalso; exact u ⟨by omega, x3⟩
theorem op39 {s o n : Int} : OpI 169 287 [nt s, nt o, nt n] := by
  intro c I hc0 hc h
  have hf := h.f
  have hm := h.mono
  obtain ⟨ln, hC, hM⟩ := h
  refine x169 (by omega) (fun p => ?_) (fun p => ?_) (fun p => ?_)
  · exact ⟨_, rfl, m287 (by omega) (fun q => ⟨rfl, hm, rfl⟩) (fun q => by exfalso; omega) (fun q => by exfalso; omega)⟩
  · exact ⟨_, rfl, m287 (by omega) (fun q => by exfalso; omega) (fun q => ⟨rfl, hm, rfl⟩) (fun q => by exfalso; omega)⟩
  · refine ⟨_, rfl, m287 (by omega) (fun q => by exfalso; omega) (fun q => by exfalso; omega) (fun q => ⟨rfl, ⟨ln, ?_, ?_⟩, ?_⟩)⟩
    · obtain ⟨a, b', g, d, f, r, l, u, v⟩ := hC
      unfold CI
      simp (disch := omega) only [fil_c, fil_g, up_c, up_g, fu_eq, fu_ne]
      refine ⟨a, b', g, d, f, fun s' hs' => ?_, l, ⟨u.1, u.2.1, by omega⟩, v⟩
      by_cases hj : s' = s
      · subst hj; rw [fu_eq, fu_eq, fu_eq]; omega
      · rw [fu_ne hj, fu_ne hj, fu_ne hj]; exact r s' hs'
    · obtain ⟨a, b', g, d, f, r, l⟩ := hM
      unfold MR_
      simp (disch := omega) only [fil_c, fil_g, up_c, up_g, fu_eq, fu_ne]
      refine ⟨a, b', g, d, f, fun s' hs' => ?_, l⟩
      obtain ⟨r1, r2, r3, r7⟩ := r s' hs'
      by_cases hj : s' = s
      · subst hj
        simp only [fu_eq]
        refine ⟨fun q => by exfalso; omega, fun q => by exfalso; omega, fun _ => ⟨trivial, trivial, fun i i0 i1 => ?_⟩, fun _ _ i i0 i1 => ?_⟩
        · unfold flr
          rw [if_pos (by omega), if_pos (by omega)]
        · unfold flr
          rw [if_pos (by omega)]
          decide
      · simp only [fu_ne hj]
        refine ⟨r1, r2, fun q2 => ?_, fun q2 q3 i i0 i1 => ?_⟩
        rotate_left
        · unfold flr
          rw [if_neg (by omega)]
          exact r7 q2 q3 i i0 i1
        obtain ⟨r4, r5, r6⟩ := r3 q2
        refine ⟨r4, r5, fun i i0 i1 => ?_⟩
        unfold flr
        rw [if_neg (by omega), if_neg (by omega)]
        exact r6 i i0 i1
    · simp (disch := omega) only [fil_c, up_c]
theorem m292 {d : Nat} {s i o j n : Int} {I : ME} {Q : Option MV → ME → Prop} (hd : 2 ≤ d) (hm : ∀ s, pP s → 50 ≤ I 76 s → 0 ≤ I 77 s ∧ I 77 s ≤ 60)
    (h0 : ¬ (pP s ∧ pP o) → Q (some (nt (-1))) I) (h1 : (pP s ∧ pP o) → (I 76 s < 0 ∨ I 76 o < 0) → Q (some (nt (-11))) I) (h2 : (pP s ∧ pP o) → ¬ (I 76 s < 0 ∨ I 76 o < 0) → (I 76 s < 50 ∨ I 76 s ≠ I 76 o) → Q (some (nt (-12))) I)
    (h3 : (pP s ∧ pP o) → 50 ≤ I 76 s → I 76 s = I 76 o → ¬ ((0 ≤ i ∧ 0 ≤ n ∧ i + n ≤ I 77 s) ∧ (0 ≤ j ∧ 0 ≤ n ∧ j + n ≤ I 77 o)) → Q (some (nt (-13))) I)
    (h4 : (pP s ∧ pP o) → 50 ≤ I 76 s → I 76 s = I 76 o → ((0 ≤ i ∧ 0 ≤ n ∧ i + n ≤ I 77 s) ∧ (0 ≤ j ∧ 0 ≤ n ∧ j + n ≤ I 77 o)) → Q (some (nt n)) (cpyM (cpyM I 78 (60 * s + i) 79 0 n) 79 0 78 (60 * o + j) n))
    (hi : n ≤ 2147483647) : EvM d 292 [rf 53, nt s, nt i, nt o, nt j, nt n] I Q := by
  have m1 := hm s
  have m2 := hm o
  refine EvM.go [113] (T := T_292) rfl rfl rfl rfl ?_
  conv => whnf
  have sb1 : 50 ≤ I 76 s → pP s → 0 ≤ n → isb (I 77 s) n = I 77 s - n := fun a b c => isb_e (by omega)
  have sb2 : 50 ≤ I 76 o → pP o → 0 ≤ n → isb (I 77 o) n = I 77 o - n := fun a b c => isb_e (by omega)
  repeat' first
    | (refine brI (fun _ => ?_) (fun _ => ?_) <;> conv => whnf)
    | (refine ⟨by omega, m285 (by omega) (fun _ => ?_) (fun _ => ?_)⟩ <;> conv => whnf)
    | (refine anI (by omega) ?_; conv => whnf)
  all_goals first
    | exact ⟨trivial, h0 (by omega)⟩
    | exact ⟨trivial, h1 (by omega) (by omega)⟩
    | exact ⟨trivial, h2 (by omega) (by omega) (by omega)⟩
    | exact ⟨trivial, h3 (by omega) (by omega) (by omega) (by omega)⟩
    | (exfalso; omega)
    | skip
  have hP : (pP s ∧ pP o) := by omega
  have hR : 50 ≤ I 76 s := by omega
  have hE : I 76 s = I 76 o := by omega
  have hL : (0 ≤ i ∧ 0 ≤ n ∧ i + n ≤ I 77 s) ∧ (0 ≤ j ∧ 0 ≤ n ∧ j + n ≤ I 77 o) := by omega
  have m1 := hm s hP.1 hR
  have m2 := hm o hP.2 (by omega)
  refine ⟨trivial, Ev.to (ls' := [some (rf 53), some (nt s), some (nt i), some (nt o), some (nt j), some (nt n), some (nt ((0 : Nat) : Int))]) (I' := cpyM I 78 (60 * s + i) 79 0 ((0 : Nat) : Int)) rfl (by rw [show ((0 : Nat) : Int) = 0 from rfl, cpy_0]) (Ev.up n.toNat (fun k => [some (rf 53), some (nt s), some (nt i), some (nt o), some (nt j), some (nt n), some (nt (k : Nat))]) (fun k => cpyM I 78 (60 * s + i) 79 0 (k : Nat)) ?_ ?_ 0 (by omega))⟩
  · intro k hk ih
    refine Ev.go [113] (T := T_292) rfl rfl ?_
    conv => whnf
    refine brI (fun _ => ?_) (fun _ => by exfalso; omega)
    conv => whnf
    simp (disch := omega) only [iml_e, iad_e]
    refine anI (by omega) ?_
    conv => whnf
    refine anI (by omega) ?_
    conv => whnf
    refine ⟨trivial, Ev.to ?_ ?_ ih⟩
    · rw [iad_e (by omega)]; rfl
    · rw [cp_c (by decide), ← show ((k : Int) + 1) = ((k + 1 : Nat) : Int) from rfl, ← cpy_s (I := I) (c0 := 78) (c1 := 79) (sp := 60 * s + i) (dp := 0) (k := (k : Int)) (by omega), Int.zero_add]
  · rw [show ((n.toNat : Nat) : Int) = n by omega]
    refine Ev.go [150] (T := T_292) rfl rfl ?_
    conv => whnf
    refine brI (fun _ => by exfalso; omega) (fun _ => ?_)
    conv => whnf
    refine ⟨trivial, Ev.to (ls' := [some (rf 53), some (nt s), some (nt i), some (nt o), some (nt j), some (nt n), some (nt ((0 : Nat) : Int))]) (I' := cpyM (cpyM I 78 (60 * s + i) 79 0 n) 79 0 78 (60 * o + j) ((0 : Nat) : Int)) rfl (by rw [show ((0 : Nat) : Int) = 0 from rfl, cpy_0]) (Ev.up n.toNat (fun k => [some (rf 53), some (nt s), some (nt i), some (nt o), some (nt j), some (nt n), some (nt (k : Nat))]) (fun k => cpyM (cpyM I 78 (60 * s + i) 79 0 n) 79 0 78 (60 * o + j) (k : Nat)) ?_ ?_ 0 (by omega))⟩
    · intro k hk ih
      refine Ev.go [150] (T := T_292) rfl rfl ?_
      conv => whnf
      refine brI (fun _ => ?_) (fun _ => by exfalso; omega)
      conv => whnf
      simp (disch := omega) only [iml_e, iad_e]
      refine anI (by omega) ?_
      conv => whnf
      refine anI (by omega) ?_
      conv => whnf
      refine ⟨trivial, Ev.to ?_ ?_ ih⟩
      · rw [iad_e (by omega)]; rfl
      · rw [cp_c (I := cpyM I 78 (60 * s + i) 79 0 n) (c0 := 79) (c1 := 78) (c' := 79) (by decide), ← show ((k : Int) + 1) = ((k + 1 : Nat) : Int) from rfl, ← cpy_s (I := cpyM I 78 (60 * s + i) 79 0 n) (c0 := 79) (c1 := 78) (sp := 0) (dp := 60 * o + j) (k := (k : Int)) (by omega), Int.zero_add]
    · rw [show ((n.toNat : Nat) : Int) = n by omega]
      refine Ev.go [] (T := T_292) rfl rfl ?_
      conv => whnf
      refine brI (fun _ => by exfalso; omega) (fun _ => ?_)
      conv => whnf
      exact ⟨trivial, h4 hP hR hE hL⟩
theorem op42 {s i o j n : Int} (hi : i ≤ 2147483647) (hj : j ≤ 2147483647) (hn : n ≤ 2147483647) : OpI 172 292 [nt s, nt i, nt o, nt j, nt n] := by
  intro c I hc0 hc h
  have hf := h.f
  have hm := h.mono
  have hs : ∀ s, pP s → _ := fun s q => h.s (s := s) q
  have hrl := h.rl
  have hmm : ∀ s, pP s → 50 ≤ I 76 s → 0 ≤ I 77 s ∧ I 77 s ≤ 60 := fun s hp hq => by
    rcases hs s hp with r | r | r <;> omega
  have hS : pP s → _ := fun q => hs s q
  have hO : pP o → _ := fun q => hs o q
  have hS1 : pP s → (I 48 s = 0 ∧ I 76 s = -1) ∨ (I 48 s = 1 ∧ 0 ≤ I 76 s ∧ I 76 s < 50) ∨ (I 48 s = 2 ∧ I 76 s = 50 + I 50 s ∧ 0 ≤ I 50 s ∧ I 77 s = I 51 s) := fun q => by rcases hS q with r | r | r <;> omega
  have hO1 : pP o → (I 48 o = 0 ∧ I 76 o = -1) ∨ (I 48 o = 1 ∧ 0 ≤ I 76 o ∧ I 76 o < 50) ∨ (I 48 o = 2 ∧ I 76 o = 50 + I 50 o ∧ 0 ≤ I 50 o ∧ I 77 o = I 51 o) := fun q => by rcases hO q with r | r | r <;> omega
  have hSl : rwC I s → I 51 s ≤ 60 := hrl s
  have hOl : rwC I o → I 51 o ≤ 60 := hrl o
  obtain ⟨ln, hC, hM⟩ := h
  refine x172 (by omega) hi hj hn hrl (fun p => ?_) (fun p => ?_) (fun p => ?_) (fun p => ?_) (fun p => ?_)
  · exact ⟨_, rfl, m292 (by omega) hmm (fun q => ⟨rfl, hm, rfl⟩) (fun q => absurd q p) (fun q => absurd q p) (fun q => absurd q p) (fun q => absurd q p) hn⟩
  · have := hS1 p.1.1
    have := hO1 p.1.2
    exact ⟨_, rfl, m292 (by omega) hmm (fun q => absurd p.1 q) (fun _ _ => ⟨rfl, hm, rfl⟩) (fun _ x => by exfalso; omega) (fun _ x1 x2 => by exfalso; omega) (fun _ x1 x2 => by exfalso; omega) hn⟩
  · have := hS1 p.1.1
    have := hO1 p.1.2
    exact ⟨_, rfl, m292 (by omega) hmm (fun q => absurd p.1 q) (fun _ x => by exfalso; omega) (fun _ _ _ => ⟨rfl, hm, rfl⟩) (fun _ x1 x2 => by exfalso; omega) (fun _ x1 x2 => by exfalso; omega) hn⟩
  · have := hS1 p.1.1.1
    have := hO1 p.1.2.1.1
    exact ⟨_, rfl, m292 (by omega) hmm (fun q => by exfalso; omega) (fun _ x => by exfalso; omega) (fun _ x1 x2 => by exfalso; omega) (fun _ _ _ _ => ⟨rfl, hm, rfl⟩) (fun _ x1 x2 x3 => by exfalso; omega) hn⟩
  · have g1 := hS1 p.1.1.1
    have g2 := hO1 p.1.2.1.1
    have g3 := hSl p.1.1
    have g4 := hOl p.1.2.1
    have e : ∀ J : ME, J = cpyM I 52 (s * 60 + i) 52 (o * 60 + j) n → J 76 = I 76 ∧ J 77 = I 77 := fun J hJ => by
      rw [hJ]
      exact ⟨by simp (disch := omega) only [cp_c], by simp (disch := omega) only [cp_c]⟩
    have e := e _ rfl
    refine ⟨_, rfl, m292 (by omega) (by rw [e.1, e.2]; exact hmm) (fun q => by exfalso; omega) (fun _ x => ?_) (fun _ x1 x2 => ?_) (fun _ x1 x2 x3 => ?_) (fun _ x1 x2 x3 => ⟨rfl, ⟨ln, ?_, ?_⟩, ?_⟩) hn⟩
    · rw [e.1] at x; exfalso; omega
    · rw [e.1] at x2; exfalso; omega
    · rw [e.2] at x3; exfalso; omega
    · obtain ⟨a, b', g, d, f, r, l, u, v⟩ := hC
      unfold CI
      simp (disch := omega) only [cp_c]
      exact ⟨a, b', g, d, f, r, l, ⟨u.1, u.2.1, by omega⟩, v⟩
    · obtain ⟨a, b', g, d, f, r, l⟩ := hM
      unfold MR_
      simp (disch := omega) only [cp_c]
      refine ⟨a, b', g, d, f, fun s' hs' => ?_, l⟩
      obtain ⟨r1, r2, r3, r7⟩ := r s' hs'
      refine ⟨r1, r2, fun q2 => ?_, fun q2 q3 x x0 x1 => ?_⟩
      rotate_left
      · rw [cpy_a]
        by_cases hh : o * 60 + j ≤ 60 * s' + x ∧ 60 * s' + x < o * 60 + j + n
        · rw [if_pos hh]
          have hso : s' = o := by omega
          have := (r s p.1.1.1).2.2.2 p.1.1.2 (by rw [p.1.2.2, ← hso]; exact q3) (i + (60 * s' + x - (o * 60 + j))) (by omega) (by omega)
          rw [show 60 * s + (i + (60 * s' + x - (o * 60 + j))) = s * 60 + i + (60 * s' + x - (o * 60 + j)) by omega] at this
          exact this
        · rw [if_neg hh]; exact r7 q2 q3 x x0 x1
      obtain ⟨r4, r5, r6⟩ := r3 q2
      refine ⟨r4, r5, fun x x0 x1 => ?_⟩
      have k1 : ∀ J : ME, J 78 = I 78 → cpyM (cpyM J 78 (60 * s + i) 79 0 n) 79 0 78 (60 * o + j) n 78 (60 * s' + x) = if 60 * o + j ≤ 60 * s' + x ∧ 60 * s' + x < 60 * o + j + n then I 78 (60 * s + i + (60 * s' + x - (60 * o + j))) else I 78 (60 * s' + x) := fun J hJ => by
        rw [cpy_a]
        by_cases hh : 60 * o + j ≤ 60 * s' + x ∧ 60 * s' + x < 60 * o + j + n
        · rw [if_pos hh, if_pos hh, cpy_a, if_pos (by omega), hJ, show (60 : Int) * s + i + (0 + (60 * s' + x - (60 * o + j)) - 0) = 60 * s + i + (60 * s' + x - (60 * o + j)) by omega]
        · rw [if_neg hh, if_neg hh, cp_c (by decide), hJ]
      rw [k1 _ (cp_c (by decide)), cpy_a]
      by_cases hh : 60 * o + j ≤ 60 * s' + x ∧ 60 * s' + x < 60 * o + j + n
      · rw [if_pos hh, if_pos (by omega)]
        obtain ⟨t1, t2, t3, -⟩ := r s p.1.1.1
        have := (t3 p.1.1.2).2.2 (i + (60 * s' + x - (60 * o + j))) (by omega) (by omega)
        rw [show 60 * s + i + (60 * s' + x - (60 * o + j)) = 60 * s + (i + (60 * s' + x - (60 * o + j))) by omega, this]
        congr 1
        omega
      · rw [if_neg hh, if_neg (by omega)]
        exact r6 x x0 x1
    · simp (disch := omega) only [cp_c]
