/-! TICKETS FROM A ROW, both sides -/
theorem m204_end {d : Nat} {s i n c g : Int} {x : Option Int} {J : ME} {Q : Option MV → ME → Prop} (h : g = 0 ∨ n ≤ c) (hQ : Q (some (nt c)) J) : Ev d 204 69 [some (rf 53), some (nt s), some (nt i), some (nt n), some (nt c), some (nt g), x.map nt] [] J Q := by
  refine Ev.go [] (T := T_204) rfl rfl ?_
  conv => whnf
  refine brI (fun _ => ?_) (fun _ => ?_) <;> conv => whnf
  · exact ⟨trivial, hQ⟩
  · refine brI (fun _ => by exfalso; omega) (fun _ => ?_)
    conv => whnf
    exact ⟨trivial, hQ⟩
theorem m204_go {d : Nat} {s i n c : Int} {x : Option Int} {J : ME} {Q : Option MV → ME → Prop} (hd : 3 ≤ d) (hs : pP s) (hi0 : 0 ≤ i) (hi : i ≤ 2147483647) (c0 : 0 ≤ c) (cn : c < n) (hn : n ≤ 12) (hz : 0 ≤ J 53 6) (hz2 : J 53 6 ≤ 12) (hl : 0 ≤ J 77 s ∧ J 77 s ≤ 60)
    (hby : ∀ x, 0 ≤ x → x < 60 → -128 ≤ J 78 (60 * s + x) ∧ J 78 (60 * s + x) ≤ 127)
    (k2 : ¬ (i + 2 * c + 2 ≤ J 77 s ∧ pT (J 78 (60 * s + (i + 2 * c))) ∧ pH (J 78 (60 * s + (i + 2 * c + 1))) ∧ J 53 6 < 12) → Q (some (nt c)) J)
    (k3 : (i + 2 * c + 2 ≤ J 77 s ∧ pT (J 78 (60 * s + (i + 2 * c))) ∧ pH (J 78 (60 * s + (i + 2 * c + 1))) ∧ J 53 6 < 12) → ∀ x' : Option Int, Ev d 204 69 [some (rf 53), some (nt s), some (nt i), some (nt n), some (nt (c + 1)), some (nt 1), x'.map nt] [] (adM J (J 78 (60 * s + (i + 2 * c))) (J 78 (60 * s + (i + 2 * c + 1)))) Q) :
    Ev d 204 69 [some (rf 53), some (nt s), some (nt i), some (nt n), some (nt c), some (nt 1), x.map nt] [] J Q := by
  have e1 : isb (isb (J 77 s) 2) (iml 2 c) = J 77 s - 2 - 2 * c := by simp (disch := omega) only [isb_e, iml_e]
  have stop : ∀ k : Int, ¬ (i + 2 * c + 2 ≤ J 77 s ∧ pT (J 78 (60 * s + (i + 2 * c))) ∧ pH (J 78 (60 * s + (i + 2 * c + 1))) ∧ J 53 6 < 12) → Ev d 204 69 [some (rf 53), some (nt s), some (nt i), some (nt n), some (nt c), some (nt 0), some (nt k)] [] J Q := fun k hk => m204_end (x := some k) (Or.inl rfl) (k2 hk)
  refine Ev.go [69] (T := T_204) rfl rfl ?_
  cases x
  all_goals
    conv => whnf
    refine brI (fun _ => ?_) (fun _ => by exfalso; omega)
    conv => whnf
    refine anI (by omega) ?_
    conv => whnf
    rw [e1]
    refine brI (fun a => ?_) (fun a => ?_) <;> conv => whnf
    · exact ⟨trivial, stop _ (by omega)⟩
    · refine brI (fun b => ?_) (fun b => ?_) <;> conv => whnf
      · have e2 : iad (iad (iml 60 s) i) (iml 2 c) = 60 * s + (i + 2 * c) := by
          simp (disch := omega) only [iad_e, iml_e]; omega
        have e3 : iad (60 * s + (i + 2 * c)) 1 = 60 * s + (i + 2 * c + 1) := by rw [iad_e (by omega)]; omega
        have hb1 := hby (i + 2 * c) (by omega) (by omega)
        have hb2 := hby (i + 2 * c + 1) (by omega) (by omega)
        rw [e2]
        refine anI (by omega) ?_
        conv => whnf
        rw [e3]
        refine anI (by omega) ?_
        conv => whnf
        refine ⟨by omega, m201 (by omega) (fun p => ?_) (fun p => ?_)⟩ <;> conv => whnf
        · refine anI (by omega) ?_
          conv => whnf
          rw [e3, l2i_e (by omega)]
          refine anI (by omega) ?_
          conv => whnf
          rw [l2i_e (by omega)]
          refine ⟨by omega, m202 hz (by omega) ?_⟩
          conv => whnf
          rw [iad_e (by omega)]
          exact ⟨trivial, k3 (by omega) (some _)⟩
        · exact ⟨trivial, stop _ (by omega)⟩
      · exact ⟨trivial, stop _ (by omega)⟩
theorem m204 {d : Nat} {s i n : Int} {I C : ME} {Q : Option MV → ME → Prop} (hd : 3 ≤ d) (hi : i ≤ 2147483647) (hz : 0 ≤ C 1 5) (hz2 : C 1 5 ≤ 12) (h6 : I 53 6 = C 1 5)
    (hl : pP s → I 76 s = 50 → I 77 s = C 51 s ∧ 0 ≤ C 51 s ∧ C 51 s ≤ 60 ∧ ∀ x, 0 ≤ x → x < 60 → I 78 (60 * s + x) = C 52 (60 * s + x) ∧ -128 ≤ C 52 (60 * s + x) ∧ C 52 (60 * s + x) ≤ 127)
    (h0 : ¬ (pP s ∧ 1 ≤ n ∧ n ≤ 12) → Q (some (nt (-1))) I) (h1 : (pP s ∧ 1 ≤ n ∧ n ≤ 12) → I 76 s < 0 → Q (some (nt 0)) I) (h2 : (pP s ∧ 1 ≤ n ∧ n ≤ 12) → 0 ≤ I 76 s → I 76 s ≠ 50 → Q (some (nt (-12))) I)
    (m : Nat) (hm : tkH C s i n m) (h3 : (pP s ∧ 1 ≤ n ∧ n ≤ 12) → I 76 s = 50 → Q (some (nt (m : Int))) (tkL I C s i m)) : EvM d 204 [rf 53, nt s, nt i, nt n] I Q := by
  have loop : (pP s ∧ 1 ≤ n ∧ n ≤ 12) → I 76 s = 50 → 0 ≤ i → ∀ j c : Nat, c + j = m → ∀ x : Option Int, Ev d 204 69 [some (rf 53), some (nt s), some (nt i), some (nt n), some (nt (c : Int)), some (nt 1), x.map nt] [] (tkL I C s i c) Q := by
    intro hp g2 i0 j
    have hQ := h3 hp g2
    obtain ⟨l1, l2, l3, l4⟩ := hl hp.1 g2
    obtain ⟨mn, hg, he⟩ := hm
    have hF : ∀ c : Nat, ∀ c', c' ≠ 53 → c' ≠ 54 → tkL I C s i c c' = I c' := fun c c' a1 a2 => tkL_F I C s i c c' (by simp; omega)
    have hN : ∀ c : Nat, ∀ c', c' ≠ 1 → c' ≠ 3 → c' ≠ 4 → c' ≠ 5 → tkN C s i c c' = C c' := fun c c' a1 a2 a3 a4 => tkN_F C s i c c' (by simp; omega)
    have hz5 : ∀ c : Nat, c ≤ m → tkN C s i c 1 5 = C 1 5 + c ∧ C 1 5 + c ≤ 12 := by
      intro c
      induction c with
      | zero => intro _; exact ⟨tkN_5 hz 0 (by omega), by omega⟩
      | succ c ih =>
        intro hc
        have := ih (by omega)
        have g := (hg c (by omega)).2.2.2.2
        exact ⟨tkN_5 hz (c + 1) (by omega), by omega⟩
    have hiff : ∀ c : Nat, c ≤ m → (gdC (tkN C s i c) s i c ↔ (i + 2 * c + 2 ≤ I 77 s ∧ pT (C 52 (60 * s + (i + 2 * c))) ∧ pH (C 52 (60 * s + (i + 2 * c + 1))) ∧ C 1 5 + c < 12)) := fun c hc => by
      have := (hz5 c hc).1
      unfold gdC
      rw [hN c 51 (by decide) (by decide) (by decide) (by decide), hN c 52 (by decide) (by decide) (by decide) (by decide)]
      omega
    induction j with
    | zero =>
      intro c hc x
      have hcm : c = m := by omega
      subst hcm
      have h5 := hz5 c (by omega)
      have h6' := tkL_6 I C s i c
      rcases he with e | e
      · exact m204_end (Or.inr (by omega)) hQ
      · by_cases hcn : (c : Int) < n
        · rw [hiff c (by omega)] at e
          refine m204_go hd hp.1 i0 hi (by omega) hcn hp.2.2 (by omega) (by omega) (by rw [hF c 77 (by decide) (by decide)]; omega) (by rw [hF c 78 (by decide) (by decide)]; intro x x0 x1; have := l4 x x0 x1; omega) (fun _ => hQ) (fun a => ?_)
          rw [hF c 77 (by decide) (by decide), hF c 78 (by decide) (by decide)] at a
          have a1 := l4 (i + 2 * c) (by omega) (by omega)
          have a2 := l4 (i + 2 * c + 1) (by omega) (by omega)
          rw [a1.1, a2.1] at a
          exfalso; omega
        · exact m204_end (Or.inr (by omega)) hQ
    | succ j ih =>
      intro c hc x
      have h5 := hz5 c (by omega)
      have h6' := tkL_6 I C s i c
      have g := (hiff c (by omega)).mp (hg c (by omega))
      have a1 := l4 (i + 2 * c) (by omega) (by omega)
      have a2 := l4 (i + 2 * c + 1) (by omega) (by omega)
      refine m204_go hd hp.1 i0 hi (by omega) (by omega) hp.2.2 (by omega) (by omega) (by rw [hF c 77 (by decide) (by decide)]; omega) (by rw [hF c 78 (by decide) (by decide)]; intro x x0 x1; have := l4 x x0 x1; omega) (fun a => ?_) (fun a x' => ?_)
      · rw [hF c 77 (by decide) (by decide), hF c 78 (by decide) (by decide), a1.1, a2.1] at a
        exfalso; omega
      · have := ih (c + 1) (by omega) x'
        rw [hF c 78 (by decide) (by decide), a1.1, a2.1]
        exact this
  refine EvM.go [69] (T := T_204) rfl rfl rfl rfl ?_
  conv => whnf
  repeat' first
    | (refine brI (fun _ => ?_) (fun _ => ?_) <;> conv => whnf)
    | (refine ⟨by omega, m285 (by omega) (fun _ => ?_) (fun _ => ?_)⟩ <;> conv => whnf)
    | (refine ⟨by omega, m187 (fun _ => ?_) (fun _ => ?_)⟩ <;> conv => whnf)
    | (refine anI (by omega) ?_; conv => whnf)
    | fail
  all_goals first
    | exact ⟨trivial, h0 (by omega)⟩
    | exact ⟨trivial, h2 (by omega) (by omega) (by omega)⟩
    | exact ⟨trivial, m204_end (x := none) (Or.inl rfl) (h1 (by omega) (by omega))⟩
    | exact ⟨trivial, loop (by omega) (by omega) (by omega) m 0 (by omega) none⟩
    | (exfalso; omega)
    | skip
  all_goals
    have hm0 : m = 0 := by
      obtain ⟨mn, hg, he⟩ := hm
      cases m with
      | zero => rfl
      | succ m => have := (hg 0 (by omega)).1; exfalso; omega
    have hQ := h3 (by omega) (by omega)
    subst hm0
    exact ⟨trivial, m204_end (x := none) (Or.inl rfl) hQ⟩
theorem op1 {s i n : Int} (hi0 : -2147483648 ≤ i) (hi : i ≤ 2147483647) : OpI 131 204 [nt s, nt i, nt n] := by
  intro c I hc0 hc h
  have hf := h.f
  have hm := h.mono
  have hs : ∀ s, pP s → _ := fun s q => h.s (s := s) q
  have hS : pP s → _ := fun q => hs s q
  have hrl := h.rl
  have hby : pP s → I 48 s = 2 → I 50 s = 0 → ∀ x : Int, 0 ≤ x → x < 60 → _ := fun a b e x x0 x1 => h.by_ a b e (i := x) x0 x1
  obtain ⟨ln, hC, hM⟩ := h
  refine x131 (by omega) hi0 hi (by omega) (by omega) hrl hby (fun p => ?_) (fun p1 p2 => ?_) (fun p1 p2 p3 => ?_) (fun p1 p2 p3 m hmm => ?_)
  · obtain ⟨m0, hm0⟩ := tkH_ex I s i 0 (by decide)
    by_cases hn : 0 ≤ n
    · obtain ⟨m0, hm0⟩ := tkH_ex I s i n hn
      refine ⟨_, rfl, m204 (C := I) (by omega) hi (by omega) (by omega) (by omega) (fun a b => ?_) (fun q => ⟨rfl, hm, rfl⟩) (fun q => absurd q p) (fun q => absurd q p) m0 hm0 (fun q => absurd q p)⟩
      rcases hS a with r | r | r
      · exfalso; omega
      · exfalso; omega
      · have := hby a r.1 (by omega)
        exact ⟨r.2.2.2.2.1, r.2.2.1.1, r.2.2.1.2, fun x x0 x1 => ⟨r.2.2.2.2.2 x x0 x1, this x x0 x1⟩⟩
    · refine ⟨_, rfl, ?_⟩
      have : ∀ Q : Option MV → ME → Prop, Q (some (nt (-1))) I → EvM 799 204 [rf 53, nt s, nt i, nt n] I Q := fun Q hQ => by
        refine EvM.go [] (T := T_204) rfl rfl rfl rfl ?_
        conv => whnf
        refine ⟨by omega, m285 (by omega) (fun _ => ?_) (fun _ => ?_)⟩ <;> conv => whnf
        · refine ⟨by omega, m187 (fun q => by exfalso; omega) (fun _ => ?_)⟩
          conv => whnf
          exact ⟨trivial, hQ⟩
        · exact ⟨trivial, hQ⟩
      exact this _ ⟨rfl, hm, rfl⟩
  · obtain ⟨m0, hm0⟩ := tkH_ex I s i n (by omega)
    have := hS p1.1
    exact ⟨_, rfl, m204 (C := I) (by omega) hi (by omega) (by omega) (by omega) (fun a b => by exfalso; omega) (fun q => absurd p1 q) (fun _ _ => ⟨rfl, hm, rfl⟩) (fun _ a b => by exfalso; omega) m0 hm0 (fun _ a => by exfalso; omega)⟩
  · obtain ⟨m0, hm0⟩ := tkH_ex I s i n (by omega)
    have := hS p1.1
    refine ⟨_, rfl, m204 (C := I) (by omega) hi (by omega) (by omega) (by omega) (fun a b => by exfalso; omega) (fun q => absurd p1 q) (fun _ a => by exfalso; omega) (fun _ a b => ⟨rfl, hm, rfl⟩) m0 hm0 (fun _ a => by exfalso; omega)⟩
  · have r := hS p1.1
    have hb := hby p1.1 p2 p3
    have hF : ∀ c', c' ≠ 1 → c' ≠ 3 → c' ≠ 4 → c' ≠ 5 → tkN I s i m c' = I c' := fun c' a1 a2 a3 a4 => tkN_F I s i m c' (by simp; omega)
    have e53 : tkN I s i m 53 = I 53 := hF 53 (by decide) (by decide) (by decide) (by decide)
    have e76 : tkN I s i m 76 = I 76 := hF 76 (by decide) (by decide) (by decide) (by decide)
    have e77 : tkN I s i m 77 = I 77 := hF 77 (by decide) (by decide) (by decide) (by decide)
    have e78 : tkN I s i m 78 = I 78 := hF 78 (by decide) (by decide) (by decide) (by decide)
    have hCm : ∀ k : Nat, k ≤ m → CI ln c (tkN I s i k) ∧ MR_ ln (tkN I s i k) (tkL (tkN I s i m) I s i k) ∧ 0 ≤ tkN I s i k 1 5 := by
      intro k
      induction k with
      | zero =>
        intro _
        refine ⟨hC, ?_, by show 0 ≤ I 1 5; omega⟩
        show MR_ ln I (tkN I s i m)
        unfold MR_
        simp only [e53, e76, e77, e78, hF 54 (by decide) (by decide) (by decide) (by decide), hF 55 (by decide) (by decide) (by decide) (by decide), hF 56 (by decide) (by decide) (by decide) (by decide), hF 57 (by decide) (by decide) (by decide) (by decide), hF 58 (by decide) (by decide) (by decide) (by decide), hF 59 (by decide) (by decide) (by decide) (by decide), hF 60 (by decide) (by decide) (by decide) (by decide), hF 69 (by decide) (by decide) (by decide) (by decide), hF 70 (by decide) (by decide) (by decide) (by decide), hF 71 (by decide) (by decide) (by decide) (by decide), hF 72 (by decide) (by decide) (by decide) (by decide), hF 73 (by decide) (by decide) (by decide) (by decide), hF 74 (by decide) (by decide) (by decide) (by decide), hF 75 (by decide) (by decide) (by decide) (by decide)]
        exact hM
      | succ k ih =>
        intro hk
        obtain ⟨i1, i2, i3⟩ := ih (by omega)
        obtain ⟨g1, g2, g3, g4, g5⟩ := hmm.2.1 k (by omega)
        rw [tkN_F I s i k 52 (by decide)] at g3 g4
        refine ⟨i1.add g5 g3 g4, i2.add i3 g5, ?_⟩
        show 0 ≤ adC (tkN I s i k) _ _ 1 5
        rw [adC_5 i3 g5]; omega
    refine ⟨_, rfl, (m204 (C := I) (Q := fun w J => w = some (nt (m : Int)) ∧ J = tkL (tkN I s i m) I s i m) (by omega) hi (by omega) (by omega) (by rw [e53]; omega) (fun a b => ?_) (fun q => absurd p1 q) (fun _ a => ?_) (fun _ a b => ?_) m hmm (fun _ _ => ⟨rfl, rfl⟩)).keepM (gsM _ rfl) |>.mono fun w J hw => ?_⟩
    · rw [e77, e78]
      rcases r with r | r | r
      · exfalso; omega
      · exfalso; omega
      · exact ⟨r.2.2.2.2.1, r.2.2.1.1, r.2.2.1.2, fun x x0 x1 => ⟨r.2.2.2.2.2 x x0 x1, hb x x0 x1⟩⟩
    · rw [e76] at a; exfalso; omega
    · rw [e76] at a b; exfalso; omega
    · obtain ⟨⟨hw1, hJ⟩, hG⟩ := hw
      obtain ⟨i1, i2, i3⟩ := hCm m (Nat.le_refl m)
      have hR : Rel c J := Rel.mk (ln := ln) (I1 := tkN I s i m) i1 (by rw [hJ]; exact i2) (fun c' hc' => funext fun j => hG c' (by unfold GM; omega) j)
      refine ⟨hw1, hR.mono, ?_⟩
      rw [hJ, tkL_F _ _ s i m 1000 (by decide), hF 1000 (by decide) (by decide) (by decide) (by decide)]
