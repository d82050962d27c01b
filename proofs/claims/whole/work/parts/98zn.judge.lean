/-! JUDGE, LOST, WHOSE: both alike -/
theorem m259 {d : Nat} {s : Int} {I : ME} {Q : Option MV → ME → Prop} (hd : 2 ≤ d) (h0 : ¬ pP s → Q (some (nt (-1))) I) (h1 : pP s ∧ I 76 s < 0 → Q (some (nt (-11))) I) (h2 : pP s ∧ I 76 s = 50 → Q (some (nt 1)) I) (h3 : pP s ∧ 0 ≤ I 76 s ∧ I 76 s ≠ 50 → Q (some (nt (-12))) I) : EvM d 259 [rf 53, nt s] I Q := by
  refine EvM.go [] (T := T_259) rfl rfl rfl rfl ?_
  conv => whnf
  refine ⟨by omega, m285 (by omega) (fun hs => ?_) (fun hs => ?_)⟩ <;> conv => whnf
  · refine anI (by omega) ?_
    conv => whnf
    refine brI (fun z => ?_) (fun z => ?_) <;> conv => whnf
    · exact ⟨trivial, h1 ⟨hs, z⟩⟩
    · refine anI (by omega) ?_
      conv => whnf
      refine brI (fun z2 => ?_) (fun z2 => ?_) <;> conv => whnf
      · exact ⟨trivial, h2 ⟨hs, z2⟩⟩
      · exact ⟨trivial, h3 ⟨hs, by omega, z2⟩⟩
  · exact ⟨trivial, h0 hs⟩
/-- what a shelf holds, both sides -/
def rwX (s n : Int) (g : Int → Int) (I : ME) : Prop := rwC I s ∧ I 50 s = 0 ∧ I 51 s = n ∧ (0 ≤ n ∧ n ≤ 60) ∧ (∀ s, rwC I s → I 51 s ≤ 60) ∧ (∀ i, 0 ≤ i → i < n → I 52 (60 * s + i) = g i ∧ -128 ≤ g i ∧ g i ≤ 127) ∧ I 76 s = 50 ∧ I 77 s = n ∧ ∀ i, 0 ≤ i → i < n → I 78 (60 * s + i) = g i
theorem rwX.fr {s n : Int} {g : Int → Int} {I J : ME} (h : rwX s n g I) (hF : ∀ c, (48 ≤ c ∧ c ≤ 52) ∨ (76 ≤ c ∧ c ≤ 78) → J c = I c) : rwX s n g J := by
  unfold rwX rwC at *
  rw [hF 48 (by omega), hF 50 (by omega), hF 51 (by omega), hF 52 (by omega), hF 76 (by omega), hF 77 (by omega), hF 78 (by omega)]
  exact h
theorem Rel.rw_ {c : Int} {I : ME} (h : Rel c I) (s : Int) : ¬ pP s ∨ (pP s ∧ I 48 s = 0 ∧ I 76 s < 0) ∨ (∃ n g, pP s ∧ rwX s n g I) ∨ (pP s ∧ I 48 s ≠ 0 ∧ ¬ (I 48 s = 2 ∧ I 50 s = 0) ∧ 0 ≤ I 76 s ∧ I 76 s ≠ 50) := by
  by_cases hp : pP s
  · have hf := h.f
    refine Or.inr ?_
    rcases h.s hp with ⟨a, b⟩ | ⟨a, b⟩ | ⟨a, b, c, e, f, g⟩
    · exact Or.inl ⟨hp, a, by omega⟩
    · exact Or.inr (Or.inr ⟨hp, by omega, fun w => by omega, by omega, by omega⟩)
    · by_cases w : I 50 s = 0
      · refine Or.inr (Or.inl ⟨I 51 s, fun i => I 52 (60 * s + i), hp, ⟨hp, a⟩, w, rfl, c, fun s' hs' => ?_, fun i i0 i1 => ⟨rfl, h.by_ hp a w i0 (by omega)⟩, by omega, f, fun i i0 i1 => g i i0 (by omega)⟩)
        rcases h.s hs'.1 with ⟨a, _⟩ | ⟨a, _⟩ | ⟨a, _, c, _⟩
        · have := hs'.2; omega
        · have := hs'.2; omega
        · exact c.2
      · exact Or.inr (Or.inr ⟨hp, by omega, fun q => w q.2, by omega, by omega⟩)
  · exact Or.inl hp
/-- an operation on a row: answers that the row makes -/
theorem Op3.row {kx km : Nat} {as : List MV} {s : Int} (F : lz_L → LT → Int → (Int → Int) → Int) (A0 A1 A2 : Int)
    (hx0 : ∀ (I : ME) (Q : Option MV → ME → Prop), (∃ ln L, CX ln L I) → ¬ pP s → Q (some (nt A0)) I → EvM 799 kx (rf 0 :: as) I Q)
    (hx1 : ∀ (ln : lz_L) (L : LT) (I : ME) (Q : Option MV → ME → Prop), CX ln L I → pP s → I 48 s = 0 → Q (some (nt (F ln L (-11) (fun _ => 0)))) I → EvM 799 kx (rf 0 :: as) I Q)
    (hx2 : ∀ (ln : lz_L) (L : LT) (I : ME) (Q : Option MV → ME → Prop), CX ln L I → pP s → I 48 s ≠ 0 → ¬ (I 48 s = 2 ∧ I 50 s = 0) → Q (some (nt (F ln L (-12) (fun _ => 0)))) I → EvM 799 kx (rf 0 :: as) I Q)
    (hx3 : ∀ (ln : lz_L) (L : LT) (I : ME) (n : Int) (g : Int → Int) (Q : Option MV → ME → Prop), CX ln L I → pP s → rwX s n g I → (∀ J, Fr [11, 12, 13, 16, 17, 18, 19] I J → CX ln L J → Q (some (nt (F ln L n g))) J) → EvM 799 kx (rf 0 :: as) I Q)
    (hm0 : ∀ (I : ME) (Q : Option MV → ME → Prop), (∃ ln L, MX ln L I) → ¬ pP s → Q (some (nt A0)) I → EvM 799 km (rf 53 :: as) I Q)
    (hm1 : ∀ (ln : lz_L) (L : LT) (I : ME) (Q : Option MV → ME → Prop), MX ln L I → pP s → I 76 s < 0 → Q (some (nt (F ln L (-11) (fun _ => 0)))) I → EvM 799 km (rf 53 :: as) I Q)
    (hm2 : ∀ (ln : lz_L) (L : LT) (I : ME) (Q : Option MV → ME → Prop), MX ln L I → pP s → 0 ≤ I 76 s → I 76 s ≠ 50 → Q (some (nt (F ln L (-12) (fun _ => 0)))) I → EvM 799 km (rf 53 :: as) I Q)
    (hm3 : ∀ (ln : lz_L) (L : LT) (I : ME) (n : Int) (g : Int → Int) (Q : Option MV → ME → Prop), MX ln L I → pP s → rwX s n g I → (∀ J, mF I J → Q (some (nt (F ln L n g))) J) → EvM 799 km (rf 53 :: as) I Q) : Op3 kx km as nt := by
  intro c I hc0 hc h h27
  obtain ⟨ln, hX, hM, hB⟩ := h.th hc
  have hI := hB I I Fr.rfl' hX mF.rfl'
  rcases h.rw_ s with hp | ⟨hp, a, b⟩ | ⟨n, g, hp, hr⟩ | ⟨hp, a, b, e, f⟩
  · exact hx0 I _ ⟨ln, _, hX⟩ hp ⟨_, rfl, hm0 I _ ⟨ln, _, hM⟩ hp ⟨rfl, hI, rfl, h27⟩⟩
  · exact hx1 ln _ I _ hX hp a ⟨_, rfl, hm1 ln _ I _ hM hp b ⟨rfl, hI, rfl, h27⟩⟩
  · refine hx3 ln _ I n g _ hX hp hr (fun J hF hX2 => ⟨_, rfl, hm3 ln _ J n g _ (hM.keep (by rw [hF 53 (by decide)]) (by rw [hF 53 (by decide)]) (by rw [hF 53 (by decide)]) (by rw [hF 53 (by decide)]) (hF 54 (by decide)) (hF 58 (by decide)) (hF 60 (by decide))) hp (hr.fr (fun c hc => hF c (by simp; omega))) (fun J2 hm2' => ⟨rfl, hB J J2 (hF.sub (by decide)) hX2 hm2', ?_, ?_⟩)⟩)
    · rw [hm2'.2 1000 (by decide), hF 1000 (by decide)]
    · rw [hm2'.2 27 (by decide), hF 27 (by decide)]; exact h27
  · exact hx2 ln _ I _ hX hp a b ⟨_, rfl, hm2 ln _ I _ hM hp e f ⟨rfl, hI, rfl, h27⟩⟩
noncomputable def F22 (ln : lz_L) (L : LT) (n : Int) (g : Int → Int) : Int := if n < 0 then n else (seF L g n.toNat 0).2
theorem op22 {s : Int} : Op3 152 262 [nt s] nt := by
  refine Op3.row (s := s) F22 (-1) 0 0 ?_ ?_ ?_ ?_ ?_ ?_ ?_ ?_
  · intro I Q _ hp h
    refine EvM.go [] (T := T_152) rfl rfl rfl rfl ?_
    conv => whnf
    refine ⟨by omega, x180 (by omega) (fun z => ?_) (fun z => absurd z.1 hp) (fun z => absurd z.1.1 hp) (fun z => absurd z.1 hp)⟩
    conv => whnf
    exact ⟨trivial, h⟩
  · intro ln L I Q hX hp a h
    refine EvM.go [] (T := T_152) rfl rfl rfl rfl ?_
    conv => whnf
    refine ⟨by omega, x180 (by omega) (fun z => absurd hp z) (fun z => ?_) (fun z => by have := z.1.2; omega) (fun z => absurd a z.2.1)⟩
    conv => whnf
    exact ⟨trivial, h⟩
  · intro ln L I Q hX hp a b h
    refine EvM.go [] (T := T_152) rfl rfl rfl rfl ?_
    conv => whnf
    refine ⟨by omega, x180 (by omega) (fun z => absurd hp z) (fun z => absurd z.2 a) (fun z => absurd ⟨z.1.2, z.2⟩ b) (fun z => ?_)⟩
    conv => whnf
    exact ⟨trivial, h⟩
  · intro ln L I n g Q hX hp hr h
    have hr' := hr
    obtain ⟨r1, r2, r3, r4, r5, r6, r7, r8, r9⟩ := hr
    refine EvM.go [] (T := T_152) rfl rfl rfl rfl ?_
    conv => whnf
    refine ⟨by omega, x180 (by omega) (fun z => absurd hp z) (fun z => by have := r1.2; omega) (fun z => ?_) (fun z => absurd ⟨r1.2, r2⟩ z.2.2)⟩
    conv => whnf
    refine ⟨by omega, x126 (by omega) hX r1 r3 r4 r5 r6 (fun J hF hX2 hpp => ?_)⟩
    conv => whnf
    have := h J hF hX2
    unfold F22 at this
    rw [if_neg (by omega)] at this
    exact ⟨trivial, this⟩
  · intro I Q _ hp h
    refine EvM.go [] (T := T_262) rfl rfl rfl rfl ?_
    conv => whnf
    refine ⟨by omega, m259 (by omega) (fun z => ?_) (fun z => absurd z.1 hp) (fun z => absurd z.1 hp) (fun z => absurd z.1 hp)⟩
    conv => whnf
    refine ⟨by omega, m259 (by omega) (fun z => ?_) (fun z => absurd z.1 hp) (fun z => absurd z.1 hp) (fun z => absurd z.1 hp)⟩
    conv => whnf
    exact ⟨trivial, h⟩
  · intro ln L I Q hM hp a h
    refine EvM.go [] (T := T_262) rfl rfl rfl rfl ?_
    conv => whnf
    refine ⟨by omega, m259 (by omega) (fun z => absurd hp z) (fun z => ?_) (fun z => by have := z.2; omega) (fun z => by have := z.2; omega)⟩
    conv => whnf
    refine ⟨by omega, m259 (by omega) (fun z => absurd hp z) (fun z => ?_) (fun z => by have := z.2; omega) (fun z => by have := z.2; omega)⟩
    conv => whnf
    exact ⟨trivial, h⟩
  · intro ln L I Q hM hp a b h
    refine EvM.go [] (T := T_262) rfl rfl rfl rfl ?_
    conv => whnf
    refine ⟨by omega, m259 (by omega) (fun z => absurd hp z) (fun z => by have := z.2; omega) (fun z => by have := z.2; omega) (fun z => ?_)⟩
    conv => whnf
    refine ⟨by omega, m259 (by omega) (fun z => absurd hp z) (fun z => by have := z.2; omega) (fun z => by have := z.2; omega) (fun z => ?_)⟩
    conv => whnf
    exact ⟨trivial, h⟩
  · intro ln L I n g Q hM hp hr h
    obtain ⟨r1, r2, r3, r4, r5, r6, r7, r8, r9⟩ := hr
    refine EvM.go [] (T := T_262) rfl rfl rfl rfl ?_
    conv => whnf
    refine ⟨by omega, m259 (by omega) (fun z => absurd hp z) (fun z => by have := z.2; omega) (fun z => ?_) (fun z => absurd r7 z.2.2)⟩
    conv => whnf
    refine ⟨by omega, m261 (by omega) hM hp r8 r4 (fun i i0 i1 => ⟨r9 i i0 i1, (r6 i i0 i1).2⟩) (fun J hF hpp => ?_)⟩
    conv => whnf
    have := h J hF.mF
    unfold F22 at this
    rw [if_neg (by omega)] at this
    exact ⟨trivial, this⟩
noncomputable def F23 (k : Int) (ln : lz_L) (L : LT) (n : Int) (g : Int → Int) : Int := if pP k then (if n < 0 then -2000000000 else (sqP ln L g (seF L g n.toNat 0).1 k).2) else -2000000000
theorem F23_n {k : Int} {ln : lz_L} {L : LT} {n : Int} {g : Int → Int} (h : n < 0) : F23 k ln L n g = -2000000000 := by
  unfold F23
  rw [if_pos h]
  split <;> rfl
theorem op23 {s k : Int} : Op3 153 263 [nt s, nt k] nt := by
  refine Op3.row (s := s) (F23 k) (-2000000000) 0 0 ?_ ?_ ?_ ?_ ?_ ?_ ?_ ?_
  · intro I Q _ hp h
    refine EvM.go [] (T := T_153) rfl rfl rfl rfl ?_
    conv => whnf
    refine ⟨by omega, x175 (fun _ => ?_) (fun _ => ?_)⟩ <;> conv => whnf
    · refine ⟨by omega, x180 (by omega) (fun z => ?_) (fun z => absurd z.1 hp) (fun z => absurd z.1.1 hp) (fun z => absurd z.1 hp)⟩
      conv => whnf
      exact ⟨trivial, h⟩
    · exact ⟨trivial, h⟩
  · intro ln L I Q hX hp a h
    rw [F23_n (by omega)] at h
    refine EvM.go [] (T := T_153) rfl rfl rfl rfl ?_
    conv => whnf
    refine ⟨by omega, x175 (fun _ => ?_) (fun _ => ?_)⟩ <;> conv => whnf
    · refine ⟨by omega, x180 (by omega) (fun z => absurd hp z) (fun z => ?_) (fun z => by have := z.1.2; omega) (fun z => absurd a z.2.1)⟩
      conv => whnf
      exact ⟨trivial, h⟩
    · exact ⟨trivial, h⟩
  · intro ln L I Q hX hp a b h
    rw [F23_n (by omega)] at h
    refine EvM.go [] (T := T_153) rfl rfl rfl rfl ?_
    conv => whnf
    refine ⟨by omega, x175 (fun _ => ?_) (fun _ => ?_)⟩ <;> conv => whnf
    · refine ⟨by omega, x180 (by omega) (fun z => absurd hp z) (fun z => absurd z.2 a) (fun z => absurd ⟨z.1.2, z.2⟩ b) (fun z => ?_)⟩
      conv => whnf
      exact ⟨trivial, h⟩
    · exact ⟨trivial, h⟩
  · intro ln L I n g Q hX hp hr h
    obtain ⟨r1, r2, r3, r4, r5, r6, r7, r8, r9⟩ := hr
    refine EvM.go [] (T := T_153) rfl rfl rfl rfl ?_
    conv => whnf
    refine ⟨by omega, x175 (fun hk => ?_) (fun hk => ?_)⟩ <;> conv => whnf
    · refine ⟨by omega, x180 (by omega) (fun z => absurd hp z) (fun z => by have := r1.2; omega) (fun z => ?_) (fun z => absurd ⟨r1.2, r2⟩ z.2.2)⟩
      conv => whnf
      refine ⟨by omega, x126 (by omega) hX r1 r3 r4 r5 r6 (fun J hF hX2 hpp => ?_)⟩
      conv => whnf
      refine ⟨by omega, x118 hk ?_ (by omega)⟩
      rw [hpp k hk]
      conv => whnf
      have := h J hF hX2
      unfold F23 at this
      rw [if_pos hk, if_neg (by omega)] at this
      exact ⟨trivial, this⟩
    · have := h I Fr.rfl' hX
      unfold F23 at this
      rw [if_neg hk] at this
      exact ⟨trivial, this⟩
  · intro I Q _ hp h
    refine EvM.go [] (T := T_263) rfl rfl rfl rfl ?_
    conv => whnf
    refine ⟨by omega, m259 (by omega) (fun z => ?_) (fun z => absurd z.1 hp) (fun z => absurd z.1 hp) (fun z => absurd z.1 hp)⟩
    conv => whnf
    exact ⟨trivial, h⟩
  · intro ln L I Q hM hp a h
    rw [F23_n (by omega)] at h
    refine EvM.go [] (T := T_263) rfl rfl rfl rfl ?_
    conv => whnf
    refine ⟨by omega, m259 (by omega) (fun z => absurd hp z) (fun z => ?_) (fun z => by have := z.2; omega) (fun z => by have := z.2; omega)⟩
    conv => whnf
    exact ⟨trivial, h⟩
  · intro ln L I Q hM hp a b h
    rw [F23_n (by omega)] at h
    refine EvM.go [] (T := T_263) rfl rfl rfl rfl ?_
    conv => whnf
    refine ⟨by omega, m259 (by omega) (fun z => absurd hp z) (fun z => by have := z.2; omega) (fun z => by have := z.2; omega) (fun z => ?_)⟩
    conv => whnf
    exact ⟨trivial, h⟩
  · intro ln L I n g Q hM hp hr h
    obtain ⟨r1, r2, r3, r4, r5, r6, r7, r8, r9⟩ := hr
    refine EvM.go [] (T := T_263) rfl rfl rfl rfl ?_
    conv => whnf
    refine ⟨by omega, m259 (by omega) (fun z => absurd hp z) (fun z => by have := z.2; omega) (fun z => ?_) (fun z => absurd r7 z.2.2)⟩
    conv => whnf
    refine ⟨by omega, m195 (by omega) (fun hk => ?_) (fun hk => ?_)⟩ <;> conv => whnf
    · refine ⟨by omega, m261 (by omega) hM hp r8 r4 (fun i i0 i1 => ⟨r9 i i0 i1, (r6 i i0 i1).2⟩) (fun J hF hpp => ?_)⟩
      conv => whnf
      refine anI (by omega) ?_
      conv => whnf
      rw [hpp k hk]
      have := h J hF.mF
      unfold F23 at this
      rw [if_pos hk, if_neg (by omega)] at this
      exact ⟨trivial, this⟩
    · have := h I mF.rfl'
      unfold F23 at this
      rw [if_neg hk] at this
      exact ⟨trivial, this⟩
