/-! OPERATIONS of both sides, one by one -/
theorem nt_c {a b : Int} (h : a = b) : some (nt a) = some (nt b) := by rw [h]
theorem lg_c {a b : Int} (h : a = b) : some (lg a) = some (lg b) := by rw [h]
theorem op3 {n w : Int} (hn : n ≤ 2147483647) : OpI 133 208 [nt n, nt w] := by
  intro c I hc0 hc h
  have hf := h.f
  have hm := h.mono
  have ht : 0 ≤ n → n < 12 → _ := fun a b => h.t (t := n) a b
  have hj : lvC n → _ := fun a => h.j (j := 8 * (n / 10) + n % 10) (by omega) (by omega)
  have hp : pP n → _ := fun a => h.p (p := n) a
  refine x133 (by omega) hn (by omega) (fun p => ?_) (fun p => ?_) (fun p => ?_) (fun p => ?_) (fun p => ?_) (fun p => ?_) (fun p => ?_) (fun p => ?_)
  all_goals refine ⟨_, rfl, m208 (by omega) hn (by omega) (by omega) (fun q => ?_) (fun q => ?_) (fun q => ?_) (fun q => ?_) (fun q => ?_)⟩
  all_goals first
    | (exfalso; omega)
    | exact ⟨rfl, hm, rfl⟩
    | skip
  · refine ⟨nt_c ?_, hm, rfl⟩
    rw [hf.2.2.2.1.2.1]
    exact p.2.2
  · refine ⟨nt_c ?_, hm, rfl⟩
    rw [hf.2.2.2.1.2.1]
    exact hasb_0.mpr p.2.2
  · exact ⟨nt_c (hp q.2).2, hm, rfl⟩
  · exact ⟨nt_c (hj q.2).2, hm, rfl⟩
  · have := (ht (by omega) (by omega)).2.1
    refine ⟨nt_c ?_, hm, rfl⟩
    rw [show 48 + 3 * n + w - 1 = 48 + 3 * n by omega]
    exact this
  · have := (ht (by omega) (by omega)).2.2.1
    refine ⟨nt_c ?_, hm, rfl⟩
    rw [show 48 + 3 * n + w - 1 = 48 + 3 * n + 1 by omega]
    exact this
  · have := (ht (by omega) (by omega)).2.2.2
    refine ⟨nt_c ?_, hm, rfl⟩
    rw [show 48 + 3 * n + w - 1 = 48 + 3 * n + 2 by omega]
    exact this
theorem op4 {l : Int} : OpI 134 209 [nt l] := by
  intro c I hc0 hc h
  have hf := h.f
  have hm := h.mono
  obtain ⟨ln, hC, hM⟩ := h
  refine x134 (by omega) (by omega) (fun p => ?_) (fun p => ?_) (fun p => ?_)
  · exact ⟨_, rfl, m209 (by omega) (by omega) (by omega) (fun q => ⟨rfl, hm, rfl⟩) (fun q => by exfalso; omega) (fun q => by exfalso; omega)⟩
  · exact ⟨_, rfl, m209 (by omega) (by omega) (by omega) (fun q => by exfalso; omega) (fun q => ⟨rfl, hm, rfl⟩) (fun q => by exfalso; omega)⟩
  · have e : ∀ J : ME, J = upd_ (upd_ I 14 2 (iad (I 14 2) 1)) 15 (I 14 2) l → J 53 11 = I 14 2 := fun J hJ => by
      rw [hJ]
      simp (disch := omega) only [up_c]
      exact hf.2.2.2.2.1.2.2
    have e := e _ rfl
    refine ⟨_, rfl, m209 (by omega) (by omega) (by omega) (fun q => by exfalso; omega) (fun q => by exfalso; omega) (fun q => ⟨by rw [e], ⟨ln, ?_, ?_⟩, by simp (disch := omega) only [up_c]⟩)⟩
    · obtain ⟨a, b, g, d, f, r, s, u, v⟩ := hC
      unfold CI
      simp (disch := omega) only [up_c, up_g, fu_eq, fu_ne]
      refine ⟨a, ⟨?_, fun j j0 j1 => ?_⟩, g, d, f, r, s, ⟨u.1, u.2.1, by omega⟩, v⟩
      · rw [iad_e (by omega)]; omega
      · rw [iad_e (by omega)] at j1
        by_cases hj : j = I 14 2
        · subst hj; rw [fu_eq]; exact p.1
        · rw [fu_ne hj]; exact b.2 j j0 (by omega)
    · obtain ⟨a, b, g, d, f, r, s⟩ := hM
      unfold MR_
      simp (disch := omega) only [up_c, up_g, fu_eq, fu_ne]
      refine ⟨a, ⟨by rw [b.1], fun j j0 j1 => ?_⟩, g, d, f, r, s⟩
      rw [iad_e (by omega)] at j1
      rw [b.1]
      by_cases hj : j = I 14 2
      · subst hj; rw [fu_eq, fu_eq]
      · rw [fu_ne hj, fu_ne hj]; exact b.2 j j0 (by omega)
theorem op27 {t k : Int} : OpI 157 268 [nt t, nt k] := by
  intro c I hc0 hc h
  have hf := h.f
  have hm := h.mono
  have ht : 0 ≤ t → t < 12 → _ := fun a b => h.t (t := t) a b
  obtain ⟨ln, hC, hM⟩ := h
  have e7 : I 53 7 = I 1 6 := hf.2.2.2.1.2.1
  refine x157 (by omega) (by omega) (fun p => ?_) (fun p => ?_) (fun p => ?_)
  · exact ⟨_, rfl, m268 (by omega) (by omega) (by omega) (fun q => ⟨rfl, hm, rfl⟩) (fun q => by exfalso; omega) (fun q => by exfalso; omega)⟩
  · refine ⟨_, rfl, m268 (by omega) (by omega) (by omega) (fun q => by exfalso; omega) (fun q => ⟨rfl, hm, rfl⟩) (fun q => ?_)⟩
    rw [e7] at q
    exact absurd q.2.1 p.2.2
  · have e : ∀ J : ME, J = upd_ I 4 t k → J 53 = I 53 ∧ J 54 = I 54 := fun J hJ => by
      rw [hJ]
      exact ⟨by simp (disch := omega) only [up_c], by simp (disch := omega) only [up_c]⟩
    have e := e _ rfl
    refine ⟨_, rfl, m268 (by omega) (by rw [e.1]; omega) (by rw [e.1]; omega) (fun q => ?_) (fun q => ?_) (fun q => ⟨?_, ⟨ln, ?_, ?_⟩, by simp (disch := omega) only [up_c]⟩)⟩
    · unfold tkM at q; rw [e.1] at q; exfalso; omega
    · unfold tkM at q; rw [e.1, e7] at q; exact absurd p.1.2 q.2.2
    · rw [e.2]; exact nt_c (ht (by omega) (by omega)).2.2.1
    · obtain ⟨a, b, g, d, f, r, s, u, v⟩ := hC
      unfold CI
      simp (disch := omega) only [up_c, up_g, fu_eq, fu_ne]
      exact ⟨cA_ho a p.2, b, g, d, f, r, s, ⟨u.1, u.2.1, by omega⟩, v⟩
    · obtain ⟨a, b, g, d, f, r, s⟩ := hM
      unfold MR_
      simp (disch := omega) only [up_c, up_g, fu_eq, fu_ne]
      exact ⟨mA_ho a (by omega), b, g, d, f, r, s⟩
theorem nor_e (s a b : Int) : ian s (ian (ixr a (-1)) (ixr b (-1))) = sdf s (iro a b) := by
  unfold sdf ian ixr iro
  rw [of_to32, of_to32, of_to32, of_to32, of_to32]
  congr 2
  refine Int32.toBitVec_inj.mp ?_
  rw [Int32.toBitVec_and, Int32.toBitVec_xor, Int32.toBitVec_xor, Int32.toBitVec_xor, Int32.toBitVec_or]
  have hm : (Int32.ofInt (-1)).toBitVec = BitVec.allOnes 32 := by decide
  rw [hm]
  ext i hi
  simp only [BitVec.getElem_and, BitVec.getElem_xor, BitVec.getElem_or, BitVec.getElem_allOnes]
  cases (Int32.ofInt a).toBitVec[i] <;> cases (Int32.ofInt b).toBitVec[i] <;> rfl
theorem op28 {n : Int} (hn0 : -2147483648 ≤ n) (hn : n ≤ 2147483647) : OpI 158 269 [nt n] := by
  intro c I hc0 hc h
  have hf := h.f
  have hm := h.mono
  have e7 : I 53 7 = I 1 6 := hf.2.2.2.1.2.1
  have hneg : n < 0 → _ := fun q => neg_dm (n := 20) hn0 q (by decide)
  have hd : 0 ≤ n → idv n 20 = n / 20 ∧ irm n 20 = n % 20 := fun q => ⟨idv_q q hn (by decide), irm_q q hn (by decide)⟩
  have hbd : 0 ≤ n → tkC I (n / 20) → tkC I (n % 20) → 0 ≤ sdf (I 1 6) (iro (isl 1 (n / 20)) (isl 1 (n % 20))) ∧ sdf (I 1 6) (iro (isl 1 (n / 20)) (isl 1 (n % 20))) < 4096 ∧ ∀ u, 0 ≤ u → u < 12 → hasb (sdf (I 1 6) (iro (isl 1 (n / 20)) (isl 1 (n % 20)))) u → hasb (I 1 6) u := fun q a b => by
    have i1 := (isl_b (t := n / 20) (by omega) (by omega)).1
    have i2 := (isl_b (t := n % 20) (by omega) (by omega)).1
    have i3 := (iro_b (s := isl 1 (n / 20)) (b := isl 1 (n % 20)) (by omega) i1.2 (by omega) i2.2).1
    obtain ⟨i4, i5⟩ := sdf_b (s := I 1 6) (b := iro (isl 1 (n / 20)) (isl 1 (n % 20))) (by omega) (by omega) i3.1 (by omega)
    exact ⟨by omega, by omega, fun u u0 u1 hu => ((i5 u u0 (by omega)).mp hu).1⟩
  have hta : 0 ≤ n / 20 → n / 20 < 12 → _ := fun a b => h.t (t := n / 20) a b
  have htb : 0 ≤ n % 20 → n % 20 < 12 → _ := fun a b => h.t (t := n % 20) a b
  obtain ⟨ln, hC, hM⟩ := h
  refine x158 (by omega) (by omega) (by omega) (by omega) (fun p => ?_) (fun p => ?_) (fun p => ?_)
  · refine ⟨_, rfl, m269 (by omega) hn (fun q => ?_) (by omega) (by omega) (fun q => ⟨rfl, hm, rfl⟩) (fun q => ?_) (fun q => ?_)⟩
    · have := hd q.1; exfalso; omega
    · have := hd q.1.1; exfalso; omega
    · have := hd q.1.1; exfalso; omega
  · have h0 : 0 ≤ n := by omega
    obtain ⟨d1, d2⟩ := hd h0
    rw [d1, d2] at p
    obtain ⟨ta, ta'⟩ := hta (by omega) (by omega)
    obtain ⟨tb, tb'⟩ := htb (by omega) (by omega)
    refine ⟨_, rfl, m269 (by omega) hn (fun q => ?_) (by omega) (by omega) (fun q => ?_) (fun q => ⟨rfl, hm, rfl⟩) (fun q => ?_)⟩
    · rw [nor_e, e7]; have := hbd h0 p.1.2.1 p.1.2.2; omega
    · exfalso; omega
    · rw [e7] at q; exfalso; omega
  · have h0 : 0 ≤ n := by omega
    obtain ⟨d1, d2⟩ := hd h0
    rw [d1, d2] at p ⊢
    obtain ⟨ta, ta'⟩ := hta (by omega) (by omega)
    obtain ⟨tb, tb'⟩ := htb (by omega) (by omega)
    obtain ⟨b1, b2, b3⟩ := hbd h0 p.1.2.1 p.1.2.2
    have e : ∀ J : ME, J = upd_ (upd_ I 1 6 (sdf (I 1 6) (iro (isl 1 (n / 20)) (isl 1 (n % 20))))) 35 1 (iad (I 35 1) 2) → J 53 = I 53 ∧ J 54 = I 54 := fun J hJ => by
      rw [hJ]
      exact ⟨by simp (disch := omega) only [up_c], by simp (disch := omega) only [up_c]⟩
    have e := e _ rfl
    refine ⟨_, rfl, m269 (by omega) hn (fun q => ?_) (by rw [e.1]; omega) (by rw [e.1]; omega) (fun q => ?_) (fun q => ?_) (fun q => ⟨?_, ⟨ln, ?_, ?_⟩, by simp (disch := omega) only [up_c]⟩)⟩
    · rw [e.1, nor_e, e7]; omega
    · unfold tkM at q; rw [e.1] at q; exfalso; omega
    · unfold tkM at q; rw [e.1, e.2, e7] at q; exfalso; omega
    · rw [e.1, nor_e, e7]
    · obtain ⟨a, b, g, d, f, r, s, u, v⟩ := hC
      unfold CI
      simp (disch := omega) only [up_c, up_g, fu_eq, fu_ne]
      exact ⟨cA_in a b1 b2 b3, b, g, d, f, r, s, ⟨u.1, u.2.1, by omega⟩, v⟩
    · obtain ⟨a, b, g, d, f, r, s⟩ := hM
      unfold MR_
      simp (disch := omega) only [up_c, up_g, fu_eq, fu_ne, nor_e]
      rw [e7]
      obtain ⟨d1, d2, d3, d4, d5⟩ := d
      exact ⟨mA_in a _, b, g, ⟨by rw [fu_ne (by decide)]; exact d1, by rw [fu_eq, d2], by rw [fu_ne (by decide)]; exact d3, fun p hp => by rw [fu_ne (by omega)]; exact d4 p hp, d5⟩, f, r, s⟩
theorem op30 {w : Int} (h0 : -2147483648 ≤ w) (h1 : w ≤ 2147483647) : OpI 160 271 [nt w] := by
  intro c I hc0 hc h
  have hf := h.f
  have hm := h.mono
  obtain ⟨ln, hC, a, b, g, d, f, r, s⟩ := h
  refine x160 (by omega) h0 h1 (fun p => ?_) (fun p => ?_) (fun p => ?_)
  all_goals refine ⟨_, rfl, m271 (by omega) h0 h1 (fun q => ?_) (fun q => ?_) (fun q => ?_) (fun q => ?_) (fun q => ?_)⟩
  all_goals first
    | (exfalso; omega)
    | exact ⟨rfl, hm, rfl⟩
    | (subst q; exact ⟨nt_c (by omega), hm, rfl⟩)
    | skip
  exact ⟨nt_c (d.2.2.2.1 (w - 10) (by omega)), hm, rfl⟩
theorem op35 {k : Int} : OpI 165 276 [nt k] := by
  intro c I hc0 hc h
  have hf := h.f
  have hm := h.mono
  obtain ⟨ln, hC, hM⟩ := h
  refine x165 (by omega) (by omega) (by omega) (fun p => ?_) (fun p => ?_) (fun p => ?_)
  · exact ⟨_, rfl, m276 (by omega) (by omega) (by omega) (fun q => ⟨rfl, hm, rfl⟩) (fun q => by exfalso; omega) (fun q => by exfalso; omega)⟩
  · exact ⟨_, rfl, m276 (by omega) (by omega) (by omega) (fun q => by exfalso; omega) (fun q => ⟨rfl, hm, rfl⟩) (fun q => by exfalso; omega)⟩
  · have e : ∀ J : ME, J = upd_ (upd_ I 45 (I 44 2) k) 44 2 (iad (I 44 2) 1) → J 53 44 = I 44 2 := fun J hJ => by
      rw [hJ]
      simp (disch := omega) only [up_c]
      exact hf.2.2.2.2.2.2.1.2.2
    have e := e _ rfl
    refine ⟨_, rfl, m276 (by omega) (by omega) (by omega) (fun q => by exfalso; omega) (fun q => by exfalso; omega) (fun q => ⟨nt_c (by omega), ⟨ln, ?_, ?_⟩, by simp (disch := omega) only [up_c]⟩)⟩
    · obtain ⟨a, b, g, d, f, r, s, u, v⟩ := hC
      unfold CI
      simp (disch := omega) only [up_c, up_g, fu_eq, fu_ne]
      have hi : iad (I 44 2) 1 = I 44 2 + 1 := iad_e (by omega)
      rw [hi]
      refine ⟨a, b, g, d, ⟨by omega, f.2.1, fun i i0 i1 => ?_⟩, fun s hs => ?_, s, ⟨u.1, u.2.1, by omega⟩, v⟩
      · by_cases hj : i = I 44 2
        · subst hj; rw [fu_eq]; exact p.1
        · rw [fu_ne hj]; exact f.2.2 i i0 (by omega)
      · have := r s hs
        omega
    · obtain ⟨a, b, g, d, f, r, s⟩ := hM
      unfold MR_
      simp (disch := omega) only [up_c, up_g, fu_eq, fu_ne]
      have hi : iad (I 44 2) 1 = I 44 2 + 1 := iad_e (by omega)
      obtain ⟨f1, f2, f3, f4⟩ := f
      rw [f1, hi]
      refine ⟨a, b, g, d, ⟨rfl, f2, fun i i0 i1 => ?_, f4⟩, r, s⟩
      by_cases hj : i = I 44 2
      · subst hj; rw [fu_eq, fu_eq]
      · rw [fu_ne hj, fu_ne hj]; exact f3 i i0 (by omega)
theorem op37 {i : Int} : OpI 167 284 [nt i] := by
  intro c I hc0 hc h
  have hf := h.f
  have hm := h.mono
  obtain ⟨ln, hC, a, b, g, d, f, r, s⟩ := h
  refine x167 (by omega) (fun p => ?_) (fun p => ?_)
  all_goals refine ⟨_, rfl, m284 (fun q => ?_) (fun q => ?_)⟩
  all_goals first
    | (exfalso; omega)
    | exact ⟨rfl, hm, rfl⟩
    | exact ⟨nt_c (f.2.2.2 i p.1 p.2.1 p.2.2), hm, rfl⟩
theorem op44 {w : Int} : OpI 174 294 [nt w] := by
  intro c I hc0 hc h
  have hf := h.f
  have hm := h.mono
  have e7 : I 53 7 = I 1 6 := hf.2.2.2.1.2.1
  refine x174 (by omega) (by omega) (by omega) (fun p => ?_) (fun p => ?_) (fun p => ?_) (fun p => ?_) (fun p => ?_) (fun p => ?_) (fun p => ?_)
  all_goals refine ⟨_, rfl, m294 (by omega) (by omega) (by omega) (fun q => ?_) (fun q => ?_) (fun q => ?_) (fun q => ?_) (fun q => ?_) (fun q => ?_) (fun q => ?_)⟩
  all_goals first
    | (exfalso; omega)
    | exact ⟨rfl, hm, rfl⟩
    | exact ⟨nt_c (by omega), hm, rfl⟩
    | exact ⟨nt_c (by rw [e7]), hm, rfl⟩
theorem op41 {s i : Int} (hi : i ≤ 2147483647) : OpL 171 291 [nt s, nt i] := by
  intro c I hc0 hc h
  have hf := h.f
  have hm := h.mono
  have hs : pP s → _ := fun q => h.s (s := s) q
  refine x171 (by omega) hi h.rl (fun p => ?_) (fun p => ?_)
  all_goals refine ⟨_, rfl, m291 (by omega) h.mr (fun q => ?_) (fun q => ?_)⟩
  · rcases hs q.1 with r | r | r
    · exfalso; omega
    · exfalso; omega
    · refine ⟨lg_c ?_, hm, rfl⟩
      rw [r.2.2.2.2.2 i (by omega) (by omega), Int.mul_comm]
  · rcases hs p.1.1 with r | r | r <;> (exfalso; omega)
  · rcases hs q.1 with r | r | r <;> (exfalso; omega)
  · exact ⟨rfl, hm, rfl⟩
theorem op38 {s b : Int} : OpI 168 286 [nt s, nt b] := by
  intro c I hc0 hc h
  have hf := h.f
  have hm := h.mono
  obtain ⟨ln, hC, hM⟩ := h
  have key : pP s → (b = -1 ∨ (0 ≤ b ∧ b < I 44 2)) → ∀ x : Int, (b = -1 → x = 0) → (0 ≤ b → x = 1) → ∀ I1, I1 = upd_ (upd_ I 48 s x) 49 s b → EvM 799 286 [rf 53, nt s, nt b] I1 (fun w I2 => w = some (nt 1) ∧ Rel (c + 1) I2 ∧ I2 1000 = I 1000) := by
    intro hs hb x hx0 hx1 I1 hI
    have e : I1 53 44 = I 44 2 := by
      rw [hI]
      simp (disch := omega) only [up_c]
      omega
    refine m286 (by omega) (by omega) (by omega) (fun q => by exfalso; omega) (fun q => ⟨rfl, ⟨ln, ?_, ?_⟩, by rw [hI]; simp (disch := omega) only [up_c]⟩)
    · obtain ⟨a, b', g, d, f, r, l, u, v⟩ := hC
      rw [hI]
      unfold CI
      simp (disch := omega) only [up_c, up_g, fu_eq, fu_ne]
      refine ⟨a, b', g, d, f, fun s' hs' => ?_, l, ⟨u.1, u.2.1, by omega⟩, v⟩
      by_cases hj : s' = s
      · subst hj; rw [fu_eq, fu_eq]; omega
      · rw [fu_ne hj, fu_ne hj]; exact r s' hs'
    · obtain ⟨a, b', g, d, f, r, l⟩ := hM
      rw [hI]
      unfold MR_
      simp (disch := omega) only [up_c, up_g, fu_eq, fu_ne]
      refine ⟨a, b', g, d, f, fun s' hs' => ?_, l⟩
      by_cases hj : s' = s
      · subst hj; rw [fu_eq, fu_eq, fu_eq, fu_eq]; exact ⟨fun q => by omega, fun q => rfl, fun q => by exfalso; omega, fun q => by exfalso; omega⟩
      · rw [fu_ne hj, fu_ne hj, fu_ne hj, fu_ne hj]; exact r s' hs'
  refine x168 (by omega) (fun p => ?_) (fun p => ?_) (fun p => ?_)
  · exact ⟨_, rfl, m286 (by omega) (by omega) (by omega) (fun q => ⟨rfl, hm, rfl⟩) (fun q => by exfalso; omega)⟩
  · exact ⟨_, rfl, key p.1 (Or.inl p.2) 0 (fun _ => rfl) (fun q => by omega) _ rfl⟩
  · exact ⟨_, rfl, key p.1 (Or.inr p.2) 1 (fun q => by omega) (fun _ => rfl) _ rfl⟩
theorem i2b_bd (v : Int) : -128 ≤ i2b_ v ∧ i2b_ v ≤ 127 := by
  unfold i2b_
  rw [Int8.toInt_toInt32]
  have h1 := Int8.le_toInt (Int32.ofInt v).toInt8
  have h2 := Int8.toInt_lt (Int32.ofInt v).toInt8
  omega
theorem op40 {s i v : Int} (hi : i ≤ 2147483647) : OpI 170 290 [nt s, nt i, lg v] := by
  intro c I hc0 hc h
  have hf := h.f
  have hm := h.mono
  have hs : pP s → _ := fun q => h.s (s := s) q
  have hrl := h.rl
  have hmr := h.mr
  refine x170 (by omega) hi hrl (fun p => ?_) (fun p => ?_) (fun p => ?_) (fun p => ?_) (fun p => ?_)
  · exact ⟨_, rfl, m290 (by omega) hmr (fun q => ⟨rfl, hm, rfl⟩) (fun q => by exfalso; omega) (fun q => by exfalso; omega) (fun q => by exfalso; omega) (fun q => by exfalso; omega)⟩
  · have r := hs p.1
    exact ⟨_, rfl, m290 (by omega) hmr (fun q => by exfalso; omega) (fun q => ⟨rfl, hm, rfl⟩) (fun q => by exfalso; omega) (fun q => by exfalso; omega) (fun q => by exfalso; omega)⟩
  · have r := hs p.1
    exact ⟨_, rfl, m290 (by omega) hmr (fun q => by exfalso; omega) (fun q => by exfalso; omega) (fun q => ⟨rfl, hm, rfl⟩) (fun q => by exfalso; omega) (fun q => by exfalso; omega)⟩
  · rcases hs p.1.1 with r | r | r
    · exfalso; omega
    · exfalso; omega
    have e : ∀ J : ME, J = upd_ I 52 (s * 60 + i) (kpt (I 50 s) v) → J 76 = I 76 ∧ J 77 = I 77 := fun J hJ => by
      rw [hJ]
      exact ⟨by simp (disch := omega) only [up_c], by simp (disch := omega) only [up_c]⟩
    have e := e _ rfl
    refine ⟨_, rfl, m290 (by omega) (by rw [e.1, e.2]; exact hmr) (fun q => ?_) (fun q => ?_) (fun q => ?_) (fun q => ⟨rfl, ?_, by simp (disch := omega) only [up_c]⟩) (fun q => ?_)⟩
    · exfalso; omega
    · rw [e.1] at q; exfalso; omega
    · rw [e.1] at q; exfalso; omega
    · obtain ⟨ln, hC, hM⟩ := h
      refine ⟨ln, ?_, ?_⟩
      · obtain ⟨a, b', g, d, f, r, l, u, w⟩ := hC
        unfold CI
        simp (disch := omega) only [up_c, up_g, fu_eq, fu_ne]
        exact ⟨a, b', g, d, f, r, l, ⟨u.1, u.2.1, by omega⟩, w⟩
      · obtain ⟨a, b', g, d, f, r', l⟩ := hM
        unfold MR_
        rw [e.1]
        simp (disch := omega) only [up_c, up_g, fu_eq, fu_ne]
        refine ⟨a, b', g, d, f, fun s' hs' => ?_, l⟩
        obtain ⟨r1, r2, r3, r7⟩ := r' s' hs'
        refine ⟨r1, r2, fun q2 => ?_, fun q2 q3 j j0 j1 => ?_⟩
        rotate_left
        · by_cases hj : 60 * s' + j = s * 60 + i
          · rw [hj, fu_eq, show s = s' by omega, q3]; exact i2b_bd _
          · rw [fu_ne hj]; exact r7 q2 q3 j j0 j1
        obtain ⟨r4, r5, r6⟩ := r3 q2
        refine ⟨r4, r5, fun j j0 j1 => ?_⟩
        by_cases hj : 60 * s' + j = 60 * s + i
        · rw [hj, fu_eq, show 60 * s + i = s * 60 + i by omega, fu_eq, show I 76 s - 50 = I 50 s by omega]
        · rw [fu_ne hj, fu_ne (by omega)]; exact r6 j j0 j1
    · rw [e.1, e.2] at q; exfalso; omega
  · have r := hs p.1.1
    exact ⟨_, rfl, m290 (by omega) hmr (fun q => by exfalso; omega) (fun q => by exfalso; omega) (fun q => by exfalso; omega) (fun q => by exfalso; omega) (fun q => ⟨rfl, hm, rfl⟩)⟩
