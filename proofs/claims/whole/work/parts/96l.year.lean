/-! YEARS, AN IMAGE -/
def setM (I : ME) (c : Nat) (g : gF) (n : Int) : ME := fun c' i => if c' = c ∧ 0 ≤ i ∧ i < n then g i else I c' i
def setR (f g : gF) (n : Int) : gF := fun i => if 0 ≤ i ∧ i < n then g i else f i
theorem set_c {I : ME} {c c' : Nat} {g : gF} {n : Int} (h : c' ≠ c) : setM I c g n c' = I c' := by
  funext i; unfold setM; rw [if_neg (fun q => h q.1)]
theorem set_g (I : ME) (c : Nat) (g : gF) (n : Int) : setM I c g n c = setR (I c) g n := by
  funext i
  unfold setM setR
  by_cases h : 0 ≤ i ∧ i < n
  · rw [if_pos ⟨rfl, h⟩, if_pos h]
  · rw [if_neg (fun q => h q.2), if_neg h]
theorem set_0 (I : ME) (c : Nat) (g : gF) : setM I c g 0 = I := by
  funext c' i; unfold setM; rw [if_neg (by omega)]
theorem set_s {I : ME} {c : Nat} {g : gF} {k : Int} (h : 0 ≤ k) : upd_ (setM I c g k) c k (g k) = setM I c g (k + 1) := by
  funext c' i
  unfold upd_ setM
  by_cases h1 : c' = c
  · subst h1
    by_cases h2 : i = k
    · rw [if_pos ⟨rfl, h2⟩, if_pos ⟨rfl, by omega, by omega⟩, h2]
    · rw [if_neg (fun q => h2 q.2)]
      by_cases h3 : 0 ≤ i ∧ i < k
      · rw [if_pos ⟨rfl, h3⟩, if_pos ⟨rfl, by omega, by omega⟩]
      · rw [if_neg (fun q => h3 q.2), if_neg (fun q => h3 ⟨q.2.1, by omega⟩)]
  · rw [if_neg (fun q => h1 q.1), if_neg (fun q => h1 q.1), if_neg (fun q => h1 q.1)]
theorem set_up {I : ME} {c c1 : Nat} {g : gF} {n i v : Int} (h : c1 ≠ c) : upd_ (setM I c g n) c1 i v = setM (upd_ I c1 i v) c g n := by
  funext c' i'
  unfold upd_ setM
  by_cases h1 : c' = c1 ∧ i' = i
  · rw [if_pos h1, if_neg (fun q => h (h1.1.symm.trans q.1))]
    exact (if_pos h1).symm
  · rw [if_neg h1]
    by_cases h2 : c' = c ∧ 0 ≤ i' ∧ i' < n
    · rw [if_pos h2, if_pos h2]
    · rw [if_neg h2, if_neg h2]
      exact (if_neg h1).symm
theorem setR_eq {f g : gF} {n i : Int} (h : 0 ≤ i ∧ i < n) : setR f g n i = g i := if_pos h
theorem setR_ne {f g : gF} {n i : Int} (h : ¬ (0 ≤ i ∧ i < n)) : setR f g n i = f i := if_neg h
theorem full_b {z : Int} (h0 : 0 ≤ z) (h1 : z ≤ 12) : (0 ≤ isb (isl 1 z) 1 ∧ isb (isl 1 z) 1 < 4096) ∧ ∀ u, 0 ≤ u → u < 32 → (hasb (isb (isl 1 z) 1) u ↔ u < z) := by
  have e := isl_nat (k := z.toNat) (by omega)
  rw [show ((z.toNat : Nat) : Int) = z by omega] at e
  have hl : 2 ^ z.toNat ≤ 2 ^ 12 := Nat.pow_le_pow_right (by decide) (by omega)
  have hp := Nat.two_pow_pos z.toNat
  have e2 : isb (isl 1 z) 1 = ((2 ^ z.toNat - 1 : Nat) : Int) := by rw [isb_e (by omega), e]; omega
  refine ⟨by rw [e2]; omega, fun u u0 u1 => ?_⟩
  rw [e2, hb_iff (by omega) (by omega) u0 u1, Int.toNat_natCast, Nat.testBit_two_pow_sub_one, decide_eq_true_eq]
  omega
theorem pcn_add (n S : Nat) : ∀ k, pcn (n + k) S ≤ pcn n S + k
  | 0 => Nat.le_refl _
  | k + 1 => by
    have := pcn_add n S k
    show pcn (n + k) S + (bif S.testBit (n + k) then 1 else 0) ≤ _
    cases S.testBit (n + k)
    · show pcn (n + k) S + 0 ≤ _; omega
    · show pcn (n + k) S + 1 ≤ _; omega
/-- a set with what lies above a place -/
theorem pI_or {s s' m n : Int} (h0 : 0 ≤ s) (h1 : s < 4096) (g0 : 0 ≤ s') (g1 : s' < 4096) (m0 : 0 ≤ m) (mn : m ≤ n) (n1 : n ≤ 12) (hs : ∀ u, 0 ≤ u → u < m → (hasb s' u ↔ hasb s u)) (ht : ∀ u, m ≤ u → u < 12 → ¬ hasb s u) (hn : ∀ u, n ≤ u → u < 12 → ¬ hasb s' u) : pI s' ≤ pI s + (n - m) := by
  unfold pI
  have e1 : pcn 12 s.toNat = pcn m.toNat s.toNat := pcn_top (by omega) (fun i hi hb => by
    have := ht (i : Int) (by omega) (by omega)
    rw [hb_iff (by omega) (by omega) (by omega) (by omega), Int.toNat_natCast] at this
    simpa using this)
  have e2 : pcn 12 s'.toNat = pcn n.toNat s'.toNat := pcn_top (by omega) (fun i hi hb => by
    have := hn (i : Int) (by omega) (by omega)
    rw [hb_iff (by omega) (by omega) (by omega) (by omega), Int.toNat_natCast] at this
    simpa using this)
  have e3 : pcn m.toNat s'.toNat = pcn m.toNat s.toNat := pcn_congr (fun i hi => by
    have := hs (i : Int) (by omega) (by omega)
    rw [hb_iff (by omega) (by omega) (by omega) (by omega), hb_iff (by omega) (by omega) (by omega) (by omega), Int.toNat_natCast] at this
    exact Bool.eq_iff_iff.mpr this)
  have e4 := pcn_add m.toNat s'.toNat (n.toNat - m.toNat)
  rw [show m.toNat + (n.toNat - m.toNat) = n.toNat by omega] at e4
  omega
theorem iro_comm (a b : Int) : iro a b = iro b a := by
  unfold iro
  congr 1
  refine Int32.toBitVec_inj.mp ?_
  rw [Int32.toBitVec_or, Int32.toBitVec_or, BitVec.or_comm]
theorem x21 {d : Nat} {I : ME} {Q : Option MV → ME → Prop} (hd : 1 ≤ d) (h0 : Q (some (nt (iad (I 35 2) 1))) (upd_ (fil (upd_ (upd_ I 1 6 (iro (I 1 6) (isb (isl 1 (I 1 5)) 1))) 1 7 0) 6 0 6 0) 35 2 (iad (I 35 2) 1))) : EvM d 21 [rf 34] I Q := by
  refine EvM.go [] (T := T_21) rfl rfl rfl rfl ?_
  conv => whnf
  repeat' first
    | (simp (disch := omega) only [fil_c, up_c])
    | (refine brI (fun _ => ?_) (fun _ => ?_) <;> conv => whnf)
    | (refine ⟨by omega, x35 ?_⟩ <;> conv => whnf)
    | (refine ⟨by omega, x41 ?_⟩ <;> conv => whnf)
    | (refine ⟨by omega, x309_6 ?_⟩ <;> conv => whnf)
    | (refine ⟨by first | exact trivial | omega, ?_⟩; conv => whnf)
  all_goals first
    | exact h0
    | (have mzf := h0; simp (disch := omega) only [fil_c, up_c] at mzf ⊢; exact mzf)
    | (exfalso; omega)

theorem x159 {d : Nat} {I : ME} {Q : Option MV → ME → Prop} (hd : 2 ≤ d) (h0 : Q (some (nt (iad (I 35 2) 1))) (upd_ (fil (upd_ (upd_ I 1 6 (iro (I 1 6) (isb (isl 1 (I 1 5)) 1))) 1 7 0) 6 0 6 0) 35 2 (iad (I 35 2) 1))) : EvM d 159 [rf 0] I Q := by
  refine EvM.go [] (T := T_159) rfl rfl rfl rfl ?_
  conv => whnf
  repeat' first
    | (refine brI (fun _ => ?_) (fun _ => ?_) <;> conv => whnf)
    | (refine ⟨by omega, x21 (by omega) ?_⟩ <;> conv => whnf)
    | (refine ⟨by first | exact trivial | omega, ?_⟩; conv => whnf)
  all_goals first
    | exact h0
    | (exfalso; omega)

theorem m270 {d : Nat} {I : ME} {Q : Option MV → ME → Prop} (h : Q (some (nt (iad (I 53 34) 1))) (upd_ (setM (upd_ (upd_ I 53 7 (isb (isl 1 (I 53 6)) 1)) 53 8 0) 58 (fun _ => 0) 6) 53 34 (iad (I 53 34) 1))) : EvM d 270 [rf 53] I Q := by
  refine EvM.go [19] (T := T_270) rfl rfl rfl rfl ?_
  conv => whnf
  refine ⟨trivial, Ev.to (ls' := [some (rf 53), some (nt ((0 : Nat) : Int))]) (I' := setM (upd_ (upd_ I 53 7 (isb (isl 1 (I 53 6)) 1)) 53 8 0) 58 (fun _ => 0) ((0 : Nat) : Int)) rfl (by rw [show ((0 : Nat) : Int) = 0 from rfl, set_0]) (Ev.up 6 (fun i => [some (rf 53), some (nt (i : Nat))]) (fun i => setM (upd_ (upd_ I 53 7 (isb (isl 1 (I 53 6)) 1)) 53 8 0) 58 (fun _ => 0) (i : Nat)) ?_ ?_ 0 (by omega))⟩
  · intro i hi ih
    refine Ev.go [19] (T := T_270) rfl rfl ?_
    conv => whnf
    refine brI (fun _ => ?_) (fun _ => by exfalso; omega)
    conv => whnf
    refine anI (by omega) ?_
    conv => whnf
    refine ⟨trivial, Ev.to ?_ ?_ ih⟩
    · rw [iad_e (by omega)]; rfl
    · rw [← show ((i : Int) + 1) = ((i + 1 : Nat) : Int) from rfl, ← set_s (by omega)]
  · refine Ev.go [] (T := T_270) rfl rfl ?_
    conv => whnf
    refine ⟨trivial, ?_⟩
    simp (disch := omega) only [set_c, up_eq, up_ne, up_c]
    exact h
theorem x23 {d : Nat} {I : ME} {Q : Option MV → ME → Prop} (hd : 1 ≤ d) (h0 : Q (some (nt (I 35 2))) (cpyM (cpyM (cpyM (upd_ (upd_ (upd_ (upd_ I 34 3 1) 34 4 (I 1 5)) 34 5 (I 1 6)) 34 6 (I 1 7)) 4 0 36 0 12) 6 0 37 0 6) 35 0 38 0 9)) : EvM d 23 [rf 34] I Q := by
  refine EvM.go [] (T := T_23) rfl rfl rfl rfl ?_
  conv => whnf
  repeat' first
    | (simp (disch := omega) only [cp_c, up_c])
    | (refine brI (fun _ => ?_) (fun _ => ?_) <;> conv => whnf)
    | (refine ⟨by omega, x35 ?_⟩ <;> conv => whnf)
    | (refine ⟨by first | exact trivial | omega, ?_⟩; conv => whnf)
  all_goals first
    | exact h0
    | (have mzf := h0; simp (disch := omega) only [cp_c, up_c] at mzf ⊢; exact mzf)
    | (exfalso; omega)

theorem x161 {d : Nat} {I : ME} {Q : Option MV → ME → Prop} (hd : 2 ≤ d) (h0 : Q (some (nt (I 35 2))) (cpyM (cpyM (cpyM (upd_ (upd_ (upd_ (upd_ I 34 3 1) 34 4 (I 1 5)) 34 5 (I 1 6)) 34 6 (I 1 7)) 4 0 36 0 12) 6 0 37 0 6) 35 0 38 0 9)) : EvM d 161 [rf 0] I Q := by
  refine EvM.go [] (T := T_161) rfl rfl rfl rfl ?_
  conv => whnf
  repeat' first
    | (refine brI (fun _ => ?_) (fun _ => ?_) <;> conv => whnf)
    | (refine ⟨by omega, x23 (by omega) ?_⟩ <;> conv => whnf)
    | (refine ⟨by first | exact trivial | omega, ?_⟩; conv => whnf)
  all_goals first
    | exact h0
    | (exfalso; omega)

/-- the model's image -/
def imB (I : ME) : ME := upd_ (upd_ (upd_ (upd_ I 53 36 1) 53 37 (I 53 6)) 53 38 (I 53 7)) 53 39 (I 53 8)
def imM (I : ME) : ME := setM (setM (setM (setM (imB I) 70 (fun t => I 54 (48 + 3 * t + 1)) (I 53 6)) 71 (I 58) 6) 72 (I 69) 6) 73 (fun k => if k = 0 then I 53 32 else if k = 1 then I 53 33 else I 53 34) 3
theorem m272 {d : Nat} {I : ME} {Q : Option MV → ME → Prop} (hd : 3 ≤ d) (hz : 0 ≤ I 53 6 ∧ I 53 6 ≤ 12) (h : Q (some (nt (I 53 34))) (imM I)) : EvM d 272 [rf 53] I Q := by
  have L3 : ∀ k, k ≤ 3 → Ev d 272 96 [some (rf 53), some (nt ((k : Nat) : Int))] [] (setM (setM (setM (setM (imB I) 70 (fun t => I 54 (48 + 3 * t + 1)) (I 53 6)) 71 (I 58) 6) 72 (I 69) 6) 73 (fun k => if k = 0 then I 53 32 else if k = 1 then I 53 33 else I 53 34) (k : Nat)) Q := by
    intro k hk
    refine Ev.up 3 (fun i => [some (rf 53), some (nt (i : Nat))]) (fun k => setM (setM (setM (setM (imB I) 70 (fun t => I 54 (48 + 3 * t + 1)) (I 53 6)) 71 (I 58) 6) 72 (I 69) 6) 73 (fun k => if k = 0 then I 53 32 else if k = 1 then I 53 33 else I 53 34) (k : Nat)) ?_ ?_ k hk
    · intro i hi ih
      have e53 : ∀ j, j ≠ 36 → j ≠ 37 → j ≠ 38 → j ≠ 39 → (setM (setM (setM (setM (imB I) 70 (fun t => I 54 (48 + 3 * t + 1)) (I 53 6)) 71 (I 58) 6) 72 (I 69) 6) 73 (fun k => if k = 0 then I 53 32 else if k = 1 then I 53 33 else I 53 34) (i : Nat)) 53 j = I 53 j := fun j a b c e => by
        simp (disch := omega) only [set_c]
        unfold imB
        simp (disch := omega) only [up_ne]
      refine Ev.go [96] (T := T_272) rfl rfl ?_
      conv => whnf
      refine brI (fun _ => ?_) (fun _ => by exfalso; omega)
      conv => whnf
      refine ⟨by omega, m271 (by omega) (by omega) (by omega) (fun q => ?_) (fun q => ?_) (fun q => ?_) (fun q => by exfalso; omega) (fun q => by exfalso; omega)⟩ <;> conv => whnf
      all_goals
        refine anI (by omega) ?_
        conv => whnf
        refine ⟨trivial, Ev.to ?_ ?_ ih⟩
      · rw [iad_e (by omega)]; rfl
      · rw [e53 _ (by decide) (by decide) (by decide) (by decide), ← show ((i : Int) + 1) = ((i + 1 : Nat) : Int) from rfl, ← set_s (by omega)]
        simp only [q, if_pos]
      · rw [iad_e (by omega)]; rfl
      · rw [e53 _ (by decide) (by decide) (by decide) (by decide), ← show ((i : Int) + 1) = ((i + 1 : Nat) : Int) from rfl, ← set_s (by omega)]
        simp only [q, if_neg (show ¬ (1 : Int) = 0 by decide), if_pos]
      · rw [iad_e (by omega)]; rfl
      · rw [e53 _ (by decide) (by decide) (by decide) (by decide), ← show ((i : Int) + 1) = ((i + 1 : Nat) : Int) from rfl, ← set_s (by omega)]
        simp only [q, if_neg (show ¬ (2 : Int) = 0 by decide), if_neg (show ¬ (2 : Int) = 1 by decide)]
    · refine Ev.go [] (T := T_272) rfl rfl ?_
      conv => whnf
      refine ⟨trivial, ?_⟩
      simp (disch := omega) only [set_c]
      rw [show imB I 53 34 = I 53 34 by unfold imB; simp (disch := omega) only [up_ne]]
      exact h
  have L2 : ∀ k, k ≤ 6 → Ev d 272 58 [some (rf 53), some (nt ((k : Nat) : Int))] [] (setM (setM (setM (imB I) 70 (fun t => I 54 (48 + 3 * t + 1)) (I 53 6)) 71 (I 58) (k : Nat)) 72 (I 69) (k : Nat)) Q := by
    intro k hk
    refine Ev.up 6 (fun i => [some (rf 53), some (nt (i : Nat))]) (fun k => setM (setM (setM (imB I) 70 (fun t => I 54 (48 + 3 * t + 1)) (I 53 6)) 71 (I 58) (k : Nat)) 72 (I 69) (k : Nat)) ?_ ?_ k hk
    · intro i hi ih
      refine Ev.go [58] (T := T_272) rfl rfl ?_
      conv => whnf
      refine brI (fun _ => ?_) (fun _ => by exfalso; omega)
      conv => whnf
      refine anI (by omega) ?_
      conv => whnf
      refine anI (by omega) ?_
      conv => whnf
      refine anI (by omega) ?_
      conv => whnf
      refine anI (by omega) ?_
      conv => whnf
      refine ⟨trivial, Ev.to ?_ ?_ ih⟩
      · rw [iad_e (by omega)]; rfl
      · have e1 : imB I 58 = I 58 := by unfold imB; simp (disch := omega) only [up_c]
        have e2 : imB I 69 = I 69 := by unfold imB; simp (disch := omega) only [up_c]
        simp (disch := omega) only [set_c, up_c, e1, e2]
        rw [← show ((i : Int) + 1) = ((i + 1 : Nat) : Int) from rfl, set_up (by decide), set_s (by omega), set_s (by omega)]
    · have := L3 0 (by omega)
      rw [show ((0 : Nat) : Int) = 0 from rfl, set_0] at this
      refine Ev.go [96] (T := T_272) rfl rfl ?_
      conv => whnf
      exact ⟨trivial, this⟩
  refine EvM.go [31] (T := T_272) rfl rfl rfl rfl ?_
  conv => whnf
  refine ⟨trivial, Ev.to (ls' := [some (rf 53), some (nt ((0 : Nat) : Int))]) (I' := setM (imB I) 70 (fun t => I 54 (48 + 3 * t + 1)) ((0 : Nat) : Int)) rfl ?_ (Ev.up (I 53 6).toNat (fun i => [some (rf 53), some (nt (i : Nat))]) (fun k => setM (imB I) 70 (fun t => I 54 (48 + 3 * t + 1)) (k : Nat)) ?_ ?_ 0 (by omega))⟩
  · rw [show ((0 : Nat) : Int) = 0 from rfl, set_0]
    unfold imB
    simp (disch := omega) only [up_ne]
  · intro i hi ih
    have e6 : imB I 53 6 = I 53 6 := by unfold imB; simp (disch := omega) only [up_ne]
    have e54 : imB I 54 = I 54 := by unfold imB; simp (disch := omega) only [up_c]
    have es : setM (imB I) 70 (fun t => I 54 (48 + 3 * t + 1)) (i : Nat) 53 6 = I 53 6 := by rw [set_c (by decide), e6]
    refine Ev.go [31] (T := T_272) rfl rfl ?_
    conv => whnf
    refine brI (fun _ => ?_) (fun _ => by exfalso; omega)
    conv => whnf
    refine ⟨by omega, m198 (by omega) (by omega) ?_⟩
    conv => whnf
    refine anI (by omega) ?_
    conv => whnf
    refine ⟨trivial, Ev.to ?_ ?_ ih⟩
    · rw [iad_e (by omega)]; rfl
    · simp (disch := omega) only [set_c, e54]
      rw [← show ((i : Int) + 1) = ((i + 1 : Nat) : Int) from rfl, ← set_s (by omega)]
  · rw [show (((I 53 6).toNat : Nat) : Int) = I 53 6 by omega]
    have e6 : imB I 53 6 = I 53 6 := by unfold imB; simp (disch := omega) only [up_ne]
    have := L2 0 (by omega)
    rw [show ((0 : Nat) : Int) = 0 from rfl, set_0, set_0] at this
    have es : setM (imB I) 70 (fun t => I 54 (48 + 3 * t + 1)) (I 53 6) 53 6 = I 53 6 := by rw [set_c (by decide), e6]
    refine Ev.go [58] (T := T_272) rfl rfl ?_
    conv => whnf
    refine brI (fun _ => by exfalso; omega) (fun _ => ?_)
    conv => whnf
    exact ⟨trivial, this⟩
theorem op29 : OpI 159 270 [] := by
  intro c I hc0 hc h
  have hf := h.f
  obtain ⟨ln, hC, hM⟩ := h
  obtain ⟨⟨b1, b2⟩, b3⟩ := full_b hf.1.1 hf.1.2
  have hin : iro (I 1 6) (isb (isl 1 (I 1 5)) 1) = isb (isl 1 (I 1 5)) 1 := by
    obtain ⟨⟨o1, o2⟩, o3⟩ := iro_b hf.2.1.1 hf.2.1.2 b1 b2
    refine set_ext o1 o2 b1 b2 fun u u0 u1 => ?_
    rw [o3 u u0 (by omega), b3 u u0 (by omega)]
    constructor
    · rintro (q | q)
      · exact Int.not_le.mp fun hq => hC.1.2.1.2.2 u hq u1 q
      · exact q
    · exact Or.inr
  refine x159 (by omega) ⟨_, rfl, m270 ⟨nt_c ?_, ⟨ln, ?_, ?_⟩, ?_⟩⟩
  · simp (disch := omega) only [fil_c, up_c]
    rw [hf.2.2.2.2.2.2.2.2.2.2]
  · obtain ⟨a, b', g, d, f, r, l, u, v⟩ := hC
    unfold CI
    rw [hin]
    simp (disch := omega) only [set_c, fil_c, fil_g, up_c, up_g, fu_eq, fu_ne]
    have hp := pI_top b1 b2 hf.1.1 hf.1.2 (fun u hu h12 q => by have := (b3 u (by omega) (by omega)).mp q; omega)
    obtain ⟨a1, a2, a3, a4, a5, a6⟩ := a
    refine ⟨⟨a1, ⟨b1, b2, fun t ht h12 q => by have := (b3 t (by omega) (by omega)).mp q; omega⟩, by omega, a4, a5, fun p hp => ?_⟩, b', g, d, f, r, l, ⟨u.1, u.2.1, by omega⟩, v⟩
    unfold flr
    rw [if_pos (by omega)]
    omega
  · obtain ⟨a, b', g, d, f, r, l⟩ := hM
    unfold MR_
    rw [hin]
    simp (disch := omega) only [set_c, set_g, fil_c, fil_g, up_c, up_g, fu_eq, fu_ne]
    obtain ⟨a1, a2, a3, a4, a5, a6⟩ := a
    obtain ⟨d1, d2, d3, d4, d5⟩ := d
    refine ⟨⟨a1, by rw [a1], rfl, a4, a5, fun p hp => ?_⟩, b', g, ⟨?_, ?_, ?_, fun p hp => ?_, d5⟩, f, r, l⟩
    · unfold setR flr
      rw [if_pos (by omega), if_pos (by omega)]
    · rw [fu_ne (by decide)]; exact d1
    · rw [fu_ne (by decide)]; exact d2
    · rw [fu_eq, d3]
    · rw [fu_ne (by omega)]; exact d4 p hp
  · simp (disch := omega) only [set_c, fil_c, up_c]
theorem op31 : OpI 161 272 [] := by
  intro c I hc0 hc h
  have hf := h.f
  obtain ⟨ln, hC, hM⟩ := h
  have e : ∀ J : ME, J = cpyM (cpyM (cpyM (upd_ (upd_ (upd_ (upd_ I 34 3 1) 34 4 (I 1 5)) 34 5 (I 1 6)) 34 6 (I 1 7)) 4 0 36 0 12) 6 0 37 0 6) 35 0 38 0 9 → J 53 = I 53 ∧ J 54 = I 54 ∧ J 58 = I 58 ∧ J 69 = I 69 := fun J hJ => by
    rw [hJ]
    exact ⟨by simp (disch := omega) only [cp_c, up_c], by simp (disch := omega) only [cp_c, up_c], by simp (disch := omega) only [cp_c, up_c], by simp (disch := omega) only [cp_c, up_c]⟩
  have e := e _ rfl
  refine x161 (by omega) ⟨_, rfl, m272 (by omega) (by rw [e.1]; omega) ⟨nt_c (by rw [e.1]; omega), ⟨ln, ?_, ?_⟩, ?_⟩⟩
  · obtain ⟨a, b', g, d, f, r, l, u, v⟩ := hC
    unfold CI imM imB
    simp (disch := omega) only [set_c, cp_c, up_c, up_g, fu_eq, fu_ne]
    obtain ⟨a1, a2, a3, a4, a5, a6⟩ := a
    refine ⟨⟨a1, a2, a3, a4, a5, a6⟩, b', g, ⟨Or.inr rfl, fun _ => ⟨⟨a1.1, Int.le_refl _⟩, a2, a3, fun t t0 t1 => ?_, fun p hp => ?_⟩⟩, f, r, l, ⟨u.1, u.2.1, by omega⟩, v⟩
    · rw [cpy_g]
      simp only [if_pos (show 0 ≤ t ∧ t < 0 + 12 by omega)]
      rw [show (0 : Int) + (t - 0) = t by omega]
      exact (a5 t t0 (by omega)).2.1
    · rw [cpy_g]
      simp only [if_pos (show 0 ≤ p ∧ p < 0 + 6 by omega)]
      rw [show (0 : Int) + (p - 0) = p by omega]
      simp (disch := omega) only [cp_c, up_c]
      exact a6 p hp
  · obtain ⟨a, b', g, d, f, r, l⟩ := hM
    unfold MR_ imM imB
    rw [e.1, e.2.1, e.2.2.1, e.2.2.2]
    simp (disch := omega) only [set_c, set_g, cp_c, up_c, up_g, fu_eq, fu_ne]
    obtain ⟨a1, a2, a3, a4, a5, a6⟩ := a
    obtain ⟨d1, d2, d3, d4, d5⟩ := d
    refine ⟨⟨a1, a2, a3, a4, a5, a6⟩, b', g, ⟨d1, d2, d3, d4, rfl, fun _ => ⟨a1, a2, a3, fun t t0 t1 => ?_, fun p hp => ?_, fun p hp => ?_, fun k k0 k1 => ?_⟩⟩, f, r, l⟩
    · rw [setR_eq (by omega), cpy_g]
      simp only [if_pos (show 0 ≤ t ∧ t < 0 + 12 by omega)]
      rw [show (0 : Int) + (t - 0) = t by omega]
      simp (disch := omega) only [cp_c, up_c]
      exact (a5 t t0 (by omega)).2.1
    · rw [setR_eq (by omega), cpy_g]
      simp only [if_pos (show 0 ≤ p ∧ p < 0 + 6 by omega)]
      rw [show (0 : Int) + (p - 0) = p by omega]
      simp (disch := omega) only [cp_c, up_c]
      exact a6 p hp
    · rw [setR_eq (by omega), cpy_g]
      simp only [if_pos (show 0 ≤ 3 + p ∧ 3 + p < 0 + 9 by omega)]
      rw [show (0 : Int) + (3 + p - 0) = 3 + p by omega]
      simp (disch := omega) only [cp_c, up_c]
      exact d4 p hp
    · rw [setR_eq (by omega), cpy_g]
      simp only [if_pos (show 0 ≤ k ∧ k < 0 + 9 by omega)]
      rw [show (0 : Int) + (k - 0) = k by omega]
      simp (disch := omega) only [cp_c, up_c]
      have hk : k = 0 ∨ k = 1 ∨ k = 2 := by omega
      rcases hk with rfl | rfl | rfl
      · rw [if_pos rfl]; exact d1
      · rw [if_neg (by decide), if_pos rfl]; exact d2
      · rw [if_neg (by decide), if_neg (by decide)]; exact d3
  · unfold imM imB
    simp (disch := omega) only [set_c, cp_c, up_c]
