/-! CHANGES: mend, undo, redo, both sides -/

theorem anI {a b c : Prop} (h : a ∧ b) (k : c) : (a ∧ b) ∧ c := ⟨h, k⟩
theorem nzI {a c : Prop} (h : ¬ a) (k : c) : ¬ a ∧ c := ⟨h, k⟩
def tvC (I : ME) (n w : Int) : Int := if w = 0 then I 2 (8 * (n / 10) + n % 10) else if w = 1 then I 3 n else if w = 2 then I 4 n else I 5 n
theorem x59T {d : Nat} {n w : Int} {I : ME} {Q : Option MV → ME → Prop} (hd : 3 ≤ d) (hn : n ≤ 2147483647) (hz : I 1 5 ≤ 12) (ht : tlC I n w) (h : Q (some (nt (tvC I n w))) I) : EvM d 59 [rf 1, nt n, nt w] I Q := by
  unfold tvC at h
  refine x59 hd hn hz (fun q => ?_) (fun q => ?_) (fun q => ?_) (fun q => ?_) (fun q => absurd ht q)
  · rw [if_pos q.2] at h; exact h
  · rw [if_neg (by omega), if_pos q.2] at h; exact h
  · rw [if_neg (by omega), if_neg (by omega), if_pos q.2] at h; exact h
  · rw [if_neg (by omega), if_neg (by omega), if_neg (by omega)] at h; exact h
theorem x132 {d : Nat} {n w v : Int} {I : ME} {Q : Option MV → ME → Prop} (hd : 4 ≤ d) (hn : n ≤ 2147483647) (hz : I 1 5 ≤ 12) (h8 : 0 ≤ I 1 8 ∧ I 1 8 ≤ 1000) (h9 : 0 ≤ I 39 5 ∧ I 39 5 ≤ 40)
    (h1 : ¬ (tlC I n w ∧ alC w v) → Q (some (nt (-2000000000))) I) (h2 : tlC I n w → alC w v → tvC I n w = v → Q (some (nt v)) I)
    (h3 : tlC I n w → alC w v → tvC I n w ≠ v → ∀ I1 I2, TL I n w v I1 → CHP I1 n w (tvC I n w) v I2 → Q (some (nt (tvC I n w))) I2) : EvM d 132 [rf 0, nt n, nt w, nt v] I Q := by
  refine EvM.go [] (T := T_132) rfl rfl rfl rfl ?_
  conv => whnf
  refine ⟨by omega, x57 (by omega) hn (fun p => ?_) (fun p => ?_)⟩ <;> conv => whnf
  · refine ⟨by omega, x58 (by omega) (fun q => ?_) (fun q => ?_)⟩ <;> conv => whnf
    · refine ⟨by omega, x59T (by omega) hn hz p ?_⟩
      conv => whnf
      refine brI (fun e => ?_) (fun e => ?_) <;> conv => whnf
      · refine ⟨trivial, ?_⟩
        have := h2 p q e
        rw [e]
        exact this
      · refine ⟨by omega, x60T (by omega) hn hz h8 p (fun I1 t => ?_)⟩
        conv => whnf
        have e5 : I1 39 5 = I 39 5 := by rw [t.2.2.2.2.2.2 39 (by decide)]
        refine ⟨by omega, x14 (by omega) (by omega) (fun I2 t2 => ?_)⟩
        conv => whnf
        exact ⟨trivial, h3 p q e I1 I2 t t2⟩
    · exact ⟨trivial, h1 (fun r => q r.2)⟩
  · exact ⟨trivial, h1 (fun r => p r.1)⟩
theorem x16 {d : Nat} {I : ME} {Q : Option MV → ME → Prop} (hd : 4 ≤ d) (hz : I 1 5 ≤ 12) (h8 : 0 ≤ I 1 8 ∧ I 1 8 ≤ 1000) (h9 : 0 ≤ I 39 5 ∧ I 39 5 ≤ 40) (hok : ∀ i, 0 ≤ i → i < I 39 5 → I 40 i ≤ 2147483647 ∧ tlC I (I 40 i) (I 41 i))
    (h0 : I 39 5 = 0 → Q (some (nt (-5))) I) (h1 : I 39 5 ≠ 0 → ∀ I1, TL (upd_ I 39 5 (I 39 5 - 1)) (I 40 (I 39 5 - 1)) (I 41 (I 39 5 - 1)) (I 42 (I 39 5 - 1)) I1 → Q (some (nt (I 39 5 - 1))) I1) : EvM d 16 [rf 39] I Q := by
  refine EvM.go [] (T := T_16) rfl rfl rfl rfl ?_
  conv => whnf
  refine brI (fun e => ?_) (fun e => ?_) <;> conv => whnf
  · exact ⟨trivial, h0 e⟩
  · have hk := hok (I 39 5 - 1) (by omega) (by omega)
    simp (disch := omega) only [up_eq, up_c, isb_e]
    refine ⟨by omega, ?_⟩
    conv => whnf
    simp (disch := omega) only [up_eq, up_c, isb_e]
    refine ⟨by omega, ?_⟩
    conv => whnf
    simp (disch := omega) only [up_eq, up_c, isb_e]
    refine ⟨by omega, ?_⟩
    conv => whnf
    refine ⟨by omega, x60T (by omega) hk.1 ?_ ?_ ?_ (fun I1 t => ?_)⟩
    · rw [up_c (by decide)]; exact hz
    · rw [up_c (by decide)]; exact h8
    · unfold tlC tkC; rw [up_c (by decide)]; exact hk.2
    · conv => whnf
      have e5 : I1 39 5 = I 39 5 - 1 := by rw [t.2.2.2.2.2.2 39 (by decide), up_eq]
      rw [e5]
      exact ⟨trivial, h1 e I1 t⟩
theorem x17 {d : Nat} {I : ME} {Q : Option MV → ME → Prop} (hd : 4 ≤ d) (hz : I 1 5 ≤ 12) (h8 : 0 ≤ I 1 8 ∧ I 1 8 ≤ 1000) (h9 : 0 ≤ I 39 5 ∧ I 39 5 ≤ I 39 6 ∧ I 39 6 ≤ 40) (hok : ∀ i, 0 ≤ i → i < I 39 6 → I 40 i ≤ 2147483647 ∧ tlC I (I 40 i) (I 41 i))
    (h0 : I 39 5 = I 39 6 → Q (some (nt (-5))) I) (h1 : I 39 5 ≠ I 39 6 → ∀ I1, TL I (I 40 (I 39 5)) (I 41 (I 39 5)) (I 43 (I 39 5)) I1 → Q (some (nt (I 39 6 - (I 39 5 + 1)))) (upd_ I1 39 5 (I 39 5 + 1))) : EvM d 17 [rf 39] I Q := by
  refine EvM.go [] (T := T_17) rfl rfl rfl rfl ?_
  conv => whnf
  refine brI (fun e => ?_) (fun e => ?_) <;> conv => whnf
  · exact ⟨trivial, h0 e⟩
  · have hk := hok (I 39 5) (by omega) (by omega)
    refine ⟨by omega, ?_⟩
    conv => whnf
    refine ⟨by omega, ?_⟩
    conv => whnf
    refine ⟨by omega, ?_⟩
    conv => whnf
    refine ⟨by omega, x60T (by omega) hk.1 hz h8 hk.2 (fun I1 t => ?_)⟩
    conv => whnf
    have e5 : I1 39 = I 39 := t.2.2.2.2.2.2 39 (by decide)
    rw [e5]
    simp (disch := omega) only [up_eq, up_ne, iad_e, isb_e]
    rw [e5]
    rw [isb_e (by omega)]
    exact ⟨trivial, h1 e I1 t⟩
theorem x163 {d : Nat} {I : ME} {Q : Option MV → ME → Prop} (hd : 1 ≤ d) (h : EvM (d - 1) 16 [rf 39] I (fun v I' => ∃ a, v = some (nt a) ∧ Q v I')) : EvM d 163 [rf 0] I Q := by
  refine EvM.go [] (T := T_163) rfl rfl rfl rfl ?_
  conv => whnf
  refine ⟨by omega, h.mono fun v I' q => ?_⟩
  obtain ⟨a, rfl, q⟩ := q
  conv => whnf
  exact ⟨trivial, q⟩
theorem x164 {d : Nat} {I : ME} {Q : Option MV → ME → Prop} (hd : 1 ≤ d) (h : EvM (d - 1) 17 [rf 39] I (fun v I' => ∃ a, v = some (nt a) ∧ Q v I')) : EvM d 164 [rf 0] I Q := by
  refine EvM.go [] (T := T_164) rfl rfl rfl rfl ?_
  conv => whnf
  refine ⟨by omega, h.mono fun v I' q => ?_⟩
  obtain ⟨a, rfl, q⟩ := q
  conv => whnf
  exact ⟨trivial, q⟩
theorem shn_0 (f : gF) : shn f 0 = f := by
  funext i; unfold shn; rw [if_neg (by omega)]
theorem shn_s {f : gF} {i : Int} (h : 0 ≤ i) : fu (shn f i) i (shn f i (i + 1)) = shn f (i + 1) := by
  funext j
  unfold fu shn
  by_cases hj : j = i
  · rw [if_pos hj, if_neg (by omega), if_pos (by omega), hj]
  · rw [if_neg hj]
    by_cases h2 : 0 ≤ j ∧ j < i
    · rw [if_pos h2, if_pos (by omega)]
    · rw [if_neg h2, if_neg (by omega)]
/-- the model keeps a change -/
def BEC (I : ME) (p v : Int) (I' : ME) : Prop :=
  I' 53 5 = chS (I 53 5) + 1 ∧ I' 53 4 = chS (I 53 5) + 1 ∧ I' 55 = fu (chF (I 53 5) (I 55)) (chS (I 53 5)) p ∧ I' 56 = fu (chF (I 53 5) (I 56)) (chS (I 53 5)) (I 54 p) ∧
  I' 57 = fu (chF (I 53 5) (I 57)) (chS (I 53 5)) v ∧ I' 54 = fu (I 54) p v ∧ (∀ j, j ≠ 4 → j ≠ 5 → I' 53 j = I 53 j) ∧ Fr [53, 54, 55, 56, 57] I I'
theorem m191 {d : Nat} {p v : Int} {I : ME} {Q : Option MV → ME → Prop} (hp : 0 ≤ p ∧ p < 84) (h5 : 0 ≤ I 53 5 ∧ I 53 5 ≤ 40)
    (h0 : I 54 p = v → Q (some (nt v)) I) (h1 : I 54 p ≠ v → ∀ I', BEC I p v I' → Q (some (nt (I 54 p))) I') : EvM d 191 [rf 53, nt p, nt v] I Q := by
  refine EvM.go [26] (T := T_191) rfl rfl rfl rfl ?_
  conv => whnf
  refine ⟨by omega, ?_⟩
  conv => whnf
  refine brI (fun e => ?_) (fun e => ?_) <;> conv => whnf
  · have := h0 e
    rw [e]
    exact ⟨trivial, this⟩
  · refine brI (fun hq => ?_) (fun hq => ?_) <;> conv => whnf
    · refine ⟨trivial, ?_⟩
      refine Ev.upP 39 (fun i ls J => ls = [some (rf 53), some (nt p), some (nt v), some (nt (I 54 p)), some (nt ((i : Int) + 1))] ∧ J 55 = shn (I 55) i ∧ J 56 = shn (I 56) i ∧ J 57 = shn (I 57) i ∧ Fr [55, 56, 57] I J) ?_ ?_ 0 _ _ (by omega) ⟨rfl, ?_, ?_, ?_, Fr.rfl'⟩
      · intro i ls J hi hP hn
        obtain ⟨rfl, a, b, c, hF⟩ := hP
        refine Ev.go [26] (T := T_191) rfl rfl ?_
        conv => whnf
        refine brI (fun _ => ?_) (fun _ => ?_) <;> conv => whnf
        · repeat' first
            | (simp (disch := omega) only [up_c, isb_e, iad_e, Int.add_sub_cancel])
            | (refine anI (by omega) ?_; conv => whnf)
          refine ⟨trivial, Ev.to ?_ rfl (hn [some (rf 53), some (nt p), some (nt v), some (nt (I 54 p)), some (nt ((i + 1 : Nat) + 1 : Int))] _ ⟨rfl, ?_, ?_, ?_, ?_⟩)⟩
          · rfl
          · simp (disch := omega) only [up_c, up_g]; rw [a]; exact shn_s (by omega)
          · simp (disch := omega) only [up_c, up_g]; rw [b]; exact shn_s (by omega)
          · simp (disch := omega) only [up_c, up_g]; rw [c]; exact shn_s (by omega)
          · exact fr_up (fr_up (fr_up hF (by decide)) (by decide)) (by decide)
        · exfalso; omega
      · intro ls J hP
        obtain ⟨rfl, a, b, c, hF⟩ := hP
        have e3 : J 53 = I 53 := hF 53 (by decide)
        have e4 : J 54 = I 54 := hF 54 (by decide)
        refine Ev.go [26] (T := T_191) rfl rfl ?_
        conv => whnf
        rw [e3]
        repeat' first
          | (simp (disch := omega) only [up_c, up_eq, up_ne, isb_e, iad_e])
          | (refine ⟨by first | exact trivial | omega, ?_⟩; conv => whnf)
        refine h1 e _ ⟨?_, ?_, ?_, ?_, ?_, ?_, fun j j4 j5 => ?_, ?_⟩
        · simp (disch := omega) only [up_c, up_eq, up_ne]; unfold chS; rw [if_pos hq]; omega
        · simp (disch := omega) only [up_c, up_eq, up_ne]; unfold chS; rw [if_pos hq]; omega
        · simp (disch := omega) only [up_c, up_g, up_eq, up_ne]; unfold chS chF; rw [if_pos hq, if_pos hq, hq, a]; rfl
        · simp (disch := omega) only [up_c, up_g, up_eq, up_ne]; unfold chS chF; rw [if_pos hq, if_pos hq, hq, b]; rfl
        · simp (disch := omega) only [up_c, up_g, up_eq, up_ne]; unfold chS chF; rw [if_pos hq, if_pos hq, hq, c]; rfl
        · simp (disch := omega) only [up_c, up_g, up_eq, up_ne]; rw [e4]
        · simp (disch := omega) only [up_c, up_eq, up_ne]; rw [e3]
        · have hF2 : Fr [53, 54, 55, 56, 57] I J := fun c' hc' => hF c' (fun q => hc' (by simp at q ⊢; omega))
          repeat' first | exact hF2 | refine fr_up ?_ (by decide)
      · rw [show ((0 : Nat) : Int) = 0 from rfl, shn_0]
      · rw [show ((0 : Nat) : Int) = 0 from rfl, shn_0]
      · rw [show ((0 : Nat) : Int) = 0 from rfl, shn_0]
    · repeat' first
        | (simp (disch := omega) only [up_c, up_eq, up_ne, isb_e, iad_e])
        | (refine ⟨by first | exact trivial | omega, ?_⟩; conv => whnf)
      refine h1 e _ ⟨?_, ?_, ?_, ?_, ?_, ?_, fun j j4 j5 => ?_, ?_⟩
      · simp (disch := omega) only [up_c, up_eq, up_ne]; unfold chS; rw [if_neg hq]
      · simp (disch := omega) only [up_c, up_eq, up_ne]; unfold chS; rw [if_neg hq]
      · simp (disch := omega) only [up_c, up_g, up_eq, up_ne]; unfold chS chF; rw [if_neg hq, if_neg hq]
      · simp (disch := omega) only [up_c, up_g, up_eq, up_ne]; unfold chS chF; rw [if_neg hq, if_neg hq]
      · simp (disch := omega) only [up_c, up_g, up_eq, up_ne]; unfold chS chF; rw [if_neg hq, if_neg hq]
      · simp (disch := omega) only [up_c, up_g, up_eq, up_ne]
      · simp (disch := omega) only [up_c, up_eq, up_ne]
      · repeat' first | exact Fr.rfl' | refine fr_up ?_ (by decide)

theorem m207 {d : Nat} {n w v : Int} {I : ME} {Q : Option MV → ME → Prop} (hd : 4 ≤ d) (hn : n ≤ 2147483647) (h6 : -1 ≤ I 53 6) (h7 : I 53 6 ≤ 12) (h5 : 0 ≤ I 53 5 ∧ I 53 5 ≤ 40)
    (h1 : ¬ (((w = 0 ∧ lvC n) ∨ ((1 ≤ w ∧ w ≤ 3) ∧ tkM I n)) ∧ alC w v) → Q (some (nt (-2000000000))) I)
    (h2 : ((w = 0 ∧ lvC n) ∨ ((1 ≤ w ∧ w ≤ 3) ∧ tkM I n)) → alC w v → I 54 (plM n w) = v → Q (some (nt v)) I)
    (h3 : ((w = 0 ∧ lvC n) ∨ ((1 ≤ w ∧ w ≤ 3) ∧ tkM I n)) → alC w v → I 54 (plM n w) ≠ v → ∀ I', BEC I (plM n w) v I' → Q (some (nt (I 54 (plM n w)))) I') : EvM d 207 [rf 53, nt n, nt w, nt v] I Q := by
  have key : ∀ p : Int, p = plM n w → 0 ≤ p → p < 84 → ((w = 0 ∧ lvC n) ∨ ((1 ≤ w ∧ w ≤ 3) ∧ tkM I n)) → Ev d 207 13 [some (rf 53), some (nt n), some (nt w), some (nt v), some (nt p)] [] I Q := by
    intro p hp p0 p1 ht
    refine Ev.go [] (T := T_207) rfl rfl ?_
    conv => whnf
    refine ⟨by omega, m206 (by omega) (fun q => ?_) (fun q => ?_)⟩ <;> conv => whnf
    · refine ⟨by omega, m191 ⟨p0, p1⟩ h5 (fun e => ?_) (fun e I' hB => ?_)⟩ <;> conv => whnf
      · rw [hp] at e
        exact ⟨trivial, h2 ht (by omega) e⟩
      · rw [hp] at e hB ⊢
        exact ⟨trivial, h3 ht (by omega) e I' hB⟩
    · exact ⟨trivial, h1 (fun r => q (by omega))⟩
  refine EvM.go [13] (T := T_207) rfl rfl rfl rfl ?_
  conv => whnf
  refine ⟨by omega, m205 (by omega) hn h6 h7 (fun p => ?_) (fun p => ?_) (fun p => ?_)⟩ <;> conv => whnf
  · refine brI (fun _ => by exfalso; omega) (fun _ => ?_)
    conv => whnf
    exact ⟨trivial, key _ (by unfold plM; rw [if_pos p.1]) (by omega) (by omega) (Or.inl p)⟩
  · refine brI (fun _ => by exfalso; omega) (fun _ => ?_)
    conv => whnf
    exact ⟨trivial, key _ (by unfold plM; rw [if_neg (by omega)]) (by omega) (by omega) (Or.inr p)⟩
  · exact ⟨trivial, h1 (fun r => by omega)⟩
