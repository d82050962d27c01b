/-! OPERATION 5: the law -/
theorem Rel.law {c : Int} {I I2 : ME} {ln ln' : lz_L} (hC : CI ln c I) (hM : MR_ ln I I) (e : ∀ x, x ∉ [7, 8, 9, 10, 14, 53, 60] → I2 x = I x) (m : ∀ j, j ≠ 11 → j ≠ 13 → (j < 14 ∨ 18 < j) → I2 53 j = I 53 j) (t1 : I2 14 2 = 0) (t2 : I2 53 11 = 0) (hL : cL ln' (I2 7 4) (I2 7 5) (I2 8) (I2 9) (I2 10)) (h9 : (I2 7 9 = I 7 9 ∧ ln' = ln) ∨ I2 7 9 = I 7 9 + 1) (hmL : mL ln' (I2 53 13) (I2 60)) : Rel (c + 1) I2 := by
  refine ⟨ln', ?_, ?_⟩
  · obtain ⟨a, b, g, d, f, r, l, u, v⟩ := hC
    unfold CI
    simp only [e 1 (by decide), e 2 (by decide), e 3 (by decide), e 4 (by decide), e 5 (by decide), e 6 (by decide), e 13 (by decide), e 15 (by decide), e 34 (by decide), e 35 (by decide), e 36 (by decide), e 37 (by decide), e 38 (by decide), e 39 (by decide), e 40 (by decide), e 41 (by decide), e 42 (by decide), e 43 (by decide), e 44 (by decide), e 45 (by decide), e 46 (by decide), e 48 (by decide), e 49 (by decide), e 50 (by decide), e 51 (by decide), e 52 (by decide), e 54 (by decide), e 55 (by decide), e 56 (by decide), e 57 (by decide), e 58 (by decide), e 59 (by decide), e 69 (by decide), e 70 (by decide), e 71 (by decide), e 72 (by decide), e 73 (by decide), e 74 (by decide), e 75 (by decide), e 76 (by decide), e 77 (by decide), e 78 (by decide), t1]
    refine ⟨a, ⟨⟨by decide, by decide⟩, fun j h0 h1 => by omega⟩, g, d, f, r, hL, ⟨by omega, u.2.1, by omega⟩, ?_⟩
    rcases h9 with ⟨h9, rfl⟩ | h9
    · rw [h9]; exact v
    · rw [h9, show I 7 9 + 1 + I 1 8 = I 7 9 + I 1 8 + 1 by omega]; exact cK_up v
  · obtain ⟨a, b, g, d, f, r, l⟩ := hM
    unfold MR_
    simp only [e 1 (by decide), e 2 (by decide), e 3 (by decide), e 4 (by decide), e 5 (by decide), e 6 (by decide), e 13 (by decide), e 15 (by decide), e 34 (by decide), e 35 (by decide), e 36 (by decide), e 37 (by decide), e 38 (by decide), e 39 (by decide), e 40 (by decide), e 41 (by decide), e 42 (by decide), e 43 (by decide), e 44 (by decide), e 45 (by decide), e 46 (by decide), e 48 (by decide), e 49 (by decide), e 50 (by decide), e 51 (by decide), e 52 (by decide), e 54 (by decide), e 55 (by decide), e 56 (by decide), e 57 (by decide), e 58 (by decide), e 59 (by decide), e 69 (by decide), e 70 (by decide), e 71 (by decide), e 72 (by decide), e 73 (by decide), e 74 (by decide), e 75 (by decide), e 76 (by decide), e 77 (by decide), e 78 (by decide), m 4 (by decide) (by decide) (by decide), m 5 (by decide) (by decide) (by decide), m 6 (by decide) (by decide) (by decide), m 7 (by decide) (by decide) (by decide), m 8 (by decide) (by decide) (by decide), m 32 (by decide) (by decide) (by decide), m 33 (by decide) (by decide) (by decide), m 34 (by decide) (by decide) (by decide), m 36 (by decide) (by decide) (by decide), m 37 (by decide) (by decide) (by decide), m 38 (by decide) (by decide) (by decide), m 39 (by decide) (by decide) (by decide), m 44 (by decide) (by decide) (by decide), m 47 (by decide) (by decide) (by decide), t1, t2]
    exact ⟨a, ⟨rfl, fun j h0 h1 => by omega⟩, g, d, f, r, hmL⟩
theorem op5 : OpI 135 221 [] := by
  intro c I hc0 hc h
  have hf := h.f
  obtain ⟨ln, hC, hM⟩ := h
  obtain ⟨n, hn⟩ : ∃ n : Nat, I 14 2 = (n : Int) := ⟨(I 14 2).toNat, by omega⟩
  have hB : rdB (fun j => I 15 (j : Int)) n I := ⟨hn, by omega, fun j hj => ⟨rfl, hC.2.1.2 (j : Int) (by omega) (by omega)⟩⟩
  have hu := hC.2.2.2.2.2.2.2.1
  have hlb : lz_by (fun j => I 15 (j : Int)) n = lz_by (fun j => I 15 (j : Int)) n := rfl
  refine (x135 (d := 795) (by decide) hB (by omega) (by omega)).mono fun v I1 hv => ?_
  have hm59 : ∀ j : Nat, j < n → I 59 (j : Int) = I 15 (j : Int) := fun j hj => hM.2.1.2 (j : Int) (by omega) (by omega)
  have e11 : I 53 11 = (n : Int) := by omega
  cases ht : (lz_T (fun j => I 15 (j : Int)) n).1 with
  | false =>
    obtain ⟨rfl, hF, h2⟩ := hv.1 ht
    refine ⟨_, rfl, (m221 (d := 798) (b := fun j => I 15 (j : Int)) (n := n) (by decide) (by rw [hF 53 (by decide)]; exact e11) (by omega) (fun j hj => by rw [hF 59 (by decide)]; exact hm59 j hj)).mono fun w I2 hw => ?_⟩
    obtain ⟨rfl, hl, h13, hF2⟩ := hw.1 ht
    have e : ∀ x, x ≠ 14 → x ≠ 53 → I2 x = I x := fun x h1 h2 => (hF2 x (fun z => h2 (List.mem_singleton.mp z))).trans (hF x (fun z => h1 (List.mem_singleton.mp z)))
    refine ⟨rfl, Rel.law (ln' := ln) hC hM (fun x hx => e x (fun z => hx (by rw [z]; decide)) (fun z => hx (by rw [z]; decide))) (fun j j1 j2 j3 => (hl.1 j j1 j2 j3).trans (by rw [hF 53 (by decide)])) ?_ hl.2.2 ?_ ?_ ?_, e 1000 (by decide) (by decide)⟩
    · rw [hF2 14 (by decide)]; exact h2
    · rw [e 7 (by decide) (by decide), e 8 (by decide) (by decide), e 9 (by decide) (by decide), e 10 (by decide) (by decide)]
      exact hC.2.2.2.2.2.2.1
    · exact Or.inl ⟨by rw [e 7 (by decide) (by decide)], rfl⟩
    · rw [h13, e 60 (by decide) (by decide), hF 53 (by decide)]
      exact hM.2.2.2.2.2.2
  | true =>
    obtain ⟨rfl, hT⟩ := hv.2 ht
    have hcL := lawT_cL (b := fun j => I 15 (j : Int)) (by omega) ht hT
    obtain ⟨J2, hF, h4, h5, h9, hK, h2⟩ := hT
    have hR := lnR_F (lz_T (fun j => I 15 (j : Int)) n).2.2 J2
    have e0 : ∀ x, x ∉ [7, 8, 9, 10, 14] → I1 x = I x := fun x hx => by
      rw [hK x (fun z => hx (by rw [List.mem_singleton.mp z]; decide)), hR x (fun z => hx (List.mem_append_left [14] z)), hF x (fun z => hx (by
        rcases List.mem_cons.mp z with z | z
        · rw [z]; decide
        · rw [List.mem_singleton.mp z]; decide))]
    refine ⟨_, rfl, (m221 (d := 798) (b := fun j => I 15 (j : Int)) (n := n) (by decide) (by rw [e0 53 (by decide)]; exact e11) (by omega) (fun j hj => by rw [e0 59 (by decide)]; exact hm59 j hj)).mono fun w I2 hw => ?_⟩
    obtain ⟨rfl, hl, h13, h60⟩ := hw.2 ht
    have e1 : ∀ x, x ≠ 53 → x ≠ 60 → I2 x = I1 x := fun x h1 h2 => hl.2.1 x (fun z => by
      rcases List.mem_cons.mp z with z | z
      · exact h1 z
      · exact h2 (List.mem_singleton.mp z))
    refine ⟨rfl, Rel.law (ln' := (lz_T (fun j => I 15 (j : Int)) n).2.2) hC hM (fun x hx => ?_) (fun j j1 j2 j3 => (hl.1 j j1 j2 j3).trans (by rw [e0 53 (by decide)])) ?_ hl.2.2 ?_ ?_ ?_, ?_⟩
    · rw [e1 x (fun z => hx (by rw [z]; decide)) (fun z => hx (by rw [z]; decide)), e0 x (fun z => hx (List.mem_append_left [53, 60] z))]
    · rw [e1 14 (by decide) (by decide)]; exact h2
    · rw [e1 7 (by decide) (by decide), e1 8 (by decide) (by decide), e1 9 (by decide) (by decide), e1 10 (by decide) (by decide)]
      exact hcL
    · refine Or.inr ?_
      rw [e1 7 (by decide) (by decide), hK 7 (by decide), lnR_79, h9]
    · have eT : lz_T (fun j => I2 60 (j : Int)) n = lz_T (fun j => I 15 (j : Int)) n := lzc_T h60
      exact Or.inr ⟨n, h13, by omega, by rw [eT]; exact ht, by rw [eT]⟩
    · rw [e1 1000 (by decide) (by decide), e0 1000 (by decide)]
