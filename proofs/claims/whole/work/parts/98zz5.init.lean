/-! THE FIRST STATE -/
theorem wrs_ne {c : Nat} : ∀ {L : List (Nat × Int × Int)} {I : ME}, L.all (fun q => !(Nat.beq q.1 c)) = true → wrs L I c = I c
  | [], I, h => rfl
  | (a, i, v) :: t, I, h => by
    rw [List.all_cons, Bool.and_eq_true] at h
    show wrs t (upd_ I a i v) c = I c
    rw [wrs_ne h.2, up_c (fun q => by
      subst q
      have e : Nat.beq c c = true := Nat.beq_refl c
      have := h.1
      rw [e] at this
      cases this)]
theorem wrs_out {c : Nat} {i : Int} : ∀ {L : List (Nat × Int × Int)} {I : ME}, (∀ q ∈ L, q.1 = c → q.2.1 ≠ i) → wrs L I c i = I c i
  | [], I, h => rfl
  | (a, j, v) :: t, I, h => by
    show wrs t (upd_ I a j v) c i = I c i
    rw [wrs_out (L := t) (fun q hq => h q (List.mem_cons_of_mem _ hq))]
    have h1 := h (a, j, v) List.mem_cons_self
    unfold upd_
    rw [if_neg (fun q => h1 q.1.symm q.2.symm)]
theorem wrs_val {c : Nat} {i v : Int} : ∀ {L : List (Nat × Int × Int)} {I : ME}, (∀ q ∈ L, q.1 = c → q.2.2 = v) → ((∃ q ∈ L, q.1 = c ∧ q.2.1 = i) ∨ I c i = v) → wrs L I c i = v
  | [], I, h, h2 => by
    rcases h2 with ⟨q, hq, _⟩ | h2
    · cases hq
    · exact h2
  | (a, j, w) :: t, I, h, h2 => by
    show wrs t (upd_ I a j w) c i = v
    refine wrs_val (L := t) (fun q hq => h q (List.mem_cons_of_mem _ hq)) ?_
    rcases h2 with ⟨q, hq, h3⟩ | h2
    · rcases List.mem_cons.mp hq with rfl | hq
      · refine Or.inr ?_
        have h4 := h _ List.mem_cons_self h3.1
        unfold upd_
        rw [if_pos ⟨h3.1.symm, h3.2.symm⟩]
        exact h4
      · exact Or.inl ⟨q, hq, h3⟩
    · refine Or.inr ?_
      unfold upd_
      split
      · rename_i z
        exact h _ List.mem_cons_self z.1.symm
      · exact h2
def gF0 : gF := fun _ => 0
theorem I1_z (f : gF) {c : Nat} (hA : wA.all (fun q => !(Nat.beq q.1 c)) = true) (hB : wB.all (fun q => !(Nat.beq q.1 c)) = true) (hc : c ≠ 1000) : I1 f c = gF0 := by
  unfold I1
  rw [wrs_ne hB, wrs_ne hA]
  funext j
  unfold iS
  rw [if_neg hc]
  rfl
theorem I1_scr (f : gF) : I1 f 1000 = f := by
  unfold I1
  rw [wrs_ne (by decide +kernel), wrs_ne (by decide +kernel)]
  funext j
  unfold iS
  rw [if_pos rfl]
theorem dec2 : ∀ n, n < 48 → ∃ q ∈ wA, q.1 = 2 ∧ q.2.1 = ((n : Nat) : Int) := by decide +kernel
theorem dec54 : ∀ n, n < 48 → ∃ q ∈ wB, q.1 = 54 ∧ q.2.1 = ((n : Nat) : Int) := by decide +kernel
theorem dec76 : ∀ n, n < 6 → ∃ q ∈ wB, q.1 = 76 ∧ q.2.1 = ((n : Nat) : Int) := by decide +kernel
theorem decv2 : ∀ q ∈ wA, q.1 = 2 → q.2.2 = 10 := by decide +kernel
theorem decv54 : ∀ q ∈ wB, q.1 = 54 → q.2.2 = 10 := by decide +kernel
theorem decv76 : ∀ q ∈ wB, q.1 = 76 → q.2.2 = -1 := by decide +kernel
theorem deco54 : ∀ q ∈ wB, q.1 = 54 → q.2.1 < 48 := by decide +kernel
theorem deco53 : ∀ q ∈ wB, q.1 = 53 → q.2.1 = 13 ∧ q.2.2 = -1 := by decide +kernel
theorem I1_2 (f : gF) {j : Int} (h0 : 0 ≤ j) (h1 : j < 48) : I1 f 2 j = 10 := by
  unfold I1
  rw [wrs_ne (by decide +kernel)]
  obtain ⟨n, rfl⟩ := Int.eq_ofNat_of_zero_le h0
  exact wrs_val decv2 (Or.inl (dec2 n (by omega)))
theorem I1_54 (f : gF) {j : Int} (h0 : 0 ≤ j) (h1 : j < 48) : I1 f 54 j = 10 := by
  obtain ⟨n, rfl⟩ := Int.eq_ofNat_of_zero_le h0
  exact wrs_val decv54 (Or.inl (dec54 n (by omega)))
theorem I1_54o (f : gF) {j : Int} (h1 : 48 ≤ j) : I1 f 54 j = 0 := by
  unfold I1
  rw [wrs_out (fun q hq h => by have := deco54 q hq h; omega), wrs_ne (by decide +kernel)]
  rfl
theorem I1_76 (f : gF) {j : Int} (h0 : 0 ≤ j) (h1 : j < 6) : I1 f 76 j = -1 := by
  obtain ⟨n, rfl⟩ := Int.eq_ofNat_of_zero_le h0
  exact wrs_val decv76 (Or.inl (dec76 n (by omega)))
theorem I1_53 (f : gF) {j : Int} (h : j ≠ 13) : I1 f 53 j = 0 := by
  unfold I1
  rw [wrs_out (fun q hq h2 => by have := (deco53 q hq h2).1; omega), wrs_ne (by decide +kernel)]
  rfl
theorem I1_53n (f : gF) : I1 f 53 13 = -1 := wrs_val (fun q hq h => (deco53 q hq h).2) (Or.inl (by decide +kernel))
theorem dec7 : ∀ q ∈ wA, q.1 = 7 → q.2.1 = 4 ∨ q.2.1 = 5 := by decide +kernel
theorem decv7 : ∀ q ∈ wA, q.1 = 7 → q.2.2 = 1 := by decide +kernel
theorem I1_7 (f : gF) : I1 f 7 4 = 1 ∧ I1 f 7 5 = 1 ∧ I1 f 7 9 = 0 := by
  unfold I1
  rw [wrs_ne (by decide +kernel)]
  refine ⟨wrs_val decv7 (Or.inl (by decide +kernel)), wrs_val decv7 (Or.inl (by decide +kernel)), ?_⟩
  rw [wrs_out (fun q hq h => by have := dec7 q hq h; omega)]
  rfl
theorem I1_8 (f : gF) : I1 f 8 0 = -1 ∧ I1 f 9 0 = 0 ∧ I1 f 10 0 = 1 := by
  unfold I1
  rw [wrs_ne (by decide +kernel), wrs_ne (c := 9) (by decide +kernel), wrs_ne (c := 10) (by decide +kernel)]
  exact ⟨wrs_val (by decide +kernel) (Or.inl (by decide +kernel)), wrs_val (by decide +kernel) (Or.inl (by decide +kernel)), wrs_val (by decide +kernel) (Or.inl (by decide +kernel))⟩
