/-! THE FIRST STATE: all holds -/
def ln0 : lz_L := [([], [-1])]
theorem CI_0 (f : gF) : CI ln0 0 (I1 f) := by
  obtain ⟨a1, a2, a3⟩ := I1_7 f
  obtain ⟨b1, b2, b3⟩ := I1_8 f
  have z : ∀ c, wA.all (fun q => !(Nat.beq q.1 c)) = true → wB.all (fun q => !(Nat.beq q.1 c)) = true → c ≠ 1000 → I1 f c = gF0 := fun c h1 h2 h3 => I1_z f h1 h2 h3
  have e0 : ∀ j, gF0 j = 0 := fun _ => rfl
  unfold CI
  rw [z 1 (by decide +kernel) (by decide +kernel) (by decide), z 3 (by decide +kernel) (by decide +kernel) (by decide), z 4 (by decide +kernel) (by decide +kernel) (by decide), z 5 (by decide +kernel) (by decide +kernel) (by decide), z 6 (by decide +kernel) (by decide +kernel) (by decide),
    z 14 (by decide +kernel) (by decide +kernel) (by decide), z 15 (by decide +kernel) (by decide +kernel) (by decide), z 39 (by decide +kernel) (by decide +kernel) (by decide), z 40 (by decide +kernel) (by decide +kernel) (by decide), z 41 (by decide +kernel) (by decide +kernel) (by decide), z 42 (by decide +kernel) (by decide +kernel) (by decide), z 43 (by decide +kernel) (by decide +kernel) (by decide),
    z 34 (by decide +kernel) (by decide +kernel) (by decide), z 36 (by decide +kernel) (by decide +kernel) (by decide), z 37 (by decide +kernel) (by decide +kernel) (by decide), z 44 (by decide +kernel) (by decide +kernel) (by decide), z 45 (by decide +kernel) (by decide +kernel) (by decide), z 48 (by decide +kernel) (by decide +kernel) (by decide), z 49 (by decide +kernel) (by decide +kernel) (by decide), z 50 (by decide +kernel) (by decide +kernel) (by decide), z 51 (by decide +kernel) (by decide +kernel) (by decide), z 13 (by decide +kernel) (by decide +kernel) (by decide), a1, a2, a3]
  simp only [e0]
  refine ⟨⟨by omega, ⟨by omega, by omega, fun t h0 h1 => hb_0 h0 (by omega)⟩, by rw [pI_0]; omega, fun j h0 h1 => by rw [I1_2 f h0 h1]; omega, fun t _ _ => ⟨⟨by rw [e0]; omega, by rw [e0]; omega⟩, Or.inr ⟨by rw [e0]; omega, by rw [e0]; omega⟩, Or.inl rfl⟩, fun p _ => by rw [e0]; omega⟩, ⟨by omega, fun j h0 h1 => by omega⟩, ⟨by omega, fun i h0 h1 => by omega⟩,
    ⟨Or.inl rfl, fun q => by omega⟩, ⟨by omega, by omega, fun i h0 h1 => by omega⟩, fun s _ => Or.inl rfl, ?_, by omega, ?_⟩
  · refine ⟨rfl, by decide, rfl, by decide, fun i hi => ?_, ⟨b2, b3, trivial⟩, by decide, fun nm q hq => ?_⟩
    · have h1 : i < 1 := hi
      have : i = 0 := by omega
      subst this
      show some (I1 f 8 0) = some (-1)
      rw [b1]
    · have e : q = ([], [-1]) := List.mem_singleton.mp hq
      subst e
      exact ⟨⟨_, (lz_V_push (by decide)).mono (by omega)⟩, fun h => absurd rfl h⟩
  · intro k th g d _ _ _ _ _ _
    refine ⟨by rw [e0]; omega, by rw [e0]; omega, fun n h0 h1 h2 => ?_⟩
    rw [e0] at h2
    omega
theorem MR_0 (f : gF) : MR_ ln0 (I1 f) (I1 f) := by
  have z : ∀ c, wA.all (fun q => !(Nat.beq q.1 c)) = true → wB.all (fun q => !(Nat.beq q.1 c)) = true → c ≠ 1000 → I1 f c = gF0 := fun c h1 h2 h3 => I1_z f h1 h2 h3
  have e0 : ∀ j, gF0 j = 0 := fun _ => rfl
  unfold MR_
  rw [z 1 (by decide +kernel) (by decide +kernel) (by decide), z 3 (by decide +kernel) (by decide +kernel) (by decide), z 4 (by decide +kernel) (by decide +kernel) (by decide), z 5 (by decide +kernel) (by decide +kernel) (by decide), z 6 (by decide +kernel) (by decide +kernel) (by decide),
    z 14 (by decide +kernel) (by decide +kernel) (by decide), z 15 (by decide +kernel) (by decide +kernel) (by decide), z 39 (by decide +kernel) (by decide +kernel) (by decide), z 40 (by decide +kernel) (by decide +kernel) (by decide), z 41 (by decide +kernel) (by decide +kernel) (by decide), z 42 (by decide +kernel) (by decide +kernel) (by decide), z 43 (by decide +kernel) (by decide +kernel) (by decide),
    z 34 (by decide +kernel) (by decide +kernel) (by decide), z 36 (by decide +kernel) (by decide +kernel) (by decide), z 37 (by decide +kernel) (by decide +kernel) (by decide), z 44 (by decide +kernel) (by decide +kernel) (by decide), z 45 (by decide +kernel) (by decide +kernel) (by decide), z 48 (by decide +kernel) (by decide +kernel) (by decide), z 49 (by decide +kernel) (by decide +kernel) (by decide), z 50 (by decide +kernel) (by decide +kernel) (by decide), z 51 (by decide +kernel) (by decide +kernel) (by decide)]
  rw [I1_53n f, I1_53 f (j := 6) (by omega), I1_53 f (j := 7) (by omega), I1_53 f (j := 8) (by omega), I1_53 f (j := 11) (by omega), I1_53 f (j := 5) (by omega), I1_53 f (j := 4) (by omega), I1_53 f (j := 32) (by omega), I1_53 f (j := 33) (by omega), I1_53 f (j := 34) (by omega), I1_53 f (j := 36) (by omega), I1_53 f (j := 44) (by omega), I1_53 f (j := 47) (by omega),
    z 35 (by decide +kernel) (by decide +kernel) (by decide), z 58 (by decide +kernel) (by decide +kernel) (by decide), z 69 (by decide +kernel) (by decide +kernel) (by decide)]
  simp only [e0]
  refine ⟨⟨rfl, rfl, rfl, fun j h0 h1 => by rw [I1_2 f h0 h1, I1_54 f h0 h1], fun t h0 h1 => ⟨I1_54o f (by omega), I1_54o f (by omega), I1_54o f (by omega)⟩, fun p _ => rfl⟩, ⟨rfl, fun j h0 h1 => by omega⟩, ⟨rfl, rfl, fun i h0 h1 => by omega⟩,
    ⟨rfl, rfl, rfl, fun p _ => rfl, rfl, fun q => by omega⟩, ⟨rfl, rfl, fun i h0 h1 => by omega, fun i h0 h1 => by omega⟩, fun s hs => ⟨fun _ => I1_76 f hs.1 (by have := hs.2; omega), fun q => by rw [e0] at q; omega, fun q => by rw [e0] at q; omega, fun q => by rw [e0] at q; omega⟩, Or.inl ⟨rfl, rfl⟩⟩
theorem Rel_0 (f : gF) : Rel 0 (I1 f) := ⟨ln0, CI_0 f, MR_0 f⟩
