/-! THE LAW'S LOOP: every operation in one form -/
def OpZ (kx km : Nat) (as : List MV) (T : Int → MV) : Prop := ∀ (c : Int) (I : ME), 0 ≤ c → c < 512 → Rel c I → I 27 0 = 0 → EvM 799 kx (rf 0 :: as) I (fun v J1 => J1 1000 = I 1000 ∧ ∃ a, v = some (T a) ∧ EvM 799 km (rf 53 :: as) J1 (fun w J2 => w = some (T a) ∧ Rel (c + 1) J2 ∧ J2 1000 = I 1000 ∧ J2 27 0 = 0))
def noR (as : List MV) : Prop := ∀ v ∈ as, ∀ c, v ≠ rf c
theorem noR_0 : noR [] := fun v h => by cases h
theorem noR_i {x : Int} {as : List MV} (h : noR as) : noR (nt x :: as) := fun v hv c => by
  rcases List.mem_cons.mp hv with rfl | hv
  · intro q; cases q
  · exact h v hv c
theorem noR_l {x : Int} {as : List MV} (h : noR as) : noR (lg x :: as) := fun v hv c => by
  rcases List.mem_cons.mp hv with rfl | hv
  · intro q; cases q
  · exact h v hv c
theorem gS_noR {G : Nat → Prop} {as : List MV} (h : noR as) : gS G as := fun v hv => by
  rcases v with x | x | c
  · trivial
  · trivial
  · exact absurd rfl (h _ hv c)
theorem Op3.z {kx km : Nat} {as : List MV} {T : Int → MV} (h : Op3 kx km as T) : OpZ kx km as T := by
  intro c I hc0 hc hR h27
  refine (h c I hc0 hc hR h27).keepH.mono (fun v J1 hv => ?_)
  exact ⟨hv.2, hv.1⟩
theorem opK {kx km : Nat} {as : List MV} {T : Int → MV} (hk : kx ∈ A27) (hs : noR as) (h : ∀ (c : Int) (I : ME), 0 ≤ c → c < 512 → Rel c I → EvM 799 kx (rf 0 :: as) I (fun v J1 => ∃ a, v = some (T a) ∧ EvM 799 km (rf 53 :: as) J1 (fun w J2 => w = some (T a) ∧ Rel (c + 1) J2 ∧ J2 1000 = I 1000))) : OpZ kx km as T := by
  intro c I hc0 hc hR h27
  refine ((h c I hc0 hc hR).keepP hk (gS_c.mpr ⟨rfl, gS_noR hs⟩)).keepH.mono (fun v J1 hv => ?_)
  obtain ⟨⟨⟨a, hv1, hv2⟩, hv3⟩, hv4⟩ := hv
  refine ⟨hv4, a, hv1, (hv2.keepM (gS_c.mpr ⟨show 53 ≤ 53 by omega, gS_noR hs⟩)).mono (fun w J2 hw => ?_)⟩
  obtain ⟨⟨hw1, hw2, hw3⟩, hw4⟩ := hw
  exact ⟨hw1, hw2, hw3, by rw [hw4 27 (fun q => by unfold GM at q; omega) 0, hv3, h27]⟩
theorem OpI.z {kx km : Nat} {as : List MV} (h : OpI kx km as) (hk : kx ∈ A27) (hs : noR as) : OpZ kx km as nt := opK hk hs h
theorem OpL.z {kx km : Nat} {as : List MV} (h : OpL kx km as) (hk : kx ∈ A27) (hs : noR as) : OpZ kx km as lg := opK hk hs h
/-- before the step of the command at i -/
def LW (c i : Int) (I : ME) : Prop := I 27 0 = 0 ∧ Rel c I ∧ 0 ≤ c ∧ c < 512 ∧ 0 ≤ i ∧ i + 6 ≤ I 1000 (-1) ∧ I 1000 (-1) ≤ 3072 ∧ ∀ j, IR (I 1000 j)
