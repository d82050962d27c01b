/-! OPERATIONS of both sides, and what ties them after -/
def fu (f : gF) (i v : Int) : gF := fun j => if j = i then v else f j
theorem fu_eq (f : gF) (i v : Int) : fu f i v i = v := if_pos rfl
theorem fu_ne {f : gF} {i v j : Int} (h : j ≠ i) : fu f i v j = f j := if_neg h
theorem up_g (I : ME) (c : Nat) (i v : Int) : upd_ I c i v c = fu (I c) i v := by
  funext j
  rw [up_any]
  rfl
theorem Rel.mono {c : Int} {I : ME} (h : Rel c I) : Rel (c + 1) I := by
  obtain ⟨ln, ⟨a, b, e, d, f, g, l, q, k⟩, hM⟩ := h
  exact ⟨ln, ⟨a, b, e, d, f, g, l, ⟨q.1, q.2.1, by omega⟩, k⟩, hM⟩
/-- an operation that answers an int: both sides alike, and all holds again -/
def OpI (kx km : Nat) (as : List MV) : Prop := ∀ (c : Int) (I : ME), 0 ≤ c → c < 512 → Rel c I → EvM 799 kx (rf 0 :: as) I (fun v I1 => ∃ a, v = some (nt a) ∧ EvM 799 km (rf 53 :: as) I1 (fun w I2 => w = some (nt a) ∧ Rel (c + 1) I2 ∧ I2 1000 = I 1000))
def OpL (kx km : Nat) (as : List MV) : Prop := ∀ (c : Int) (I : ME), 0 ≤ c → c < 512 → Rel c I → EvM 799 kx (rf 0 :: as) I (fun v I1 => ∃ a, v = some (lg a) ∧ EvM 799 km (rf 53 :: as) I1 (fun w I2 => w = some (lg a) ∧ Rel (c + 1) I2 ∧ I2 1000 = I 1000))
theorem cA_add {sz s dr : Int} {lov th ho bl lo : gF} {t k : Int} (h : cA sz s dr lov th ho bl lo) (hz : sz < 12) (ht : pT t) (hk : pH k) : cA (iad sz 1) (iro s (isl 1 sz)) dr lov (fu th sz t) (fu ho sz k) (fu bl sz 0) lo := by
  obtain ⟨⟨a1, a2⟩, ⟨b1, b2, b3⟩, ⟨d1, d2⟩, e, f, g⟩ := h
  obtain ⟨⟨i1, i2⟩, i3⟩ := isl_b a1 hz
  obtain ⟨⟨o1, o2⟩, o3⟩ := iro_b b1 b2 (by omega : 0 ≤ isl 1 sz) i2
  rw [iad_e (by omega)]
  have hp : pI (iro s (isl 1 sz)) = pI s + 1 := by
    refine pI_step (t := sz) b1 b2 o1 o2 a1 hz (fun u u0 u1 hu => ?_) (b3 sz (by omega) hz) ?_
    · rw [o3 u u0 (by omega), i3 u u0 (by omega)]
      exact ⟨fun q => q.resolve_right hu, Or.inl⟩
    · rw [o3 sz a1 (by omega), i3 sz a1 (by omega)]
      exact Or.inr rfl
  refine ⟨by omega, ⟨o1, o2, fun u hu h12 => ?_⟩, by omega, e, fun u u0 u1 => ?_, g⟩
  · rw [o3 u (by omega) (by omega), i3 u (by omega) (by omega)]
    have := b3 u (by omega) h12
    omega
  · by_cases hu : u = sz
    · subst hu
      rw [fu_eq, fu_eq, fu_eq]
      exact ⟨ht, hk, Or.inl rfl⟩
    · rw [fu_ne hu, fu_ne hu, fu_ne hu]
      exact f u u0 u1
theorem mA_add {sz s dr : Int} {lov th ho bl lo : gF} {msz ms mdr : Int} {may mlo : gF} {t k : Int} (h : mA sz s dr lov th ho bl lo msz ms mdr may mlo) (h0 : 0 ≤ sz) (hz : sz < 12) :
    mA (iad sz 1) (iro s (isl 1 sz)) dr lov (fu th sz t) (fu ho sz k) (fu bl sz 0) lo (msz + 1) (iro ms (isl 1 msz)) mdr (fu (fu (fu may (48 + 3 * msz) t) (48 + 3 * msz + 1) k) (48 + 3 * msz + 2) 0) mlo := by
  obtain ⟨a, b, c, d, e, f⟩ := h
  subst a; subst b; subst c
  rw [iad_e (by omega)]
  refine ⟨rfl, rfl, rfl, fun j j0 j1 => ?_, fun u u0 u1 => ?_, f⟩
  · rw [fu_ne (by omega), fu_ne (by omega), fu_ne (by omega)]
    exact d j j0 j1
  · by_cases hu : u = msz
    · subst hu
      refine ⟨?_, ?_, ?_⟩
      · rw [fu_ne (by omega), fu_ne (by omega), fu_eq, fu_eq]
      · rw [fu_ne (by omega), fu_eq, fu_eq]
      · rw [fu_eq, fu_eq]
    · obtain ⟨e1, e2, e3⟩ := e u u0 u1
      refine ⟨?_, ?_, ?_⟩
      · rw [fu_ne (by omega), fu_ne (by omega), fu_ne (by omega), fu_ne hu, e1]
      · rw [fu_ne (by omega), fu_ne (by omega), fu_ne (by omega), fu_ne hu, e2]
      · rw [fu_ne (by omega), fu_ne (by omega), fu_ne (by omega), fu_ne hu, e3]
theorem cC_sz {sz sz' st kp : Int} {nu wh be af : gF} (h : cC sz st kp nu wh be af) (hz : sz ≤ sz') : cC sz' st kp nu wh be af := by
  refine ⟨h.1, fun i i0 i1 => ?_⟩
  obtain ⟨a, b⟩ := h.2 i i0 i1
  exact ⟨by omega, b⟩
theorem cD_sz {sz sz' has isz iin idr : Int} {ih il : gF} (h : cD sz has isz iin idr ih il) (hz : sz ≤ sz') : cD sz' has isz iin idr ih il := by
  refine ⟨h.1, fun q => ?_⟩
  obtain ⟨a, b⟩ := h.2 q
  exact ⟨by omega, b⟩
theorem op0 {t k : Int} : OpI 130 203 [nt t, nt k] := by
  intro c I hc0 hc h
  have h' := h
  obtain ⟨ln, hC, hM⟩ := h
  have z := hC.1.1
  have m1 : I 53 6 = I 1 5 := hM.1.1
  refine x130 (by omega) z.1 (fun p => ?_) (fun p => ?_) (fun p => ?_)
  · exact ⟨_, rfl, m203 (by omega) (by omega) (by omega) (fun q => ⟨rfl, h'.mono, rfl⟩) (fun q => by exfalso; omega) (fun q => by exfalso; omega)⟩
  · exact ⟨_, rfl, m203 (by omega) (by omega) (by omega) (fun q => by exfalso; omega) (fun q => ⟨rfl, h'.mono, rfl⟩) (fun q => by exfalso; omega)⟩
  · have e : ∀ J : ME, J = (upd_ (upd_ (upd_ (upd_ (upd_ I 3 (I 1 5) t) 4 (I 1 5) k) 5 (I 1 5) 0) 1 6 (iro (I 1 6) (isl 1 (I 1 5)))) 1 5 (iad (I 1 5) 1)) → J 53 6 = I 1 5 := fun J hJ => by
      rw [hJ]
      simp (disch := omega) only [up_c]
      exact m1
    have e := e _ rfl
    refine ⟨_, rfl, m203 (by omega) (by omega) (by omega) (fun q => by exfalso; omega) (fun q => by exfalso; omega) (fun q => ⟨by rw [e], ⟨ln, ?_, ?_⟩, by simp (disch := omega) only [up_c]⟩)⟩
    · obtain ⟨a, b, g, d, f, r, l, u, v⟩ := hC
      unfold CI
      simp (disch := omega) only [up_c, up_g, fu_eq, fu_ne]
      have hi : iad (I 1 5) 1 = I 1 5 + 1 := iad_e (by omega)
      exact ⟨cA_add a (by omega) p.1 p.2.1, b, cC_sz g (by omega), cD_sz d (by omega), f, r, l, ⟨u.1, u.2.1, by omega⟩, v⟩
    · obtain ⟨a, b, g, d, f, r, l⟩ := hM
      unfold MR_
      simp (disch := omega) only [up_c, up_g, fu_eq, fu_ne]
      exact ⟨mA_add a z.1 (by omega), b, g, d, f, r, l⟩
