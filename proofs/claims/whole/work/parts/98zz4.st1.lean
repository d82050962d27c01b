/-! THE LAW'S STEPS -/
theorem lwst0 {c i : Int} {I : ME} {Q : Option MV → ME → Prop} (hL : LW c i I) (hn : ∀ J : ME, Rel (c + 1) J → J 1000 = I 1000 → J 27 0 = 0 → Ev 800 311 1712 [some (rf 1000), some (rf 0), some (rf 53), some (nt i)] [] J Q) : Ev 800 311 228 [some (rf 1000), some (rf 0), some (rf 53), some (nt i)] [] I Q := by
  obtain ⟨h27, hR, hc0, hc, hi0, hi6, hlen, hf⟩ := hL
  have e1 : iad i 1 = i + 1 := iad_e (by omega)
  have e2 : iad i 2 = i + 2 := iad_e (by omega)
  refine Ev.go [1712] (T := T_311) rfl rfl ?_
  conv => whnf
  refine anI (by omega) ?_
  conv => whnf
  refine anI (by omega) ?_
  conv => whnf
  refine ⟨by omega, EvM.mono ((op0.z (by decide) (noR_i (noR_i noR_0))) c I hc0 hc hR h27) (fun v J1 hv => ?_)⟩
  obtain ⟨hk, a, rfl, hv⟩ := hv
  conv => whnf
  refine anI (by rw [hk]; omega) ?_
  conv => whnf
  refine anI (by rw [hk]; omega) ?_
  conv => whnf
  refine ⟨by omega, EvM.mono (EvM.to (by rw [hk]) rfl hv) (fun w J2 hw => ?_)⟩
  obtain ⟨rfl, hR2, hk2, h272⟩ := hw
  conv => whnf
  refine brT rfl ?_
  conv => whnf
  exact ⟨trivial, hn J2 hR2 hk2 h272⟩
theorem lwst1 {c i : Int} {I : ME} {Q : Option MV → ME → Prop} (hL : LW c i I) (hn : ∀ J : ME, Rel (c + 1) J → J 1000 = I 1000 → J 27 0 = 0 → Ev 800 311 1712 [some (rf 1000), some (rf 0), some (rf 53), some (nt i)] [] J Q) : Ev 800 311 261 [some (rf 1000), some (rf 0), some (rf 53), some (nt i)] [] I Q := by
  obtain ⟨h27, hR, hc0, hc, hi0, hi6, hlen, hf⟩ := hL
  have e1 : iad i 1 = i + 1 := iad_e (by omega)
  have e2 : iad i 2 = i + 2 := iad_e (by omega)
  have e3 : iad i 3 = i + 3 := iad_e (by omega)
  refine Ev.go [1712] (T := T_311) rfl rfl ?_
  conv => whnf
  refine anI (by omega) ?_
  conv => whnf
  refine anI (by omega) ?_
  conv => whnf
  refine anI (by omega) ?_
  conv => whnf
  refine ⟨by omega, EvM.mono (((op1 (hf _).1 (hf _).2).z (by decide) (noR_i (noR_i (noR_i noR_0)))) c I hc0 hc hR h27) (fun v J1 hv => ?_)⟩
  obtain ⟨hk, a, rfl, hv⟩ := hv
  conv => whnf
  refine anI (by rw [hk]; omega) ?_
  conv => whnf
  refine anI (by rw [hk]; omega) ?_
  conv => whnf
  refine anI (by rw [hk]; omega) ?_
  conv => whnf
  refine ⟨by omega, EvM.mono (EvM.to (by rw [hk]) rfl hv) (fun w J2 hw => ?_)⟩
  obtain ⟨rfl, hR2, hk2, h272⟩ := hw
  conv => whnf
  refine brT rfl ?_
  conv => whnf
  exact ⟨trivial, hn J2 hR2 hk2 h272⟩
theorem lwst2 {c i : Int} {I : ME} {Q : Option MV → ME → Prop} (hL : LW c i I) (hn : ∀ J : ME, Rel (c + 1) J → J 1000 = I 1000 → J 27 0 = 0 → Ev 800 311 1712 [some (rf 1000), some (rf 0), some (rf 53), some (nt i)] [] J Q) : Ev 800 311 304 [some (rf 1000), some (rf 0), some (rf 53), some (nt i)] [] I Q := by
  obtain ⟨h27, hR, hc0, hc, hi0, hi6, hlen, hf⟩ := hL
  have e1 : iad i 1 = i + 1 := iad_e (by omega)
  have e2 : iad i 2 = i + 2 := iad_e (by omega)
  have e3 : iad i 3 = i + 3 := iad_e (by omega)
  refine Ev.go [1712] (T := T_311) rfl rfl ?_
  conv => whnf
  refine anI (by omega) ?_
  conv => whnf
  refine anI (by omega) ?_
  conv => whnf
  refine anI (by omega) ?_
  conv => whnf
  refine ⟨by omega, EvM.mono (((op2 (hf _).2).z (by decide) (noR_i (noR_i (noR_i noR_0)))) c I hc0 hc hR h27) (fun v J1 hv => ?_)⟩
  obtain ⟨hk, a, rfl, hv⟩ := hv
  conv => whnf
  refine anI (by rw [hk]; omega) ?_
  conv => whnf
  refine anI (by rw [hk]; omega) ?_
  conv => whnf
  refine anI (by rw [hk]; omega) ?_
  conv => whnf
  refine ⟨by omega, EvM.mono (EvM.to (by rw [hk]) rfl hv) (fun w J2 hw => ?_)⟩
  obtain ⟨rfl, hR2, hk2, h272⟩ := hw
  conv => whnf
  refine brT rfl ?_
  conv => whnf
  exact ⟨trivial, hn J2 hR2 hk2 h272⟩
theorem lwst3 {c i : Int} {I : ME} {Q : Option MV → ME → Prop} (hL : LW c i I) (hn : ∀ J : ME, Rel (c + 1) J → J 1000 = I 1000 → J 27 0 = 0 → Ev 800 311 1712 [some (rf 1000), some (rf 0), some (rf 53), some (nt i)] [] J Q) : Ev 800 311 347 [some (rf 1000), some (rf 0), some (rf 53), some (nt i)] [] I Q := by
  obtain ⟨h27, hR, hc0, hc, hi0, hi6, hlen, hf⟩ := hL
  have e1 : iad i 1 = i + 1 := iad_e (by omega)
  have e2 : iad i 2 = i + 2 := iad_e (by omega)
  refine Ev.go [1712] (T := T_311) rfl rfl ?_
  conv => whnf
  refine anI (by omega) ?_
  conv => whnf
  refine anI (by omega) ?_
  conv => whnf
  refine ⟨by omega, EvM.mono (((op3 (hf _).2).z (by decide) (noR_i (noR_i noR_0))) c I hc0 hc hR h27) (fun v J1 hv => ?_)⟩
  obtain ⟨hk, a, rfl, hv⟩ := hv
  conv => whnf
  refine anI (by rw [hk]; omega) ?_
  conv => whnf
  refine anI (by rw [hk]; omega) ?_
  conv => whnf
  refine ⟨by omega, EvM.mono (EvM.to (by rw [hk]) rfl hv) (fun w J2 hw => ?_)⟩
  obtain ⟨rfl, hR2, hk2, h272⟩ := hw
  conv => whnf
  refine brT rfl ?_
  conv => whnf
  exact ⟨trivial, hn J2 hR2 hk2 h272⟩
theorem lwst4 {c i : Int} {I : ME} {Q : Option MV → ME → Prop} (hL : LW c i I) (hn : ∀ J : ME, Rel (c + 1) J → J 1000 = I 1000 → J 27 0 = 0 → Ev 800 311 1712 [some (rf 1000), some (rf 0), some (rf 53), some (nt i)] [] J Q) : Ev 800 311 380 [some (rf 1000), some (rf 0), some (rf 53), some (nt i)] [] I Q := by
  obtain ⟨h27, hR, hc0, hc, hi0, hi6, hlen, hf⟩ := hL
  have e1 : iad i 1 = i + 1 := iad_e (by omega)
  refine Ev.go [1712] (T := T_311) rfl rfl ?_
  conv => whnf
  refine anI (by omega) ?_
  conv => whnf
  refine ⟨by omega, EvM.mono ((op4.z (by decide) (noR_i noR_0)) c I hc0 hc hR h27) (fun v J1 hv => ?_)⟩
  obtain ⟨hk, a, rfl, hv⟩ := hv
  conv => whnf
  refine anI (by rw [hk]; omega) ?_
  conv => whnf
  refine ⟨by omega, EvM.mono (EvM.to (by rw [hk]) rfl hv) (fun w J2 hw => ?_)⟩
  obtain ⟨rfl, hR2, hk2, h272⟩ := hw
  conv => whnf
  refine brT rfl ?_
  conv => whnf
  exact ⟨trivial, hn J2 hR2 hk2 h272⟩
theorem lwst5 {c i : Int} {I : ME} {Q : Option MV → ME → Prop} (hL : LW c i I) (hn : ∀ J : ME, Rel (c + 1) J → J 1000 = I 1000 → J 27 0 = 0 → Ev 800 311 1712 [some (rf 1000), some (rf 0), some (rf 53), some (nt i)] [] J Q) : Ev 800 311 403 [some (rf 1000), some (rf 0), some (rf 53), some (nt i)] [] I Q := by
  obtain ⟨h27, hR, hc0, hc, hi0, hi6, hlen, hf⟩ := hL
  refine Ev.go [1712] (T := T_311) rfl rfl ?_
  conv => whnf
  refine ⟨by omega, EvM.mono ((op5.z (by decide) noR_0) c I hc0 hc hR h27) (fun v J1 hv => ?_)⟩
  obtain ⟨hk, a, rfl, hv⟩ := hv
  conv => whnf
  refine ⟨by omega, EvM.mono hv (fun w J2 hw => ?_)⟩
  obtain ⟨rfl, hR2, hk2, h272⟩ := hw
  conv => whnf
  refine brT rfl ?_
  conv => whnf
  exact ⟨trivial, hn J2 hR2 hk2 h272⟩
theorem lwst6 {c i : Int} {I : ME} {Q : Option MV → ME → Prop} (hL : LW c i I) (hn : ∀ J : ME, Rel (c + 1) J → J 1000 = I 1000 → J 27 0 = 0 → Ev 800 311 1712 [some (rf 1000), some (rf 0), some (rf 53), some (nt i)] [] J Q) : Ev 800 311 416 [some (rf 1000), some (rf 0), some (rf 53), some (nt i)] [] I Q := by
  obtain ⟨h27, hR, hc0, hc, hi0, hi6, hlen, hf⟩ := hL
  have e1 : iad i 1 = i + 1 := iad_e (by omega)
  have e2 : iad i 2 = i + 2 := iad_e (by omega)
  refine Ev.go [1712] (T := T_311) rfl rfl ?_
  conv => whnf
  refine anI (by omega) ?_
  conv => whnf
  refine anI (by omega) ?_
  conv => whnf
  refine ⟨by omega, EvM.mono (((op6 (hf _)).z) c I hc0 hc hR h27) (fun v J1 hv => ?_)⟩
  obtain ⟨hk, a, rfl, hv⟩ := hv
  conv => whnf
  refine anI (by rw [hk]; omega) ?_
  conv => whnf
  refine anI (by rw [hk]; omega) ?_
  conv => whnf
  refine ⟨by omega, EvM.mono (EvM.to (by rw [hk]) rfl hv) (fun w J2 hw => ?_)⟩
  obtain ⟨rfl, hR2, hk2, h272⟩ := hw
  conv => whnf
  refine brT rfl ?_
  conv => whnf
  exact ⟨trivial, hn J2 hR2 hk2 h272⟩
theorem lwst7 {c i : Int} {I : ME} {Q : Option MV → ME → Prop} (hL : LW c i I) (hn : ∀ J : ME, Rel (c + 1) J → J 1000 = I 1000 → J 27 0 = 0 → Ev 800 311 1712 [some (rf 1000), some (rf 0), some (rf 53), some (nt i)] [] J Q) : Ev 800 311 449 [some (rf 1000), some (rf 0), some (rf 53), some (nt i)] [] I Q := by
  obtain ⟨h27, hR, hc0, hc, hi0, hi6, hlen, hf⟩ := hL
  have e1 : iad i 1 = i + 1 := iad_e (by omega)
  have e2 : iad i 2 = i + 2 := iad_e (by omega)
  have e3 : iad i 3 = i + 3 := iad_e (by omega)
  refine Ev.go [1712] (T := T_311) rfl rfl ?_
  conv => whnf
  refine anI (by omega) ?_
  conv => whnf
  refine anI (by omega) ?_
  conv => whnf
  refine anI (by omega) ?_
  conv => whnf
  refine ⟨by omega, EvM.mono ((op7.z) c I hc0 hc hR h27) (fun v J1 hv => ?_)⟩
  obtain ⟨hk, a, rfl, hv⟩ := hv
  conv => whnf
  refine anI (by rw [hk]; omega) ?_
  conv => whnf
  refine anI (by rw [hk]; omega) ?_
  conv => whnf
  refine anI (by rw [hk]; omega) ?_
  conv => whnf
  refine ⟨by omega, EvM.mono (EvM.to (by rw [hk]) rfl hv) (fun w J2 hw => ?_)⟩
  obtain ⟨rfl, hR2, hk2, h272⟩ := hw
  conv => whnf
  refine brT (lcm_0.mpr rfl) ?_
  conv => whnf
  exact ⟨trivial, hn J2 hR2 hk2 h272⟩
theorem lwst8 {c i : Int} {I : ME} {Q : Option MV → ME → Prop} (hL : LW c i I) (hn : ∀ J : ME, Rel (c + 1) J → J 1000 = I 1000 → J 27 0 = 0 → Ev 800 311 1712 [some (rf 1000), some (rf 0), some (rf 53), some (nt i)] [] J Q) : Ev 800 311 493 [some (rf 1000), some (rf 0), some (rf 53), some (nt i)] [] I Q := by
  obtain ⟨h27, hR, hc0, hc, hi0, hi6, hlen, hf⟩ := hL
  have e1 : iad i 1 = i + 1 := iad_e (by omega)
  have e2 : iad i 2 = i + 2 := iad_e (by omega)
  have e3 : iad i 3 = i + 3 := iad_e (by omega)
  refine Ev.go [1712] (T := T_311) rfl rfl ?_
  conv => whnf
  refine anI (by omega) ?_
  conv => whnf
  refine anI (by omega) ?_
  conv => whnf
  refine anI (by omega) ?_
  conv => whnf
  refine ⟨by omega, EvM.mono ((op8.z) c I hc0 hc hR h27) (fun v J1 hv => ?_)⟩
  obtain ⟨hk, a, rfl, hv⟩ := hv
  conv => whnf
  refine anI (by rw [hk]; omega) ?_
  conv => whnf
  refine anI (by rw [hk]; omega) ?_
  conv => whnf
  refine anI (by rw [hk]; omega) ?_
  conv => whnf
  refine ⟨by omega, EvM.mono (EvM.to (by rw [hk]) rfl hv) (fun w J2 hw => ?_)⟩
  obtain ⟨rfl, hR2, hk2, h272⟩ := hw
  conv => whnf
  refine brT rfl ?_
  conv => whnf
  exact ⟨trivial, hn J2 hR2 hk2 h272⟩
