/-! THE LAW'S STEPS -/
theorem lwst36 {c i : Int} {I : ME} {Q : Option MV → ME → Prop} (hL : LW c i I) (hn : ∀ J : ME, Rel (c + 1) J → J 1000 = I 1000 → J 27 0 = 0 → Ev 800 311 1712 [some (rf 1000), some (rf 0), some (rf 53), some (nt i)] [] J Q) : Ev 800 311 1344 [some (rf 1000), some (rf 0), some (rf 53), some (nt i)] [] I Q := by
  obtain ⟨h27, hR, hc0, hc, hi0, hi6, hlen, hf⟩ := hL
  have e1 : iad i 1 = i + 1 := iad_e (by omega)
  have e2 : iad i 2 = i + 2 := iad_e (by omega)
  have e3 : iad i 3 = i + 3 := iad_e (by omega)
  refine Ev.go [1712] (T := T_311) rfl rfl ?_
  conv => whnf
  refine anI (by omega) ?_
  conv => whnf
  refine anI (by omega) ?_
  conv => whnf
  refine anI (by omega) ?_
  conv => whnf
  refine ⟨by omega, EvM.mono ((op36.z (by decide) (noR_i (noR_i (noR_i noR_0)))) c I hc0 hc hR h27) (fun v J1 hv => ?_)⟩
  obtain ⟨hk, a, rfl, hv⟩ := hv
  conv => whnf
  refine anI (by rw [hk]; omega) ?_
  conv => whnf
  refine anI (by rw [hk]; omega) ?_
  conv => whnf
  refine anI (by rw [hk]; omega) ?_
  conv => whnf
  refine ⟨by omega, EvM.mono (EvM.to (by rw [hk]) rfl hv) (fun w J2 hw => ?_)⟩
  obtain ⟨rfl, hR2, hk2, h272⟩ := hw
  conv => whnf
  refine brT rfl ?_
  conv => whnf
  exact ⟨trivial, hn J2 hR2 hk2 h272⟩
theorem lwst37 {c i : Int} {I : ME} {Q : Option MV → ME → Prop} (hL : LW c i I) (hn : ∀ J : ME, Rel (c + 1) J → J 1000 = I 1000 → J 27 0 = 0 → Ev 800 311 1712 [some (rf 1000), some (rf 0), some (rf 53), some (nt i)] [] J Q) : Ev 800 311 1387 [some (rf 1000), some (rf 0), some (rf 53), some (nt i)] [] I Q := by
  obtain ⟨h27, hR, hc0, hc, hi0, hi6, hlen, hf⟩ := hL
  have e1 : iad i 1 = i + 1 := iad_e (by omega)
  refine Ev.go [1712] (T := T_311) rfl rfl ?_
  conv => whnf
  refine anI (by omega) ?_
  conv => whnf
  refine ⟨by omega, EvM.mono ((op37.z (by decide) (noR_i noR_0)) c I hc0 hc hR h27) (fun v J1 hv => ?_)⟩
  obtain ⟨hk, a, rfl, hv⟩ := hv
  conv => whnf
  refine anI (by rw [hk]; omega) ?_
  conv => whnf
  refine ⟨by omega, EvM.mono (EvM.to (by rw [hk]) rfl hv) (fun w J2 hw => ?_)⟩
  obtain ⟨rfl, hR2, hk2, h272⟩ := hw
  conv => whnf
  refine brT rfl ?_
  conv => whnf
  exact ⟨trivial, hn J2 hR2 hk2 h272⟩
theorem lwst38 {c i : Int} {I : ME} {Q : Option MV → ME → Prop} (hL : LW c i I) (hn : ∀ J : ME, Rel (c + 1) J → J 1000 = I 1000 → J 27 0 = 0 → Ev 800 311 1712 [some (rf 1000), some (rf 0), some (rf 53), some (nt i)] [] J Q) : Ev 800 311 1410 [some (rf 1000), some (rf 0), some (rf 53), some (nt i)] [] I Q := by
  obtain ⟨h27, hR, hc0, hc, hi0, hi6, hlen, hf⟩ := hL
  have e1 : iad i 1 = i + 1 := iad_e (by omega)
  have e2 : iad i 2 = i + 2 := iad_e (by omega)
  refine Ev.go [1712] (T := T_311) rfl rfl ?_
  conv => whnf
  refine anI (by omega) ?_
  conv => whnf
  refine anI (by omega) ?_
  conv => whnf
  refine ⟨by omega, EvM.mono ((op38.z (by decide) (noR_i (noR_i noR_0))) c I hc0 hc hR h27) (fun v J1 hv => ?_)⟩
  obtain ⟨hk, a, rfl, hv⟩ := hv
  conv => whnf
  refine anI (by rw [hk]; omega) ?_
  conv => whnf
  refine anI (by rw [hk]; omega) ?_
  conv => whnf
  refine ⟨by omega, EvM.mono (EvM.to (by rw [hk]) rfl hv) (fun w J2 hw => ?_)⟩
  obtain ⟨rfl, hR2, hk2, h272⟩ := hw
  conv => whnf
  refine brT rfl ?_
  conv => whnf
  exact ⟨trivial, hn J2 hR2 hk2 h272⟩
theorem lwst39 {c i : Int} {I : ME} {Q : Option MV → ME → Prop} (hL : LW c i I) (hn : ∀ J : ME, Rel (c + 1) J → J 1000 = I 1000 → J 27 0 = 0 → Ev 800 311 1712 [some (rf 1000), some (rf 0), some (rf 53), some (nt i)] [] J Q) : Ev 800 311 1443 [some (rf 1000), some (rf 0), some (rf 53), some (nt i)] [] I Q := by
  obtain ⟨h27, hR, hc0, hc, hi0, hi6, hlen, hf⟩ := hL
  have e1 : iad i 1 = i + 1 := iad_e (by omega)
  have e2 : iad i 2 = i + 2 := iad_e (by omega)
  have e3 : iad i 3 = i + 3 := iad_e (by omega)
  refine Ev.go [1712] (T := T_311) rfl rfl ?_
  conv => whnf
  refine anI (by omega) ?_
  conv => whnf
  refine anI (by omega) ?_
  conv => whnf
  refine anI (by omega) ?_
  conv => whnf
  refine ⟨by omega, EvM.mono ((op39.z (by decide) (noR_i (noR_i (noR_i noR_0)))) c I hc0 hc hR h27) (fun v J1 hv => ?_)⟩
  obtain ⟨hk, a, rfl, hv⟩ := hv
  conv => whnf
  refine anI (by rw [hk]; omega) ?_
  conv => whnf
  refine anI (by rw [hk]; omega) ?_
  conv => whnf
  refine anI (by rw [hk]; omega) ?_
  conv => whnf
  refine ⟨by omega, EvM.mono (EvM.to (by rw [hk]) rfl hv) (fun w J2 hw => ?_)⟩
  obtain ⟨rfl, hR2, hk2, h272⟩ := hw
  conv => whnf
  refine brT rfl ?_
  conv => whnf
  exact ⟨trivial, hn J2 hR2 hk2 h272⟩
theorem lwst40 {c i : Int} {I : ME} {Q : Option MV → ME → Prop} (hL : LW c i I) (hn : ∀ J : ME, Rel (c + 1) J → J 1000 = I 1000 → J 27 0 = 0 → Ev 800 311 1712 [some (rf 1000), some (rf 0), some (rf 53), some (nt i)] [] J Q) : Ev 800 311 1486 [some (rf 1000), some (rf 0), some (rf 53), some (nt i)] [] I Q := by
  obtain ⟨h27, hR, hc0, hc, hi0, hi6, hlen, hf⟩ := hL
  have e1 : iad i 1 = i + 1 := iad_e (by omega)
  have e2 : iad i 2 = i + 2 := iad_e (by omega)
  have e3 : iad i 3 = i + 3 := iad_e (by omega)
  have e4 : iad i 4 = i + 4 := iad_e (by omega)
  refine Ev.go [1712] (T := T_311) rfl rfl ?_
  conv => whnf
  refine anI (by omega) ?_
  conv => whnf
  refine anI (by omega) ?_
  conv => whnf
  refine anI (by omega) ?_
  conv => whnf
  refine anI (by omega) ?_
  conv => whnf
  refine ⟨by omega, EvM.mono (((op40 (hf _).2).z (by decide) (noR_i (noR_i (noR_l noR_0)))) c I hc0 hc hR h27) (fun v J1 hv => ?_)⟩
  obtain ⟨hk, a, rfl, hv⟩ := hv
  conv => whnf
  refine anI (by rw [hk]; omega) ?_
  conv => whnf
  refine anI (by rw [hk]; omega) ?_
  conv => whnf
  refine anI (by rw [hk]; omega) ?_
  conv => whnf
  refine anI (by rw [hk]; omega) ?_
  conv => whnf
  refine ⟨by omega, EvM.mono (EvM.to (by rw [hk]) rfl hv) (fun w J2 hw => ?_)⟩
  obtain ⟨rfl, hR2, hk2, h272⟩ := hw
  conv => whnf
  refine brT rfl ?_
  conv => whnf
  exact ⟨trivial, hn J2 hR2 hk2 h272⟩
theorem lwst41 {c i : Int} {I : ME} {Q : Option MV → ME → Prop} (hL : LW c i I) (hn : ∀ J : ME, Rel (c + 1) J → J 1000 = I 1000 → J 27 0 = 0 → Ev 800 311 1712 [some (rf 1000), some (rf 0), some (rf 53), some (nt i)] [] J Q) : Ev 800 311 1559 [some (rf 1000), some (rf 0), some (rf 53), some (nt i)] [] I Q := by
  obtain ⟨h27, hR, hc0, hc, hi0, hi6, hlen, hf⟩ := hL
  have e1 : iad i 1 = i + 1 := iad_e (by omega)
  have e2 : iad i 2 = i + 2 := iad_e (by omega)
  refine Ev.go [1712] (T := T_311) rfl rfl ?_
  conv => whnf
  refine anI (by omega) ?_
  conv => whnf
  refine anI (by omega) ?_
  conv => whnf
  refine ⟨by omega, EvM.mono (((op41 (hf _).2).z (by decide) (noR_i (noR_i noR_0))) c I hc0 hc hR h27) (fun v J1 hv => ?_)⟩
  obtain ⟨hk, a, rfl, hv⟩ := hv
  conv => whnf
  refine anI (by rw [hk]; omega) ?_
  conv => whnf
  refine anI (by rw [hk]; omega) ?_
  conv => whnf
  refine ⟨by omega, EvM.mono (EvM.to (by rw [hk]) rfl hv) (fun w J2 hw => ?_)⟩
  obtain ⟨rfl, hR2, hk2, h272⟩ := hw
  conv => whnf
  refine brT (lcm_0.mpr rfl) ?_
  conv => whnf
  exact ⟨trivial, hn J2 hR2 hk2 h272⟩
theorem lwst42 {c i : Int} {I : ME} {Q : Option MV → ME → Prop} (hL : LW c i I) (hn : ∀ J : ME, Rel (c + 1) J → J 1000 = I 1000 → J 27 0 = 0 → Ev 800 311 1712 [some (rf 1000), some (rf 0), some (rf 53), some (nt i)] [] J Q) : Ev 800 311 1593 [some (rf 1000), some (rf 0), some (rf 53), some (nt i)] [] I Q := by
  obtain ⟨h27, hR, hc0, hc, hi0, hi6, hlen, hf⟩ := hL
  have e1 : iad i 1 = i + 1 := iad_e (by omega)
  have e2 : iad i 2 = i + 2 := iad_e (by omega)
  have e3 : iad i 3 = i + 3 := iad_e (by omega)
  have e4 : iad i 4 = i + 4 := iad_e (by omega)
  have e5 : iad i 5 = i + 5 := iad_e (by omega)
  refine Ev.go [1712] (T := T_311) rfl rfl ?_
  conv => whnf
  refine anI (by omega) ?_
  conv => whnf
  refine anI (by omega) ?_
  conv => whnf
  refine anI (by omega) ?_
  conv => whnf
  refine anI (by omega) ?_
  conv => whnf
  refine anI (by omega) ?_
  conv => whnf
  refine ⟨by omega, EvM.mono (((op42 (hf _).2 (hf _).2 (hf _).2).z (by decide) (noR_i (noR_i (noR_i (noR_i (noR_i noR_0)))))) c I hc0 hc hR h27) (fun v J1 hv => ?_)⟩
  obtain ⟨hk, a, rfl, hv⟩ := hv
  conv => whnf
  refine anI (by rw [hk]; omega) ?_
  conv => whnf
  refine anI (by rw [hk]; omega) ?_
  conv => whnf
  refine anI (by rw [hk]; omega) ?_
  conv => whnf
  refine anI (by rw [hk]; omega) ?_
  conv => whnf
  refine anI (by rw [hk]; omega) ?_
  conv => whnf
  refine ⟨by omega, EvM.mono (EvM.to (by rw [hk]) rfl hv) (fun w J2 hw => ?_)⟩
  obtain ⟨rfl, hR2, hk2, h272⟩ := hw
  conv => whnf
  refine brT rfl ?_
  conv => whnf
  exact ⟨trivial, hn J2 hR2 hk2 h272⟩
theorem lwst43 {c i : Int} {I : ME} {Q : Option MV → ME → Prop} (hL : LW c i I) (hn : ∀ J : ME, Rel (c + 1) J → J 1000 = I 1000 → J 27 0 = 0 → Ev 800 311 1712 [some (rf 1000), some (rf 0), some (rf 53), some (nt i)] [] J Q) : Ev 800 311 1656 [some (rf 1000), some (rf 0), some (rf 53), some (nt i)] [] I Q := by
  obtain ⟨h27, hR, hc0, hc, hi0, hi6, hlen, hf⟩ := hL
  have e1 : iad i 1 = i + 1 := iad_e (by omega)
  have e2 : iad i 2 = i + 2 := iad_e (by omega)
  refine Ev.go [1712] (T := T_311) rfl rfl ?_
  conv => whnf
  refine anI (by omega) ?_
  conv => whnf
  refine anI (by omega) ?_
  conv => whnf
  refine ⟨by omega, EvM.mono ((op43.z (by decide) (noR_i (noR_i noR_0))) c I hc0 hc hR h27) (fun v J1 hv => ?_)⟩
  obtain ⟨hk, a, rfl, hv⟩ := hv
  conv => whnf
  refine anI (by rw [hk]; omega) ?_
  conv => whnf
  refine anI (by rw [hk]; omega) ?_
  conv => whnf
  refine ⟨by omega, EvM.mono (EvM.to (by rw [hk]) rfl hv) (fun w J2 hw => ?_)⟩
  obtain ⟨rfl, hR2, hk2, h272⟩ := hw
  conv => whnf
  refine brT rfl ?_
  conv => whnf
  exact ⟨trivial, hn J2 hR2 hk2 h272⟩
theorem lwst44 {c i : Int} {I : ME} {Q : Option MV → ME → Prop} (hL : LW c i I) (hn : ∀ J : ME, Rel (c + 1) J → J 1000 = I 1000 → J 27 0 = 0 → Ev 800 311 1712 [some (rf 1000), some (rf 0), some (rf 53), some (nt i)] [] J Q) : Ev 800 311 1689 [some (rf 1000), some (rf 0), some (rf 53), some (nt i)] [] I Q := by
  obtain ⟨h27, hR, hc0, hc, hi0, hi6, hlen, hf⟩ := hL
  have e1 : iad i 1 = i + 1 := iad_e (by omega)
  refine Ev.go [1712] (T := T_311) rfl rfl ?_
  conv => whnf
  refine anI (by omega) ?_
  conv => whnf
  refine ⟨by omega, EvM.mono ((op44.z (by decide) (noR_i noR_0)) c I hc0 hc hR h27) (fun v J1 hv => ?_)⟩
  obtain ⟨hk, a, rfl, hv⟩ := hv
  conv => whnf
  refine anI (by rw [hk]; omega) ?_
  conv => whnf
  refine ⟨by omega, EvM.mono (EvM.to (by rw [hk]) rfl hv) (fun w J2 hw => ?_)⟩
  obtain ⟨rfl, hR2, hk2, h272⟩ := hw
  conv => whnf
  refine brT rfl ?_
  conv => whnf
  exact ⟨trivial, hn J2 hR2 hk2 h272⟩
