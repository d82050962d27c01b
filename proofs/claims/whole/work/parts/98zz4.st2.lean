/-! THE LAW'S STEPS -/
theorem lwst9 {c i : Int} {I : ME} {Q : Option MV → ME → Prop} (hL : LW c i I) (hn : ∀ J : ME, Rel (c + 1) J → J 1000 = I 1000 → J 27 0 = 0 → Ev 800 311 1712 [some (rf 1000), some (rf 0), some (rf 53), some (nt i)] [] J Q) : Ev 800 311 536 [some (rf 1000), some (rf 0), some (rf 53), some (nt i)] [] I Q := by
  obtain ⟨h27, hR, hc0, hc, hi0, hi6, hlen, hf⟩ := hL
  have e1 : iad i 1 = i + 1 := iad_e (by omega)
  have e2 : iad i 2 = i + 2 := iad_e (by omega)
  have e3 : iad i 3 = i + 3 := iad_e (by omega)
  refine Ev.go [1712] (T := T_311) rfl rfl ?_
  conv => whnf
  refine anI (by omega) ?_
  conv => whnf
  refine anI (by omega) ?_
  conv => whnf
  refine anI (by omega) ?_
  conv => whnf
  refine ⟨by omega, EvM.mono (((op9 (hf _).2).z) c I hc0 hc hR h27) (fun v J1 hv => ?_)⟩
  obtain ⟨hk, a, rfl, hv⟩ := hv
  conv => whnf
  refine anI (by rw [hk]; omega) ?_
  conv => whnf
  refine anI (by rw [hk]; omega) ?_
  conv => whnf
  refine anI (by rw [hk]; omega) ?_
  conv => whnf
  refine ⟨by omega, EvM.mono (EvM.to (by rw [hk]) rfl hv) (fun w J2 hw => ?_)⟩
  obtain ⟨rfl, hR2, hk2, h272⟩ := hw
  conv => whnf
  refine brT (lcm_0.mpr rfl) ?_
  conv => whnf
  exact ⟨trivial, hn J2 hR2 hk2 h272⟩
theorem lwst10 {c i : Int} {I : ME} {Q : Option MV → ME → Prop} (hL : LW c i I) (hn : ∀ J : ME, Rel (c + 1) J → J 1000 = I 1000 → J 27 0 = 0 → Ev 800 311 1712 [some (rf 1000), some (rf 0), some (rf 53), some (nt i)] [] J Q) : Ev 800 311 580 [some (rf 1000), some (rf 0), some (rf 53), some (nt i)] [] I Q := by
  obtain ⟨h27, hR, hc0, hc, hi0, hi6, hlen, hf⟩ := hL
  have e1 : iad i 1 = i + 1 := iad_e (by omega)
  have e2 : iad i 2 = i + 2 := iad_e (by omega)
  have e3 : iad i 3 = i + 3 := iad_e (by omega)
  refine Ev.go [1712] (T := T_311) rfl rfl ?_
  conv => whnf
  refine anI (by omega) ?_
  conv => whnf
  refine anI (by omega) ?_
  conv => whnf
  refine anI (by omega) ?_
  conv => whnf
  refine ⟨by omega, EvM.mono (((op10 (hf _).2).z (by decide) (noR_i (noR_i (noR_i noR_0)))) c I hc0 hc hR h27) (fun v J1 hv => ?_)⟩
  obtain ⟨hk, a, rfl, hv⟩ := hv
  conv => whnf
  refine anI (by rw [hk]; omega) ?_
  conv => whnf
  refine anI (by rw [hk]; omega) ?_
  conv => whnf
  refine anI (by rw [hk]; omega) ?_
  conv => whnf
  refine ⟨by omega, EvM.mono (EvM.to (by rw [hk]) rfl hv) (fun w J2 hw => ?_)⟩
  obtain ⟨rfl, hR2, hk2, h272⟩ := hw
  conv => whnf
  refine brT (lcm_0.mpr rfl) ?_
  conv => whnf
  exact ⟨trivial, hn J2 hR2 hk2 h272⟩
theorem lwst11 {c i : Int} {I : ME} {Q : Option MV → ME → Prop} (hL : LW c i I) (hn : ∀ J : ME, Rel (c + 1) J → J 1000 = I 1000 → J 27 0 = 0 → Ev 800 311 1712 [some (rf 1000), some (rf 0), some (rf 53), some (nt i)] [] J Q) : Ev 800 311 624 [some (rf 1000), some (rf 0), some (rf 53), some (nt i)] [] I Q := by
  obtain ⟨h27, hR, hc0, hc, hi0, hi6, hlen, hf⟩ := hL
  have e1 : iad i 1 = i + 1 := iad_e (by omega)
  have e2 : iad i 2 = i + 2 := iad_e (by omega)
  have e3 : iad i 3 = i + 3 := iad_e (by omega)
  refine Ev.go [1712] (T := T_311) rfl rfl ?_
  conv => whnf
  refine anI (by omega) ?_
  conv => whnf
  refine anI (by omega) ?_
  conv => whnf
  refine anI (by omega) ?_
  conv => whnf
  refine ⟨by omega, EvM.mono ((op11.z) c I hc0 hc hR h27) (fun v J1 hv => ?_)⟩
  obtain ⟨hk, a, rfl, hv⟩ := hv
  conv => whnf
  refine anI (by rw [hk]; omega) ?_
  conv => whnf
  refine anI (by rw [hk]; omega) ?_
  conv => whnf
  refine anI (by rw [hk]; omega) ?_
  conv => whnf
  refine ⟨by omega, EvM.mono (EvM.to (by rw [hk]) rfl hv) (fun w J2 hw => ?_)⟩
  obtain ⟨rfl, hR2, hk2, h272⟩ := hw
  conv => whnf
  refine brT (lcm_0.mpr rfl) ?_
  conv => whnf
  exact ⟨trivial, hn J2 hR2 hk2 h272⟩
theorem lwst12 {c i : Int} {I : ME} {Q : Option MV → ME → Prop} (hL : LW c i I) (hn : ∀ J : ME, Rel (c + 1) J → J 1000 = I 1000 → J 27 0 = 0 → Ev 800 311 1712 [some (rf 1000), some (rf 0), some (rf 53), some (nt i)] [] J Q) : Ev 800 311 668 [some (rf 1000), some (rf 0), some (rf 53), some (nt i)] [] I Q := by
  obtain ⟨h27, hR, hc0, hc, hi0, hi6, hlen, hf⟩ := hL
  have e1 : iad i 1 = i + 1 := iad_e (by omega)
  have e2 : iad i 2 = i + 2 := iad_e (by omega)
  have e3 : iad i 3 = i + 3 := iad_e (by omega)
  refine Ev.go [1712] (T := T_311) rfl rfl ?_
  conv => whnf
  refine anI (by omega) ?_
  conv => whnf
  refine anI (by omega) ?_
  conv => whnf
  refine anI (by omega) ?_
  conv => whnf
  refine ⟨by omega, EvM.mono ((op12.z) c I hc0 hc hR h27) (fun v J1 hv => ?_)⟩
  obtain ⟨hk, a, rfl, hv⟩ := hv
  conv => whnf
  refine anI (by rw [hk]; omega) ?_
  conv => whnf
  refine anI (by rw [hk]; omega) ?_
  conv => whnf
  refine anI (by rw [hk]; omega) ?_
  conv => whnf
  refine ⟨by omega, EvM.mono (EvM.to (by rw [hk]) rfl hv) (fun w J2 hw => ?_)⟩
  obtain ⟨rfl, hR2, hk2, h272⟩ := hw
  conv => whnf
  refine brT (lcm_0.mpr rfl) ?_
  conv => whnf
  exact ⟨trivial, hn J2 hR2 hk2 h272⟩
theorem lwst13 {c i : Int} {I : ME} {Q : Option MV → ME → Prop} (hL : LW c i I) (hn : ∀ J : ME, Rel (c + 1) J → J 1000 = I 1000 → J 27 0 = 0 → Ev 800 311 1712 [some (rf 1000), some (rf 0), some (rf 53), some (nt i)] [] J Q) : Ev 800 311 712 [some (rf 1000), some (rf 0), some (rf 53), some (nt i)] [] I Q := by
  obtain ⟨h27, hR, hc0, hc, hi0, hi6, hlen, hf⟩ := hL
  have e1 : iad i 1 = i + 1 := iad_e (by omega)
  refine Ev.go [1712] (T := T_311) rfl rfl ?_
  conv => whnf
  refine anI (by omega) ?_
  conv => whnf
  refine ⟨by omega, EvM.mono ((op13.z) c I hc0 hc hR h27) (fun v J1 hv => ?_)⟩
  obtain ⟨hk, a, rfl, hv⟩ := hv
  conv => whnf
  refine anI (by rw [hk]; omega) ?_
  conv => whnf
  refine ⟨by omega, EvM.mono (EvM.to (by rw [hk]) rfl hv) (fun w J2 hw => ?_)⟩
  obtain ⟨rfl, hR2, hk2, h272⟩ := hw
  conv => whnf
  refine brT rfl ?_
  conv => whnf
  exact ⟨trivial, hn J2 hR2 hk2 h272⟩
theorem lwst14 {c i : Int} {I : ME} {Q : Option MV → ME → Prop} (hL : LW c i I) (hn : ∀ J : ME, Rel (c + 1) J → J 1000 = I 1000 → J 27 0 = 0 → Ev 800 311 1712 [some (rf 1000), some (rf 0), some (rf 53), some (nt i)] [] J Q) : Ev 800 311 735 [some (rf 1000), some (rf 0), some (rf 53), some (nt i)] [] I Q := by
  obtain ⟨h27, hR, hc0, hc, hi0, hi6, hlen, hf⟩ := hL
  have e1 : iad i 1 = i + 1 := iad_e (by omega)
  refine Ev.go [1712] (T := T_311) rfl rfl ?_
  conv => whnf
  refine anI (by omega) ?_
  conv => whnf
  refine ⟨by omega, EvM.mono ((op14.z) c I hc0 hc hR h27) (fun v J1 hv => ?_)⟩
  obtain ⟨hk, a, rfl, hv⟩ := hv
  conv => whnf
  refine anI (by rw [hk]; omega) ?_
  conv => whnf
  refine ⟨by omega, EvM.mono (EvM.to (by rw [hk]) rfl hv) (fun w J2 hw => ?_)⟩
  obtain ⟨rfl, hR2, hk2, h272⟩ := hw
  conv => whnf
  refine brT rfl ?_
  conv => whnf
  exact ⟨trivial, hn J2 hR2 hk2 h272⟩
theorem lwst15 {c i : Int} {I : ME} {Q : Option MV → ME → Prop} (hL : LW c i I) (hn : ∀ J : ME, Rel (c + 1) J → J 1000 = I 1000 → J 27 0 = 0 → Ev 800 311 1712 [some (rf 1000), some (rf 0), some (rf 53), some (nt i)] [] J Q) : Ev 800 311 758 [some (rf 1000), some (rf 0), some (rf 53), some (nt i)] [] I Q := by
  obtain ⟨h27, hR, hc0, hc, hi0, hi6, hlen, hf⟩ := hL
  have e1 : iad i 1 = i + 1 := iad_e (by omega)
  have e2 : iad i 2 = i + 2 := iad_e (by omega)
  refine Ev.go [1712] (T := T_311) rfl rfl ?_
  conv => whnf
  refine anI (by omega) ?_
  conv => whnf
  refine anI (by omega) ?_
  conv => whnf
  refine ⟨by omega, EvM.mono (((op15 (hf _)).z) c I hc0 hc hR h27) (fun v J1 hv => ?_)⟩
  obtain ⟨hk, a, rfl, hv⟩ := hv
  conv => whnf
  refine anI (by rw [hk]; omega) ?_
  conv => whnf
  refine anI (by rw [hk]; omega) ?_
  conv => whnf
  refine ⟨by omega, EvM.mono (EvM.to (by rw [hk]) rfl hv) (fun w J2 hw => ?_)⟩
  obtain ⟨rfl, hR2, hk2, h272⟩ := hw
  conv => whnf
  refine brT (lcm_0.mpr rfl) ?_
  conv => whnf
  exact ⟨trivial, hn J2 hR2 hk2 h272⟩
theorem lwst16 {c i : Int} {I : ME} {Q : Option MV → ME → Prop} (hL : LW c i I) (hn : ∀ J : ME, Rel (c + 1) J → J 1000 = I 1000 → J 27 0 = 0 → Ev 800 311 1712 [some (rf 1000), some (rf 0), some (rf 53), some (nt i)] [] J Q) : Ev 800 311 792 [some (rf 1000), some (rf 0), some (rf 53), some (nt i)] [] I Q := by
  obtain ⟨h27, hR, hc0, hc, hi0, hi6, hlen, hf⟩ := hL
  have e1 : iad i 1 = i + 1 := iad_e (by omega)
  refine Ev.go [1712] (T := T_311) rfl rfl ?_
  conv => whnf
  refine anI (by omega) ?_
  conv => whnf
  refine ⟨by omega, EvM.mono ((op16.z) c I hc0 hc hR h27) (fun v J1 hv => ?_)⟩
  obtain ⟨hk, a, rfl, hv⟩ := hv
  conv => whnf
  refine anI (by rw [hk]; omega) ?_
  conv => whnf
  refine ⟨by omega, EvM.mono (EvM.to (by rw [hk]) rfl hv) (fun w J2 hw => ?_)⟩
  obtain ⟨rfl, hR2, hk2, h272⟩ := hw
  conv => whnf
  refine brT rfl ?_
  conv => whnf
  exact ⟨trivial, hn J2 hR2 hk2 h272⟩
theorem lwst17 {c i : Int} {I : ME} {Q : Option MV → ME → Prop} (hL : LW c i I) (hn : ∀ J : ME, Rel (c + 1) J → J 1000 = I 1000 → J 27 0 = 0 → Ev 800 311 1712 [some (rf 1000), some (rf 0), some (rf 53), some (nt i)] [] J Q) : Ev 800 311 815 [some (rf 1000), some (rf 0), some (rf 53), some (nt i)] [] I Q := by
  obtain ⟨h27, hR, hc0, hc, hi0, hi6, hlen, hf⟩ := hL
  have e1 : iad i 1 = i + 1 := iad_e (by omega)
  have e2 : iad i 2 = i + 2 := iad_e (by omega)
  have e3 : iad i 3 = i + 3 := iad_e (by omega)
  refine Ev.go [1712] (T := T_311) rfl rfl ?_
  conv => whnf
  refine anI (by omega) ?_
  conv => whnf
  refine anI (by omega) ?_
  conv => whnf
  refine anI (by omega) ?_
  conv => whnf
  refine ⟨by omega, EvM.mono ((op17.z (by decide) (noR_i (noR_i (noR_i noR_0)))) c I hc0 hc hR h27) (fun v J1 hv => ?_)⟩
  obtain ⟨hk, a, rfl, hv⟩ := hv
  conv => whnf
  refine anI (by rw [hk]; omega) ?_
  conv => whnf
  refine anI (by rw [hk]; omega) ?_
  conv => whnf
  refine anI (by rw [hk]; omega) ?_
  conv => whnf
  refine ⟨by omega, EvM.mono (EvM.to (by rw [hk]) rfl hv) (fun w J2 hw => ?_)⟩
  obtain ⟨rfl, hR2, hk2, h272⟩ := hw
  conv => whnf
  refine brT (lcm_0.mpr rfl) ?_
  conv => whnf
  exact ⟨trivial, hn J2 hR2 hk2 h272⟩
