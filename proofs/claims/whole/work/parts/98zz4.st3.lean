/-! THE LAW'S STEPS -/
theorem lwst18 {c i : Int} {I : ME} {Q : Option MV → ME → Prop} (hL : LW c i I) (hn : ∀ J : ME, Rel (c + 1) J → J 1000 = I 1000 → J 27 0 = 0 → Ev 800 311 1712 [some (rf 1000), some (rf 0), some (rf 53), some (nt i)] [] J Q) : Ev 800 311 859 [some (rf 1000), some (rf 0), some (rf 53), some (nt i)] [] I Q := by
  obtain ⟨h27, hR, hc0, hc, hi0, hi6, hlen, hf⟩ := hL
  have e1 : iad i 1 = i + 1 := iad_e (by omega)
  have e2 : iad i 2 = i + 2 := iad_e (by omega)
  refine Ev.go [1712] (T := T_311) rfl rfl ?_
  conv => whnf
  refine anI (by omega) ?_
  conv => whnf
  refine anI (by omega) ?_
  conv => whnf
  refine ⟨by omega, EvM.mono ((op18.z (by decide) (noR_i (noR_i noR_0))) c I hc0 hc hR h27) (fun v J1 hv => ?_)⟩
  obtain ⟨hk, a, rfl, hv⟩ := hv
  conv => whnf
  refine anI (by rw [hk]; omega) ?_
  conv => whnf
  refine anI (by rw [hk]; omega) ?_
  conv => whnf
  refine ⟨by omega, EvM.mono (EvM.to (by rw [hk]) rfl hv) (fun w J2 hw => ?_)⟩
  obtain ⟨rfl, hR2, hk2, h272⟩ := hw
  conv => whnf
  refine brT rfl ?_
  conv => whnf
  exact ⟨trivial, hn J2 hR2 hk2 h272⟩
theorem lwst19 {c i : Int} {I : ME} {Q : Option MV → ME → Prop} (hL : LW c i I) (hn : ∀ J : ME, Rel (c + 1) J → J 1000 = I 1000 → J 27 0 = 0 → Ev 800 311 1712 [some (rf 1000), some (rf 0), some (rf 53), some (nt i)] [] J Q) : Ev 800 311 892 [some (rf 1000), some (rf 0), some (rf 53), some (nt i)] [] I Q := by
  obtain ⟨h27, hR, hc0, hc, hi0, hi6, hlen, hf⟩ := hL
  have e1 : iad i 1 = i + 1 := iad_e (by omega)
  have e2 : iad i 2 = i + 2 := iad_e (by omega)
  have e3 : iad i 3 = i + 3 := iad_e (by omega)
  refine Ev.go [1712] (T := T_311) rfl rfl ?_
  conv => whnf
  refine anI (by omega) ?_
  conv => whnf
  refine anI (by omega) ?_
  conv => whnf
  refine anI (by omega) ?_
  conv => whnf
  refine ⟨by omega, EvM.mono (((op19 (hf _)).z (by decide) (noR_i (noR_i (noR_i noR_0)))) c I hc0 hc hR h27) (fun v J1 hv => ?_)⟩
  obtain ⟨hk, a, rfl, hv⟩ := hv
  conv => whnf
  refine anI (by rw [hk]; omega) ?_
  conv => whnf
  refine anI (by rw [hk]; omega) ?_
  conv => whnf
  refine anI (by rw [hk]; omega) ?_
  conv => whnf
  refine ⟨by omega, EvM.mono (EvM.to (by rw [hk]) rfl hv) (fun w J2 hw => ?_)⟩
  obtain ⟨rfl, hR2, hk2, h272⟩ := hw
  conv => whnf
  refine brT (lcm_0.mpr rfl) ?_
  conv => whnf
  exact ⟨trivial, hn J2 hR2 hk2 h272⟩
theorem lwst20 {c i : Int} {I : ME} {Q : Option MV → ME → Prop} (hL : LW c i I) (hn : ∀ J : ME, Rel (c + 1) J → J 1000 = I 1000 → J 27 0 = 0 → Ev 800 311 1712 [some (rf 1000), some (rf 0), some (rf 53), some (nt i)] [] J Q) : Ev 800 311 936 [some (rf 1000), some (rf 0), some (rf 53), some (nt i)] [] I Q := by
  obtain ⟨h27, hR, hc0, hc, hi0, hi6, hlen, hf⟩ := hL
  have e1 : iad i 1 = i + 1 := iad_e (by omega)
  have e2 : iad i 2 = i + 2 := iad_e (by omega)
  have e3 : iad i 3 = i + 3 := iad_e (by omega)
  refine Ev.go [1712] (T := T_311) rfl rfl ?_
  conv => whnf
  refine anI (by omega) ?_
  conv => whnf
  refine anI (by omega) ?_
  conv => whnf
  refine anI (by omega) ?_
  conv => whnf
  refine ⟨by omega, EvM.mono (((op20 (hf _)).z) c I hc0 hc hR h27) (fun v J1 hv => ?_)⟩
  obtain ⟨hk, a, rfl, hv⟩ := hv
  conv => whnf
  refine anI (by rw [hk]; omega) ?_
  conv => whnf
  refine anI (by rw [hk]; omega) ?_
  conv => whnf
  refine anI (by rw [hk]; omega) ?_
  conv => whnf
  refine ⟨by omega, EvM.mono (EvM.to (by rw [hk]) rfl hv) (fun w J2 hw => ?_)⟩
  obtain ⟨rfl, hR2, hk2, h272⟩ := hw
  conv => whnf
  refine brT rfl ?_
  conv => whnf
  exact ⟨trivial, hn J2 hR2 hk2 h272⟩
theorem lwst21 {c i : Int} {I : ME} {Q : Option MV → ME → Prop} (hL : LW c i I) (hn : ∀ J : ME, Rel (c + 1) J → J 1000 = I 1000 → J 27 0 = 0 → Ev 800 311 1712 [some (rf 1000), some (rf 0), some (rf 53), some (nt i)] [] J Q) : Ev 800 311 979 [some (rf 1000), some (rf 0), some (rf 53), some (nt i)] [] I Q := by
  obtain ⟨h27, hR, hc0, hc, hi0, hi6, hlen, hf⟩ := hL
  have e1 : iad i 1 = i + 1 := iad_e (by omega)
  have e2 : iad i 2 = i + 2 := iad_e (by omega)
  refine Ev.go [1712] (T := T_311) rfl rfl ?_
  conv => whnf
  refine anI (by omega) ?_
  conv => whnf
  refine anI (by omega) ?_
  conv => whnf
  refine ⟨by omega, EvM.mono ((op21.z) c I hc0 hc hR h27) (fun v J1 hv => ?_)⟩
  obtain ⟨hk, a, rfl, hv⟩ := hv
  conv => whnf
  refine anI (by rw [hk]; omega) ?_
  conv => whnf
  refine anI (by rw [hk]; omega) ?_
  conv => whnf
  refine ⟨by omega, EvM.mono (EvM.to (by rw [hk]) rfl hv) (fun w J2 hw => ?_)⟩
  obtain ⟨rfl, hR2, hk2, h272⟩ := hw
  conv => whnf
  refine brT rfl ?_
  conv => whnf
  exact ⟨trivial, hn J2 hR2 hk2 h272⟩
theorem lwst22 {c i : Int} {I : ME} {Q : Option MV → ME → Prop} (hL : LW c i I) (hn : ∀ J : ME, Rel (c + 1) J → J 1000 = I 1000 → J 27 0 = 0 → Ev 800 311 1712 [some (rf 1000), some (rf 0), some (rf 53), some (nt i)] [] J Q) : Ev 800 311 1012 [some (rf 1000), some (rf 0), some (rf 53), some (nt i)] [] I Q := by
  obtain ⟨h27, hR, hc0, hc, hi0, hi6, hlen, hf⟩ := hL
  have e1 : iad i 1 = i + 1 := iad_e (by omega)
  refine Ev.go [1712] (T := T_311) rfl rfl ?_
  conv => whnf
  refine anI (by omega) ?_
  conv => whnf
  refine ⟨by omega, EvM.mono ((op22.z) c I hc0 hc hR h27) (fun v J1 hv => ?_)⟩
  obtain ⟨hk, a, rfl, hv⟩ := hv
  conv => whnf
  refine anI (by rw [hk]; omega) ?_
  conv => whnf
  refine ⟨by omega, EvM.mono (EvM.to (by rw [hk]) rfl hv) (fun w J2 hw => ?_)⟩
  obtain ⟨rfl, hR2, hk2, h272⟩ := hw
  conv => whnf
  refine brT rfl ?_
  conv => whnf
  exact ⟨trivial, hn J2 hR2 hk2 h272⟩
theorem lwst23 {c i : Int} {I : ME} {Q : Option MV → ME → Prop} (hL : LW c i I) (hn : ∀ J : ME, Rel (c + 1) J → J 1000 = I 1000 → J 27 0 = 0 → Ev 800 311 1712 [some (rf 1000), some (rf 0), some (rf 53), some (nt i)] [] J Q) : Ev 800 311 1035 [some (rf 1000), some (rf 0), some (rf 53), some (nt i)] [] I Q := by
  obtain ⟨h27, hR, hc0, hc, hi0, hi6, hlen, hf⟩ := hL
  have e1 : iad i 1 = i + 1 := iad_e (by omega)
  have e2 : iad i 2 = i + 2 := iad_e (by omega)
  refine Ev.go [1712] (T := T_311) rfl rfl ?_
  conv => whnf
  refine anI (by omega) ?_
  conv => whnf
  refine anI (by omega) ?_
  conv => whnf
  refine ⟨by omega, EvM.mono ((op23.z) c I hc0 hc hR h27) (fun v J1 hv => ?_)⟩
  obtain ⟨hk, a, rfl, hv⟩ := hv
  conv => whnf
  refine anI (by rw [hk]; omega) ?_
  conv => whnf
  refine anI (by rw [hk]; omega) ?_
  conv => whnf
  refine ⟨by omega, EvM.mono (EvM.to (by rw [hk]) rfl hv) (fun w J2 hw => ?_)⟩
  obtain ⟨rfl, hR2, hk2, h272⟩ := hw
  conv => whnf
  refine brT rfl ?_
  conv => whnf
  exact ⟨trivial, hn J2 hR2 hk2 h272⟩
theorem lwst24 {c i : Int} {I : ME} {Q : Option MV → ME → Prop} (hL : LW c i I) (hn : ∀ J : ME, Rel (c + 1) J → J 1000 = I 1000 → J 27 0 = 0 → Ev 800 311 1712 [some (rf 1000), some (rf 0), some (rf 53), some (nt i)] [] J Q) : Ev 800 311 1068 [some (rf 1000), some (rf 0), some (rf 53), some (nt i)] [] I Q := by
  obtain ⟨h27, hR, hc0, hc, hi0, hi6, hlen, hf⟩ := hL
  have e1 : iad i 1 = i + 1 := iad_e (by omega)
  have e2 : iad i 2 = i + 2 := iad_e (by omega)
  have e3 : iad i 3 = i + 3 := iad_e (by omega)
  refine Ev.go [1712] (T := T_311) rfl rfl ?_
  conv => whnf
  refine anI (by omega) ?_
  conv => whnf
  refine anI (by omega) ?_
  conv => whnf
  refine anI (by omega) ?_
  conv => whnf
  refine ⟨by omega, EvM.mono (((op24 (hf _).2).z) c I hc0 hc hR h27) (fun v J1 hv => ?_)⟩
  obtain ⟨hk, a, rfl, hv⟩ := hv
  conv => whnf
  refine anI (by rw [hk]; omega) ?_
  conv => whnf
  refine anI (by rw [hk]; omega) ?_
  conv => whnf
  refine anI (by rw [hk]; omega) ?_
  conv => whnf
  refine ⟨by omega, EvM.mono (EvM.to (by rw [hk]) rfl hv) (fun w J2 hw => ?_)⟩
  obtain ⟨rfl, hR2, hk2, h272⟩ := hw
  conv => whnf
  refine brT rfl ?_
  conv => whnf
  exact ⟨trivial, hn J2 hR2 hk2 h272⟩
theorem lwst25 {c i : Int} {I : ME} {Q : Option MV → ME → Prop} (hL : LW c i I) (hn : ∀ J : ME, Rel (c + 1) J → J 1000 = I 1000 → J 27 0 = 0 → Ev 800 311 1712 [some (rf 1000), some (rf 0), some (rf 53), some (nt i)] [] J Q) : Ev 800 311 1111 [some (rf 1000), some (rf 0), some (rf 53), some (nt i)] [] I Q := by
  obtain ⟨h27, hR, hc0, hc, hi0, hi6, hlen, hf⟩ := hL
  have e1 : iad i 1 = i + 1 := iad_e (by omega)
  have e2 : iad i 2 = i + 2 := iad_e (by omega)
  have e3 : iad i 3 = i + 3 := iad_e (by omega)
  refine Ev.go [1712] (T := T_311) rfl rfl ?_
  conv => whnf
  refine anI (by omega) ?_
  conv => whnf
  refine anI (by omega) ?_
  conv => whnf
  refine anI (by omega) ?_
  conv => whnf
  refine ⟨by omega, EvM.mono (((op25 (hf _)).z) c I hc0 hc hR h27) (fun v J1 hv => ?_)⟩
  obtain ⟨hk, a, rfl, hv⟩ := hv
  conv => whnf
  refine anI (by rw [hk]; omega) ?_
  conv => whnf
  refine anI (by rw [hk]; omega) ?_
  conv => whnf
  refine anI (by rw [hk]; omega) ?_
  conv => whnf
  refine ⟨by omega, EvM.mono (EvM.to (by rw [hk]) rfl hv) (fun w J2 hw => ?_)⟩
  obtain ⟨rfl, hR2, hk2, h272⟩ := hw
  conv => whnf
  refine brT rfl ?_
  conv => whnf
  exact ⟨trivial, hn J2 hR2 hk2 h272⟩
theorem lwst26 {c i : Int} {I : ME} {Q : Option MV → ME → Prop} (hL : LW c i I) (hn : ∀ J : ME, Rel (c + 1) J → J 1000 = I 1000 → J 27 0 = 0 → Ev 800 311 1712 [some (rf 1000), some (rf 0), some (rf 53), some (nt i)] [] J Q) : Ev 800 311 1154 [some (rf 1000), some (rf 0), some (rf 53), some (nt i)] [] I Q := by
  obtain ⟨h27, hR, hc0, hc, hi0, hi6, hlen, hf⟩ := hL
  have e1 : iad i 1 = i + 1 := iad_e (by omega)
  refine Ev.go [1712] (T := T_311) rfl rfl ?_
  conv => whnf
  refine anI (by omega) ?_
  conv => whnf
  refine ⟨by omega, EvM.mono ((op26.z) c I hc0 hc hR h27) (fun v J1 hv => ?_)⟩
  obtain ⟨hk, a, rfl, hv⟩ := hv
  conv => whnf
  refine anI (by rw [hk]; omega) ?_
  conv => whnf
  refine ⟨by omega, EvM.mono (EvM.to (by rw [hk]) rfl hv) (fun w J2 hw => ?_)⟩
  obtain ⟨rfl, hR2, hk2, h272⟩ := hw
  conv => whnf
  refine brT rfl ?_
  conv => whnf
  exact ⟨trivial, hn J2 hR2 hk2 h272⟩
