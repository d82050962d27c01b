/-! THE LAW'S STEPS -/
theorem lwst27 {c i : Int} {I : ME} {Q : Option MV → ME → Prop} (hL : LW c i I) (hn : ∀ J : ME, Rel (c + 1) J → J 1000 = I 1000 → J 27 0 = 0 → Ev 800 311 1712 [some (rf 1000), some (rf 0), some (rf 53), some (nt i)] [] J Q) : Ev 800 311 1177 [some (rf 1000), some (rf 0), some (rf 53), some (nt i)] [] I Q := by
  obtain ⟨h27, hR, hc0, hc, hi0, hi6, hlen, hf⟩ := hL
  have e1 : iad i 1 = i + 1 := iad_e (by omega)
  have e2 : iad i 2 = i + 2 := iad_e (by omega)
  refine Ev.go [1712] (T := T_311) rfl rfl ?_
  conv => whnf
  refine anI (by omega) ?_
  conv => whnf
  refine anI (by omega) ?_
  conv => whnf
  refine ⟨by omega, EvM.mono ((op27.z (by decide) (noR_i (noR_i noR_0))) c I hc0 hc hR h27) (fun v J1 hv => ?_)⟩
  obtain ⟨hk, a, rfl, hv⟩ := hv
  conv => whnf
  refine anI (by rw [hk]; omega) ?_
  conv => whnf
  refine anI (by rw [hk]; omega) ?_
  conv => whnf
  refine ⟨by omega, EvM.mono (EvM.to (by rw [hk]) rfl hv) (fun w J2 hw => ?_)⟩
  obtain ⟨rfl, hR2, hk2, h272⟩ := hw
  conv => whnf
  refine brT rfl ?_
  conv => whnf
  exact ⟨trivial, hn J2 hR2 hk2 h272⟩
theorem lwst28 {c i : Int} {I : ME} {Q : Option MV → ME → Prop} (hL : LW c i I) (hn : ∀ J : ME, Rel (c + 1) J → J 1000 = I 1000 → J 27 0 = 0 → Ev 800 311 1712 [some (rf 1000), some (rf 0), some (rf 53), some (nt i)] [] J Q) : Ev 800 311 1210 [some (rf 1000), some (rf 0), some (rf 53), some (nt i)] [] I Q := by
  obtain ⟨h27, hR, hc0, hc, hi0, hi6, hlen, hf⟩ := hL
  have e1 : iad i 1 = i + 1 := iad_e (by omega)
  refine Ev.go [1712] (T := T_311) rfl rfl ?_
  conv => whnf
  refine anI (by omega) ?_
  conv => whnf
  refine ⟨by omega, EvM.mono (((op28 (hf _).1 (hf _).2).z (by decide) (noR_i noR_0)) c I hc0 hc hR h27) (fun v J1 hv => ?_)⟩
  obtain ⟨hk, a, rfl, hv⟩ := hv
  conv => whnf
  refine anI (by rw [hk]; omega) ?_
  conv => whnf
  refine ⟨by omega, EvM.mono (EvM.to (by rw [hk]) rfl hv) (fun w J2 hw => ?_)⟩
  obtain ⟨rfl, hR2, hk2, h272⟩ := hw
  conv => whnf
  refine brT rfl ?_
  conv => whnf
  exact ⟨trivial, hn J2 hR2 hk2 h272⟩
theorem lwst29 {c i : Int} {I : ME} {Q : Option MV → ME → Prop} (hL : LW c i I) (hn : ∀ J : ME, Rel (c + 1) J → J 1000 = I 1000 → J 27 0 = 0 → Ev 800 311 1712 [some (rf 1000), some (rf 0), some (rf 53), some (nt i)] [] J Q) : Ev 800 311 1233 [some (rf 1000), some (rf 0), some (rf 53), some (nt i)] [] I Q := by
  obtain ⟨h27, hR, hc0, hc, hi0, hi6, hlen, hf⟩ := hL
  refine Ev.go [1712] (T := T_311) rfl rfl ?_
  conv => whnf
  refine ⟨by omega, EvM.mono ((op29.z (by decide) noR_0) c I hc0 hc hR h27) (fun v J1 hv => ?_)⟩
  obtain ⟨hk, a, rfl, hv⟩ := hv
  conv => whnf
  refine ⟨by omega, EvM.mono hv (fun w J2 hw => ?_)⟩
  obtain ⟨rfl, hR2, hk2, h272⟩ := hw
  conv => whnf
  refine brT rfl ?_
  conv => whnf
  exact ⟨trivial, hn J2 hR2 hk2 h272⟩
theorem lwst30 {c i : Int} {I : ME} {Q : Option MV → ME → Prop} (hL : LW c i I) (hn : ∀ J : ME, Rel (c + 1) J → J 1000 = I 1000 → J 27 0 = 0 → Ev 800 311 1712 [some (rf 1000), some (rf 0), some (rf 53), some (nt i)] [] J Q) : Ev 800 311 1246 [some (rf 1000), some (rf 0), some (rf 53), some (nt i)] [] I Q := by
  obtain ⟨h27, hR, hc0, hc, hi0, hi6, hlen, hf⟩ := hL
  have e1 : iad i 1 = i + 1 := iad_e (by omega)
  refine Ev.go [1712] (T := T_311) rfl rfl ?_
  conv => whnf
  refine anI (by omega) ?_
  conv => whnf
  refine ⟨by omega, EvM.mono (((op30 (hf _).1 (hf _).2).z (by decide) (noR_i noR_0)) c I hc0 hc hR h27) (fun v J1 hv => ?_)⟩
  obtain ⟨hk, a, rfl, hv⟩ := hv
  conv => whnf
  refine anI (by rw [hk]; omega) ?_
  conv => whnf
  refine ⟨by omega, EvM.mono (EvM.to (by rw [hk]) rfl hv) (fun w J2 hw => ?_)⟩
  obtain ⟨rfl, hR2, hk2, h272⟩ := hw
  conv => whnf
  refine brT rfl ?_
  conv => whnf
  exact ⟨trivial, hn J2 hR2 hk2 h272⟩
theorem lwst31 {c i : Int} {I : ME} {Q : Option MV → ME → Prop} (hL : LW c i I) (hn : ∀ J : ME, Rel (c + 1) J → J 1000 = I 1000 → J 27 0 = 0 → Ev 800 311 1712 [some (rf 1000), some (rf 0), some (rf 53), some (nt i)] [] J Q) : Ev 800 311 1269 [some (rf 1000), some (rf 0), some (rf 53), some (nt i)] [] I Q := by
  obtain ⟨h27, hR, hc0, hc, hi0, hi6, hlen, hf⟩ := hL
  refine Ev.go [1712] (T := T_311) rfl rfl ?_
  conv => whnf
  refine ⟨by omega, EvM.mono ((op31.z (by decide) noR_0) c I hc0 hc hR h27) (fun v J1 hv => ?_)⟩
  obtain ⟨hk, a, rfl, hv⟩ := hv
  conv => whnf
  refine ⟨by omega, EvM.mono hv (fun w J2 hw => ?_)⟩
  obtain ⟨rfl, hR2, hk2, h272⟩ := hw
  conv => whnf
  refine brT rfl ?_
  conv => whnf
  exact ⟨trivial, hn J2 hR2 hk2 h272⟩
theorem lwst32 {c i : Int} {I : ME} {Q : Option MV → ME → Prop} (hL : LW c i I) (hn : ∀ J : ME, Rel (c + 1) J → J 1000 = I 1000 → J 27 0 = 0 → Ev 800 311 1712 [some (rf 1000), some (rf 0), some (rf 53), some (nt i)] [] J Q) : Ev 800 311 1282 [some (rf 1000), some (rf 0), some (rf 53), some (nt i)] [] I Q := by
  obtain ⟨h27, hR, hc0, hc, hi0, hi6, hlen, hf⟩ := hL
  refine Ev.go [1712] (T := T_311) rfl rfl ?_
  conv => whnf
  refine ⟨by omega, EvM.mono ((op32.z (by decide) noR_0) c I hc0 hc hR h27) (fun v J1 hv => ?_)⟩
  obtain ⟨hk, a, rfl, hv⟩ := hv
  conv => whnf
  refine ⟨by omega, EvM.mono hv (fun w J2 hw => ?_)⟩
  obtain ⟨rfl, hR2, hk2, h272⟩ := hw
  conv => whnf
  refine brT rfl ?_
  conv => whnf
  exact ⟨trivial, hn J2 hR2 hk2 h272⟩
theorem lwst33 {c i : Int} {I : ME} {Q : Option MV → ME → Prop} (hL : LW c i I) (hn : ∀ J : ME, Rel (c + 1) J → J 1000 = I 1000 → J 27 0 = 0 → Ev 800 311 1712 [some (rf 1000), some (rf 0), some (rf 53), some (nt i)] [] J Q) : Ev 800 311 1295 [some (rf 1000), some (rf 0), some (rf 53), some (nt i)] [] I Q := by
  obtain ⟨h27, hR, hc0, hc, hi0, hi6, hlen, hf⟩ := hL
  refine Ev.go [1712] (T := T_311) rfl rfl ?_
  conv => whnf
  refine ⟨by omega, EvM.mono ((op33.z (by decide) noR_0) c I hc0 hc hR h27) (fun v J1 hv => ?_)⟩
  obtain ⟨hk, a, rfl, hv⟩ := hv
  conv => whnf
  refine ⟨by omega, EvM.mono hv (fun w J2 hw => ?_)⟩
  obtain ⟨rfl, hR2, hk2, h272⟩ := hw
  conv => whnf
  refine brT rfl ?_
  conv => whnf
  exact ⟨trivial, hn J2 hR2 hk2 h272⟩
theorem lwst34 {c i : Int} {I : ME} {Q : Option MV → ME → Prop} (hL : LW c i I) (hn : ∀ J : ME, Rel (c + 1) J → J 1000 = I 1000 → J 27 0 = 0 → Ev 800 311 1712 [some (rf 1000), some (rf 0), some (rf 53), some (nt i)] [] J Q) : Ev 800 311 1308 [some (rf 1000), some (rf 0), some (rf 53), some (nt i)] [] I Q := by
  obtain ⟨h27, hR, hc0, hc, hi0, hi6, hlen, hf⟩ := hL
  refine Ev.go [1712] (T := T_311) rfl rfl ?_
  conv => whnf
  refine ⟨by omega, EvM.mono ((op34.z (by decide) noR_0) c I hc0 hc hR h27) (fun v J1 hv => ?_)⟩
  obtain ⟨hk, a, rfl, hv⟩ := hv
  conv => whnf
  refine ⟨by omega, EvM.mono hv (fun w J2 hw => ?_)⟩
  obtain ⟨rfl, hR2, hk2, h272⟩ := hw
  conv => whnf
  refine brT rfl ?_
  conv => whnf
  exact ⟨trivial, hn J2 hR2 hk2 h272⟩
theorem lwst35 {c i : Int} {I : ME} {Q : Option MV → ME → Prop} (hL : LW c i I) (hn : ∀ J : ME, Rel (c + 1) J → J 1000 = I 1000 → J 27 0 = 0 → Ev 800 311 1712 [some (rf 1000), some (rf 0), some (rf 53), some (nt i)] [] J Q) : Ev 800 311 1321 [some (rf 1000), some (rf 0), some (rf 53), some (nt i)] [] I Q := by
  obtain ⟨h27, hR, hc0, hc, hi0, hi6, hlen, hf⟩ := hL
  have e1 : iad i 1 = i + 1 := iad_e (by omega)
  refine Ev.go [1712] (T := T_311) rfl rfl ?_
  conv => whnf
  refine anI (by omega) ?_
  conv => whnf
  refine ⟨by omega, EvM.mono ((op35.z (by decide) (noR_i noR_0)) c I hc0 hc hR h27) (fun v J1 hv => ?_)⟩
  obtain ⟨hk, a, rfl, hv⟩ := hv
  conv => whnf
  refine anI (by rw [hk]; omega) ?_
  conv => whnf
  refine ⟨by omega, EvM.mono (EvM.to (by rw [hk]) rfl hv) (fun w J2 hw => ?_)⟩
  obtain ⟨rfl, hR2, hk2, h272⟩ := hw
  conv => whnf
  refine brT rfl ?_
  conv => whnf
  exact ⟨trivial, hn J2 hR2 hk2 h272⟩
