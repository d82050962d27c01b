/-! THE LAW -/
theorem lw_next {c i : Int} {I : ME} {Q : Option MV → ME → Prop} (hi : 0 ≤ i ∧ i ≤ 4000) (h : ∀ j : Int, j = i + 6 → Ev 800 311 18 [some (rf 1000), some (rf 0), some (rf 53), some (nt j)] [] I Q) : Ev 800 311 1712 [some (rf 1000), some (rf 0), some (rf 53), some (nt i)] [] I Q := by
  refine Ev.go [18] (T := T_311) rfl rfl ?_
  conv => whnf
  exact ⟨trivial, h (iad i 6) (iad_e (by omega))⟩
set_option maxHeartbeats 4000000 in
set_option maxRecDepth 100000 in
theorem lw_turn {c i : Int} {I : ME} {Q : Option MV → ME → Prop} (h27 : I 27 0 = 0) (hR : Rel c I) (hc0 : 0 ≤ c) (hi : i = 6 * c) (hi2 : i ≤ 4000) (hlen0 : 0 ≤ I 1000 (-1)) (hlen : I 1000 (-1) ≤ 3072) (hf : ∀ j, IR (I 1000 j)) (hQ : Q (some (nt 1)) I)
    (hn : c < 512 → ∀ J : ME, Rel (c + 1) J → J 1000 = I 1000 → J 27 0 = 0 → Ev 800 311 1712 [some (rf 1000), some (rf 0), some (rf 53), some (nt i)] [] J Q) : Ev 800 311 18 [some (rf 1000), some (rf 0), some (rf 53), some (nt i)] [] I Q := by
  have e : isb (I 1000 (-1)) 6 = I 1000 (-1) - 6 := isb_e (by omega)
  refine Ev.go [228, 261, 304, 347, 380, 403, 416, 449, 493, 536, 580, 624, 668, 712, 735, 758, 792, 815, 859, 892, 936, 979, 1012, 1035, 1068, 1111, 1154, 1177, 1210, 1233, 1246, 1269, 1282, 1295, 1308, 1321, 1344, 1387, 1410, 1443, 1486, 1559, 1593, 1656, 1689, 1712] (T := T_311) rfl rfl ?_
  conv => whnf
  refine brI (fun q => ?_) (fun q => ?_) <;> rw [e] at q
  · conv => whnf
    exact ⟨trivial, hQ⟩
  · have hc : c < 512 := by omega
    have hn := hn hc
    have hL : LW c i I := ⟨h27, hR, hc0, hc, by omega, by omega, hlen, hf⟩
    conv => whnf
    refine anI (by omega) ?_
    conv => whnf
    refine brI (fun _ => ?_) (fun _ => ?_) <;> conv => whnf
    · exact ⟨trivial, lwst0 hL hn⟩
    refine brI (fun _ => ?_) (fun _ => ?_) <;> conv => whnf
    · exact ⟨trivial, lwst1 hL hn⟩
    refine brI (fun _ => ?_) (fun _ => ?_) <;> conv => whnf
    · exact ⟨trivial, lwst2 hL hn⟩
    refine brI (fun _ => ?_) (fun _ => ?_) <;> conv => whnf
    · exact ⟨trivial, lwst3 hL hn⟩
    refine brI (fun _ => ?_) (fun _ => ?_) <;> conv => whnf
    · exact ⟨trivial, lwst4 hL hn⟩
    refine brI (fun _ => ?_) (fun _ => ?_) <;> conv => whnf
    · exact ⟨trivial, lwst5 hL hn⟩
    refine brI (fun _ => ?_) (fun _ => ?_) <;> conv => whnf
    · exact ⟨trivial, lwst6 hL hn⟩
    refine brI (fun _ => ?_) (fun _ => ?_) <;> conv => whnf
    · exact ⟨trivial, lwst7 hL hn⟩
    refine brI (fun _ => ?_) (fun _ => ?_) <;> conv => whnf
    · exact ⟨trivial, lwst8 hL hn⟩
    refine brI (fun _ => ?_) (fun _ => ?_) <;> conv => whnf
    · exact ⟨trivial, lwst9 hL hn⟩
    refine brI (fun _ => ?_) (fun _ => ?_) <;> conv => whnf
    · exact ⟨trivial, lwst10 hL hn⟩
    refine brI (fun _ => ?_) (fun _ => ?_) <;> conv => whnf
    · exact ⟨trivial, lwst11 hL hn⟩
    refine brI (fun _ => ?_) (fun _ => ?_) <;> conv => whnf
    · exact ⟨trivial, lwst12 hL hn⟩
    refine brI (fun _ => ?_) (fun _ => ?_) <;> conv => whnf
    · exact ⟨trivial, lwst13 hL hn⟩
    refine brI (fun _ => ?_) (fun _ => ?_) <;> conv => whnf
    · exact ⟨trivial, lwst14 hL hn⟩
    refine brI (fun _ => ?_) (fun _ => ?_) <;> conv => whnf
    · exact ⟨trivial, lwst15 hL hn⟩
    refine brI (fun _ => ?_) (fun _ => ?_) <;> conv => whnf
    · exact ⟨trivial, lwst16 hL hn⟩
    refine brI (fun _ => ?_) (fun _ => ?_) <;> conv => whnf
    · exact ⟨trivial, lwst17 hL hn⟩
    refine brI (fun _ => ?_) (fun _ => ?_) <;> conv => whnf
    · exact ⟨trivial, lwst18 hL hn⟩
    refine brI (fun _ => ?_) (fun _ => ?_) <;> conv => whnf
    · exact ⟨trivial, lwst19 hL hn⟩
    refine brI (fun _ => ?_) (fun _ => ?_) <;> conv => whnf
    · exact ⟨trivial, lwst20 hL hn⟩
    refine brI (fun _ => ?_) (fun _ => ?_) <;> conv => whnf
    · exact ⟨trivial, lwst21 hL hn⟩
    refine brI (fun _ => ?_) (fun _ => ?_) <;> conv => whnf
    · exact ⟨trivial, lwst22 hL hn⟩
    refine brI (fun _ => ?_) (fun _ => ?_) <;> conv => whnf
    · exact ⟨trivial, lwst23 hL hn⟩
    refine brI (fun _ => ?_) (fun _ => ?_) <;> conv => whnf
    · exact ⟨trivial, lwst24 hL hn⟩
    refine brI (fun _ => ?_) (fun _ => ?_) <;> conv => whnf
    · exact ⟨trivial, lwst25 hL hn⟩
    refine brI (fun _ => ?_) (fun _ => ?_) <;> conv => whnf
    · exact ⟨trivial, lwst26 hL hn⟩
    refine brI (fun _ => ?_) (fun _ => ?_) <;> conv => whnf
    · exact ⟨trivial, lwst27 hL hn⟩
    refine brI (fun _ => ?_) (fun _ => ?_) <;> conv => whnf
    · exact ⟨trivial, lwst28 hL hn⟩
    refine brI (fun _ => ?_) (fun _ => ?_) <;> conv => whnf
    · exact ⟨trivial, lwst29 hL hn⟩
    refine brI (fun _ => ?_) (fun _ => ?_) <;> conv => whnf
    · exact ⟨trivial, lwst30 hL hn⟩
    refine brI (fun _ => ?_) (fun _ => ?_) <;> conv => whnf
    · exact ⟨trivial, lwst31 hL hn⟩
    refine brI (fun _ => ?_) (fun _ => ?_) <;> conv => whnf
    · exact ⟨trivial, lwst32 hL hn⟩
    refine brI (fun _ => ?_) (fun _ => ?_) <;> conv => whnf
    · exact ⟨trivial, lwst33 hL hn⟩
    refine brI (fun _ => ?_) (fun _ => ?_) <;> conv => whnf
    · exact ⟨trivial, lwst34 hL hn⟩
    refine brI (fun _ => ?_) (fun _ => ?_) <;> conv => whnf
    · exact ⟨trivial, lwst35 hL hn⟩
    refine brI (fun _ => ?_) (fun _ => ?_) <;> conv => whnf
    · exact ⟨trivial, lwst36 hL hn⟩
    refine brI (fun _ => ?_) (fun _ => ?_) <;> conv => whnf
    · exact ⟨trivial, lwst37 hL hn⟩
    refine brI (fun _ => ?_) (fun _ => ?_) <;> conv => whnf
    · exact ⟨trivial, lwst38 hL hn⟩
    refine brI (fun _ => ?_) (fun _ => ?_) <;> conv => whnf
    · exact ⟨trivial, lwst39 hL hn⟩
    refine brI (fun _ => ?_) (fun _ => ?_) <;> conv => whnf
    · exact ⟨trivial, lwst40 hL hn⟩
    refine brI (fun _ => ?_) (fun _ => ?_) <;> conv => whnf
    · exact ⟨trivial, lwst41 hL hn⟩
    refine brI (fun _ => ?_) (fun _ => ?_) <;> conv => whnf
    · exact ⟨trivial, lwst42 hL hn⟩
    refine brI (fun _ => ?_) (fun _ => ?_) <;> conv => whnf
    · exact ⟨trivial, lwst43 hL hn⟩
    refine brI (fun _ => ?_) (fun _ => ?_) <;> conv => whnf
    · exact ⟨trivial, lwst44 hL hn⟩
    exact ⟨trivial, hn I hR.mono rfl h27⟩
theorem law_ev : LawEv := by
  intro f h0 h1 hf
  have key := Ev.wf (d := 800) (k := 311) (pc := 18) (Q := fun v _ => v = some (.inl 1)) (fun m ls J => ∃ c i : Int, c + (m : Int) = 512 ∧ 0 ≤ c ∧ i = 6 * c ∧ ls = [some (rf 1000), some (rf 0), some (rf 53), some (nt i)] ∧ J 27 0 = 0 ∧ Rel c J ∧ J 1000 = f) (fun m ls J hp ih => by
    obtain ⟨c, i, hcm, hc0, hi, rfl, h27, hR, hk⟩ := hp
    refine lw_turn h27 hR hc0 hi (by omega) (by rw [hk]; exact h0) (by rw [hk]; exact h1) (fun j => by rw [hk]; exact hf j) rfl (fun hc J2 hR2 hk2 h272 => ?_)
    refine lw_next (c := c) (by omega) (fun j hj => ?_)
    exact ih (m - 1) _ J2 (by omega) ⟨c + 1, j, by omega, by omega, by omega, rfl, h272, hR2, hk2.trans hk⟩)
  refine key 512 _ (I1 f) ⟨0, 0, by omega, by omega, by omega, rfl, ?_, Rel_0 f, I1_scr f⟩
  rw [I1_z f (by decide +kernel) (by decide +kernel) (by decide)]
  rfl
