def WSIM (e : SE) (n : Nat) : Prop := ∀ {p : Program} {l : Launch} {en : Env} {R : Room} {s : State} {m : MethodId} {args : Array Value} {below : List Frame} {meth : Method} {c : Code} {H : Heap} {locs : List Loc} {cells slots : Nat} {Q : State → Prop}
    (d k pc : Nat) (lsA : Array Slot) (ls : List (Option MV)) (st : List MV) (S : MS) (v : Option MV) (S' : MS), run n d k pc ls st S = some (v, S') → okK k → FrC e k p s m args meth c → meth.name = (yM k).name → SR e (maxM k) s H locs lsA ls st S →
    d ≤ R.frames → 100 * d ≤ R.locals → cells + (S'.1 - S.1) ≤ R.cells → slots + (slN S'.1 - slN S.1) ≤ R.slots →
    (∀ (H' : Heap) (locs' : List Loc) (lsB : Array Slot) (pcr : Nat) (ins : Instr), decode (cdM k) pcr = .ok (ins, 1) → retI ins (retM k) = true → WdR e s H' locs' S' → (v = none ∧ ins = .return_ ∨ ∃ w, v = some w ∧ canV S'.1 w ∧ retB (retM k) w = true) →
      W p l en R s m args below meth c H' locs' (cells + (S'.1 - S.1)) (slots + (slN S'.1 - slN S.1)) Q (F0 m pcr lsB (v.toList.map (trV e)))) →
    W p l en R s m args below meth c H locs cells slots Q (F0 m pc lsA (st.map (trV e)))
theorem canS_app {n : Nat} {a b : List MV} : canS n (a ++ b) ↔ canS n a ∧ canS n b := List.forall_mem_append
theorem canS_rev {n : Nat} {a : List MV} : canS n a.reverse ↔ canS n a := by unfold canS; simp
theorem canV_le {n n' : Nat} (h : n ≤ n') {v : MV} (hv : canV n v) : canV n' v := by
  rcases v with x | x | x
  · exact hv
  · exact hv
  · rcases hv with q | q
    · exact Or.inl (Nat.lt_of_lt_of_le q h)
    · exact Or.inr q
theorem canS_le {n n' : Nat} (h : n ≤ n') {st : List MV} (hs : canS n st) : canS n' st := fun v hv => canV_le h (hs v hv)
theorem lsR_le {e : SE} {n n' mx : Nat} {lsA : Array Slot} {ls : List (Option MV)} (h : n ≤ n') (hl : lsR e n mx lsA ls) : lsR e n' mx lsA ls := ⟨hl.1, hl.2.1, hl.2.2.1, fun j v hj => ⟨(hl.2.2.2 j v hj).1, canV_le h (hl.2.2.2 j v hj).2⟩⟩
theorem byte_keep {a : Int} (h1 : -128 ≤ a) (h2 : a ≤ 127) : ((Int32.ofInt a).toInt8.toInt32).toInt = a := by
  have h : ∀ n : Nat, n < 256 → ((Int32.ofInt ((n : Int) - 128)).toInt8.toInt32).toInt = (n : Int) - 128 := by decide +kernel
  have := h (a + 128).toNat (by omega)
  rwa [show ((a + 128).toNat : Int) - 128 = a by omega] at this
set_option maxHeartbeats 4000000 in
theorem wsim (e : SE) (hok : ∀ k, k < 311 → MW k → okK k) (hMW : ∀ y, y < 311 → okY y = true → MW y) : ∀ n, WSIM e n ∧ MtOK e n := by
  intro n
  induction n with
  | zero =>
    refine ⟨?_, ?_⟩
    · intro p l en R s m args below meth c H locs cells slots Q d k pc lsA ls st S v S' h
      cases h
    · intro d k as S v S' h
      unfold runM at h
      split at h <;> cases h
  | succ n ih =>
    obtain ⟨ihW, ihM⟩ := ih
    have hW1 : WSIM e (n + 1) := by
      intro p l en R s m args below meth c H locs cells slots Q d k pc lsA ls st S v S' h hk hF hin hS hd hlo hce hsl hRH
      obtain ⟨⟨ins, nx, x, y, z, sw⟩, hit, hRI⟩ := run_inv h
      obtain ⟨h0, hE⟩ := hk.1 _ _ hit
      unfold RIN at hRI
      dsimp only at hRI
      obtain ⟨hWd, hL, hc⟩ := hS
      have hc : canS S.1 st := hc
      have hE0 := hE
      rcases hRI with ⟨hr1, hr2, hr3⟩ | ⟨hins, d', as, rest, hd', hst, hlen, hcs, hC⟩ | ⟨⟨i, hi⟩, h1, h2⟩ | ⟨t, ht, h1, st2, hst, h2⟩ | ⟨⟨i, hi⟩, j, hj, w, c0, st2, hst, h1, h3, h2⟩ | ⟨pc2, ls2, st2, S1, h1, h2⟩
      · -- an answer
        subst hr2
        rw [Nat.sub_self, Nat.sub_self] at hRH
        simp only [okB, Bool.and_eq_true, decide_eq_true_eq] at hE
        obtain ⟨hdg, hE⟩ := hE
        have key : decode (cdM k) pc = .ok (ins, 1) ∧ retI ins (retM k) = true := by
          rcases hr1 with rfl | rfl | rfl | rfl
          all_goals
            simp only [Bool.and_eq_true] at hE
            have hn1 := Nat.eq_of_beq_eq_true hE.1
            rw [hn1, Nat.add_sub_cancel_left] at hdg
            exact ⟨hdg, hE.2⟩
        rcases hr3 with ⟨rfl, rfl, -, rfl⟩ | ⟨w, rfl, rfl, hrb, -⟩
        · exact hRH H locs lsA pc _ key.1 key.2 hWd (Or.inl ⟨rfl, rfl⟩)
        · exact hRH H locs lsA pc _ key.1 key.2 hWd (Or.inr ⟨w, rfl, hc w List.mem_cons_self, hrb⟩)
      · -- a call
        subst hst
        subst hd'
        rw [canS_app, canS_rev] at hc
        have hstk : (as.reverse ++ rest).map (trV e) = (as.map (trV e)).reverse ++ rest.map (trV e) := by rw [List.map_append, List.map_reverse]
        have hsum : ((rest.map (trV e)).map fun v => v.category).sum ≤ 8 := by rw [catS_sum]; exact hcs
        rcases hC with ⟨rfl, ⟨c0, rfl, hc0⟩, h2⟩ | ⟨rfl, c0, sp, c1, dp, mm, rfl, hcp, h80, h2⟩ | ⟨⟨hy, -⟩, w, hw, h2⟩ | ⟨hrc, g1, g2, g3, r, S1, h1, h2⟩
        · -- Object's own constructor
          simp only [okB, Bool.and_eq_true, decide_eq_true_eq] at hE
          obtain ⟨hdg, hE⟩ := hE
          rcases hins with ⟨i, rfl⟩ | ⟨i, rfl⟩ | ⟨i, rfl⟩
          · simp only [Bool.and_eq_true] at hE
            have := hE.1.1.1.2
            unfold okY at this
            rw [Bool.and_eq_true] at this
            have := ltB this.1
            omega
          · simp only [show Nat.beq 9001 9001 = true from rfl, cond_true, Bool.and_eq_true] at hE
            have hn1 := Nat.eq_of_beq_eq_true hE.1
            rw [hn1, Nat.add_sub_cancel_left] at hdg
            rw [hstk]
            refine W.objInit hF.1 hF.2.1 hF.2.2.1 (wAt_use hE.2.1 rfl hF.2.2.2.1) (hF.2.2.2.1 _ fixW.1) (hF.2.2.2.1 _ fixW.2.1) (g := F0 m pc lsA _) rfl (hL.1.trans hF.2.2.2.2.2.2.2.symm) (a := adE e c0) (rest := rest.map (trV e)) rfl hdg (by omega) (by show 2 * 0 + _ + 12 ≤ _; omega) ?_
            have k1 := ihW _ _ _ lsA _ _ _ _ _ h2 hk hF hin ⟨hWd, hL, hc.2⟩ hd hlo hce hsl hRH
            rw [hn1] at k1
            exact k1
          · simp only [show Nat.beq 9001 9002 = false from rfl, show Nat.blt 9002 9001 = false from rfl, cond_false, Bool.and_eq_true] at hE
            have := hE.2.1.1.1
            unfold okY at this
            rw [Bool.and_eq_true] at this
            have := ltB this.1
            omega
        · -- System.arraycopy
          simp only [okB, Bool.and_eq_true, decide_eq_true_eq] at hE
          obtain ⟨hdg, hE⟩ := hE
          rcases hins with ⟨i, rfl⟩ | ⟨i, rfl⟩ | ⟨i, rfl⟩
          · simp only [Bool.and_eq_true] at hE
            have := hE.1.1.1.2
            unfold okY at this
            rw [Bool.and_eq_true] at this
            have := ltB this.1
            omega
          · simp only [show Nat.beq 9002 9001 = false from rfl, cond_false, Bool.and_eq_true] at hE
            have := hE.2.1.1.1.1.1
            unfold okY at this
            rw [Bool.and_eq_true] at this
            have := ltB this.1
            omega
          · simp only [show Nat.beq 9002 9002 = true from rfl, cond_true, Bool.and_eq_true] at hE
            have hn1 := Nat.eq_of_beq_eq_true hE.1
            rw [hn1, Nat.add_sub_cancel_left] at hdg
            rw [hstk]
            simp only [canS_c] at hc
            refine mz_copy (rest := rest.map (trV e)) hF hWd hL.1 (wAt_use hE.2.1 rfl hF.2.2.2.1) hcp h80 hc.1.2.1 hc.1.2.2.2.1 hc.1.2.2.2.2.1 (by omega) (by omega) hdg (fun H1 locs1 hW1 => ?_)
            have k1 := ihW _ _ _ lsA _ _ _ _ _ h2 hk hF hin ⟨hW1, hL, hc.2⟩ hd hlo hce hsl hRH
            rw [hn1] at k1
            exact k1
        · -- abs, max, min
          simp only [okB, Bool.and_eq_true, decide_eq_true_eq] at hE
          obtain ⟨hdg, hE⟩ := hE
          rcases hins with ⟨i, rfl⟩ | ⟨i, rfl⟩ | ⟨i, rfl⟩
          · simp only [Bool.and_eq_true] at hE
            have := hE.1.1.1.2
            unfold okY at this
            rw [Bool.and_eq_true] at this
            have := ltB this.1
            omega
          · rw [show Nat.beq y 9001 = false from by cases hz : Nat.beq y 9001 with | false => rfl | true => have := Nat.eq_of_beq_eq_true hz; omega] at hE
            simp only [cond_false, Bool.and_eq_true] at hE
            have := hE.2.1.1.1.1.1
            unfold okY at this
            rw [Bool.and_eq_true] at this
            have := ltB this.1
            omega
          · rw [show Nat.beq y 9002 = false from by cases hz : Nat.beq y 9002 with | false => rfl | true => have := Nat.eq_of_beq_eq_true hz; omega, show Nat.blt 9002 y = true from Nat.ble_eq_true_of_le hy] at hE
            simp only [cond_true, cond_false, Bool.and_eq_true] at hE
            have hn1 := Nat.eq_of_beq_eq_true hE.1
            rw [hn1, Nat.add_sub_cancel_left] at hdg
            have hlink := wAt_use hE.2.2 rfl hF.2.2.2.1
            rw [hstk]
            have k1 : canV S.1 (.inl w) → W p l en R s m args below meth c H locs cells slots Q (F0 m (pc + 3) lsA (.int (Int32.ofInt w) :: rest.map (trV e))) := fun hcw => by
              have k1 := ihW _ _ _ lsA _ _ _ _ _ h2 hk hF hin ⟨hWd, hL, canS_c.mpr ⟨hcw, hc.2⟩⟩ hd hlo hce hsl hRH
              rw [hn1] at k1
              exact k1
            have hcl : cells ≤ R.cells := by omega
            have hsl2 : slots ≤ R.slots := by omega
            have hml2 : c.maxLocals = lsA.size := hF.2.2.2.2.2.2.2.trans hL.1.symm
            rcases hw with ⟨a, rfl, rfl, rfl⟩ | ⟨a, b, rfl, rfl, rfl⟩ | ⟨a, b, rfl, rfl, rfl⟩
            · have ha : IR a := hc.1 _ List.mem_cons_self
              refine va_mabs (rest := rest.map (trV e)) hF.1 hF.2.1 hml2 hF.2.2.1 hlink (hF.2.2.2.1 _ fixM.1.1) (hF.2.2.2.1 _ fixW.2.2.2.2.2.2.2) (hF.2.2.2.1 _ fixM.1.2) (by omega) (by omega) hcl hsl2 hdg ?_
              rw [← o_iab ha]
              exact k1 (ir_iab ha)
            · have ha : IR a := hc.1 (.inl a) List.mem_cons_self
              have hb : IR b := hc.1 (.inl b) (List.mem_cons_of_mem _ List.mem_cons_self)
              refine va_mmax (rest := rest.map (trV e)) hF.1 hF.2.1 hml2 hF.2.2.1 hlink (hF.2.2.2.1 _ fixM.2.1.1) (hF.2.2.2.1 _ fixW.2.2.2.2.2.2.2) (hF.2.2.2.1 _ fixM.2.1.2) (by omega) (by omega) hcl hsl2 hdg ?_
              rw [← o_imx ha hb]
              exact k1 (ir_imx ha hb)
            · have ha : IR a := hc.1 (.inl a) List.mem_cons_self
              have hb : IR b := hc.1 (.inl b) (List.mem_cons_of_mem _ List.mem_cons_self)
              refine va_mmin (rest := rest.map (trV e)) hF.1 hF.2.1 hml2 hF.2.2.1 hlink (hF.2.2.2.1 _ fixM.2.2.1) (hF.2.2.2.1 _ fixW.2.2.2.2.2.2.2) (hF.2.2.2.1 _ fixM.2.2.2) (by omega) (by omega) hcl hsl2 hdg ?_
              rw [← o_imn ha hb]
              exact k1 (ir_imn ha hb)
        · -- a method of ours
          have c1 := runM_cnt h1
          have c2 := run_cnt _ _ _ _ _ _ _ _ _ h2
          have m1 := slN_mono c1.1
          have m2 := slN_mono c2.1
          refine mz_inv hE0 hins g1 g2 g3 hrc hlen hcs hF hWd hL.1 hc.1 (fun hy => ?_) (fun hy hMy => ihM _ _ _ _ _ _ h1 hy hMy hWd.2.2.2 hc.1 l) hd hlo (by omega) (by omega) (fun H1 locs1 hW1 hcn => ?_)
          · have hY : okY y = true := by
              simp only [okB, Bool.and_eq_true, decide_eq_true_eq] at hE
              obtain ⟨-, hE⟩ := hE
              rcases hins with ⟨i, rfl⟩ | ⟨i, rfl⟩ | ⟨i, rfl⟩
              · simp only [Bool.and_eq_true] at hE
                exact hE.1.1.1.2
              · rw [show Nat.beq y 9001 = false from by cases hz : Nat.beq y 9001 with | false => rfl | true => exact absurd (Nat.eq_of_beq_eq_true hz) g1] at hE
                simp only [cond_false, Bool.and_eq_true] at hE
                exact hE.2.1.1.1.1.1
              · rw [show Nat.beq y 9002 = false from by cases hz : Nat.beq y 9002 with | false => rfl | true => exact absurd (Nat.eq_of_beq_eq_true hz) g3, show Nat.blt 9002 y = false from by cases hz : Nat.blt 9002 y with | false => rfl | true => exact absurd (ltB hz) (by omega)] at hE
                simp only [cond_false, Bool.and_eq_true] at hE
                exact hE.2.1.1.1
            exact hMW y hy hY
          · refine ihW _ _ _ lsA _ _ _ _ _ h2 hk hF hin ⟨hW1, lsR_le c1.1 hL, canS_app.mpr ⟨?_, canS_le c1.1 hc.2⟩⟩ hd hlo (by omega) (by omega) (fun H' locs' lsB pcr ins' q1 q2 q3 q4 => ?_)
            · cases r with
              | none => intro v hv; cases hv
              | some w => exact fun v hv => by rw [List.mem_singleton.mp hv]; exact hcn w rfl
            · have k1 := hRH H' locs' lsB pcr ins' q1 q2 q3 q4
              rwa [show cells + (S'.1 - S.1) = cells + (S1.1 - S.1) + (S'.1 - S1.1) by have := c1.1; have := c2.1; omega, show slots + (slN S'.1 - slN S.1) = slots + (slN S1.1 - slN S.1) + (slN S'.1 - slN S1.1) by omega] at k1
      · -- a new object
        subst hi
        simp only [okB, Bool.and_eq_true, decide_eq_true_eq] at hE
        obtain ⟨hdg, ⟨⟨hn1, hz⟩, hw⟩⟩ := hE
        have hn1 := Nat.eq_of_beq_eq_true hn1
        rw [hn1, Nat.add_sub_cancel_left] at hdg
        have c2 : S.1 + 1 ≤ S'.1 := (run_cnt _ _ _ _ _ _ _ _ _ h2).1
        have m1 : slN S.1 ≤ slN (S.1 + 1) := slN_mono (Nat.le_succ S.1)
        have m2 := slN_mono c2
        obtain ⟨-, -, h80⟩ := isO_K h1
        have ead : adE e S.1 = bsE e + S.1 := by unfold adE; rw [if_pos (by omega)]
        refine mz_new hF hWd (ltB hz) (gw_in hw rfl) h1 hdg (by omega) (by omega) (fun H1 hW1 => ?_)
        have k1 := ihW _ _ _ lsA _ _ _ _ _ h2 hk hF hin ⟨hW1, lsR_le (Nat.le_succ _) hL, canS_c.mpr ⟨Or.inl (Nat.lt_succ_self S.1), canS_le (Nat.le_succ _) hc⟩⟩ hd hlo (cells := cells + 1) (slots := slots + (slN (S.1 + 1) - slN S.1)) (by show cells + 1 + (S'.1 - (S.1 + 1)) ≤ _; omega) (by show slots + (slN (S.1 + 1) - slN S.1) + (slN S'.1 - slN (S.1 + 1)) ≤ _; omega) (fun H' locs' lsB pcr ins' q1 q2 q3 q4 => by
          have k1 := hRH H' locs' lsB pcr ins' q1 q2 q3 q4
          rwa [show cells + (S'.1 - S.1) = cells + 1 + (S'.1 - (S.1 + 1)) by omega, show slots + (slN S'.1 - slN S.1) = slots + (slN (S.1 + 1) - slN S.1) + (slN S'.1 - slN (S.1 + 1)) by omega] at k1)
        rw [hn1] at k1
        simp only [List.map_cons, trV, ead] at k1
        exact k1
      · -- a new row
        subst ht
        subst hst
        simp only [okB, Bool.and_eq_true, decide_eq_true_eq] at hE
        obtain ⟨hdg, hn1⟩ := hE
        have hn1 := Nat.eq_of_beq_eq_true hn1
        rw [hn1, Nat.add_sub_cancel_left] at hdg
        rw [canS_c] at hc
        have c2 : S.1 + 1 ≤ S'.1 := (run_cnt _ _ _ _ _ _ _ _ _ h2).1
        have m1 : slN S.1 ≤ slN (S.1 + 1) := slN_mono (Nat.le_succ S.1)
        have m2 := slN_mono c2
        have h80 : S.1 < 80 := by
          cases t <;> first | (cases h1; done) | (obtain ⟨_, _, _, _, q⟩ := isA_K h1; exact q)
        have ead : adE e S.1 = bsE e + S.1 := by unfold adE; rw [if_pos (by omega)]
        simp only [List.map_cons, trV]
        refine mz_newa hF hWd h1 rfl hdg (by omega) (by omega) (fun H1 hW1 => ?_)
        have k1 := ihW _ _ _ lsA _ _ _ _ _ h2 hk hF hin ⟨hW1, lsR_le (Nat.le_succ _) hL, canS_c.mpr ⟨Or.inl (Nat.lt_succ_self S.1), canS_le (Nat.le_succ _) hc.2⟩⟩ hd hlo (cells := cells + 1) (slots := slots + (slN (S.1 + 1) - slN S.1)) (by show cells + 1 + (S'.1 - (S.1 + 1)) ≤ _; omega) (by show slots + (slN (S.1 + 1) - slN S.1) + (slN S'.1 - slN (S.1 + 1)) ≤ _; omega) (fun H' locs' lsB pcr ins' q1 q2 q3 q4 => by
          have k1 := hRH H' locs' lsB pcr ins' q1 q2 q3 q4
          rwa [show cells + (S'.1 - S.1) = cells + 1 + (S'.1 - (S.1 + 1)) by omega, show slots + (slN S'.1 - slN S.1) = slots + (slN (S.1 + 1) - slN S.1) + (slN S'.1 - slN (S.1 + 1)) by omega] at k1)
        rw [hn1] at k1
        simp only [List.map_cons, trV, ead] at k1
        exact k1
      · -- a reference into a field
        subst hi
        subst hj
        subst hst
        simp only [canS_c] at hc
        have hE1 := hE
        simp only [okB, Bool.and_eq_true, decide_eq_true_eq] at hE
        have hn1 := Nat.eq_of_beq_eq_true hE.2.1.1.1.1.1.1.1
        subst hn1
        refine mz_putR (i := i) (j := j) hF hWd hin (h0 := h0) (x := x) (z := z) ?_ h1 hc.1 h3 hc.2.1 (fun H1 locs1 hW1 => ?_)
        · exact hE1
        · exact ihW _ _ _ lsA _ _ _ _ _ h2 hk hF hin ⟨hW1, hL, hc.2.2⟩ hd hlo hce hsl hRH
      · -- all else
        have e1 := (stpT_S h1).1
        refine stepW e hE hF ⟨hWd, hL, hc⟩ h1 hin (fun H1 locs1 lsB q1 q2 q3 => ?_)
        refine ihW _ _ _ lsB _ _ _ _ _ h2 hk hF hin q3 hd hlo (by rw [e1]; exact hce) (by rw [e1]; exact hsl) (fun H' locs' lsC pcr ins' r1 r2 r3 r4 => ?_)
        have k1 := hRH H' locs' lsC pcr ins' r1 r2 r3 r4
        rwa [← e1] at k1
    refine ⟨hW1, ?_⟩
    intro d k as S v S' h hk hMk hRV hca l
    unfold runM at h
    split at h
    · cases h
    rename_i ls hls
    refine Met.ofW (cc := cdM k) (maxL := maxM k) (ret := rtM k) hMk.2.2.1 rfl ?_
    intro p en s m args below meth c s₁ B hml hv
    obtain ⟨rfl, hP, hsz, hKS, hHB, hbs⟩ := hv
    have hts0 := atoms_spec (ws := wsK k) B.pre
    have hF : FrC e k p s m (as.map (trV e)).toArray meth c := ⟨B.exec, B.bytes, findClass_of_methodNamed B.named, fun w hw => hts0 w (List.mem_cons_of_mem _ hw), hKS, hHB, hbs, hml⟩
    rw [lg_entry_eq]
    refine hW1 d k 0 _ ls [] S v S' h (hok k hk hMk) hF (name_of_methodNamed B.named B.method).1 ⟨⟨hP, hsz, va_S.rf, hRV⟩, entL_R hls hca, fun v hv => by cases hv⟩ (Nat.le_refl _) (Nat.le_refl _) (by show 0 + (S'.1 - S.1) ≤ S'.1 - S.1; omega) (by show 0 + (slN S'.1 - slN S.1) ≤ slN S'.1 - slN S.1; omega) (fun H' locs' lsB pcr ins hdg hri hWd hv => ?_)
    rw [Nat.zero_add, Nat.zero_add]
    obtain ⟨hP', hsz', hVS', hRV'⟩ := hWd
    have hq : ∀ t : State, t.heap = H' → s.WarmedH t.vm → QmE e v S' (as.map (trV e)).toArray s (.returned (v.map (trV e))) t := fun t ht _ =>
      ⟨rfl, ⟨by rw [ht]; exact hP', by rw [ht]; exact hsz', hRV', fun w hw => by
        rcases hv with ⟨rfl, -⟩ | ⟨w', rfl, hc, -⟩
        · cases hw
        · cases hw; exact hc⟩, hVS'.F ht⟩
    have hlk := B.notSynchronized
    have hrt := hMk.2.2.2.2.2.2.2.2
    have hret := B.returns
    rcases hv with ⟨rfl, rfl⟩ | ⟨w, rfl, hcw, hrb⟩
    · have h0 : retM k = 0 := Nat.eq_of_beq_eq_true hri
      have hr0 : rtM k = none := by
        rcases hrt with q | q | q | q | q | q
        · exact q.2
        all_goals (have := q.1; omega)
      exact W.vret B.exec B.bytes (hret.trans hr0) hq hVS'.2.2 hdg hlk
    · rcases hrt with q | q | q | q | ⟨q1, nm, q2⟩ | q
      · rw [q.1] at hrb
        cases hrb
      · rw [q.1] at hrb hri
        rcases w with a | a | a
        · have hins : ins = .ireturn := by cases ins <;> first | rfl | cases hri
          subst hins
          exact W.iret B.exec B.bytes (hret.trans q.2) hq hVS'.2.2 hdg hlk
        · cases hrb
        · cases hrb
      · rw [q.1] at hrb hri
        rcases w with a | a | a
        · have hins : ins = .ireturn := by cases ins <;> first | rfl | cases hri
          subst hins
          refine W.zret B.exec B.bytes (hret.trans q.2) ?_ hq hVS'.2.2 hdg hlk
          have hrb : (decide (a = 0) || decide (a = 1)) = true := hrb
          rw [Bool.or_eq_true, decide_eq_true_eq, decide_eq_true_eq] at hrb
          rcases hrb with rfl | rfl <;> rfl
        · cases hrb
        · cases hrb
      · rw [q.1] at hrb hri
        rcases w with a | a | a
        · cases hrb
        · have hins : ins = .lreturn := by cases ins <;> first | rfl | cases hri
          subst hins
          exact W.lret B.exec B.bytes (hret.trans q.2) hq hVS'.2.2 hdg hlk
        · cases hrb
      · rw [q1] at hrb hri
        rcases w with a | a | a
        · cases hrb
        · cases hrb
        · have hins : ins = .areturn := by cases ins <;> first | rfl | cases hri
          subst hins
          exact W.aret B.exec B.bytes (hret.trans q2) (Or.inl ⟨nm, rfl⟩) (Or.inr ⟨_, rfl⟩) hq hVS'.2.2 hdg hlk
      · rw [q.1] at hrb hri
        rcases w with a | a | a
        · have hins : ins = .ireturn := by cases ins <;> first | rfl | cases hri
          subst hins
          refine W.zret B.exec B.bytes (hret.trans q.2) ?_ hq hVS'.2.2 hdg hlk
          have hrb : (decide (-128 ≤ a) && decide (a ≤ 127)) = true := hrb
          rw [Bool.and_eq_true, decide_eq_true_eq, decide_eq_true_eq] at hrb
          show Value.int _ = Value.int _
          congr 1
          rw [← Int32.toInt_inj, to_of32 hcw]
          exact byte_keep hrb.1 hrb.2
        · cases hrb
        · cases hrb
