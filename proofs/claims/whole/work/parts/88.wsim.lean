/-- the methods' contracts, for runs of that length -/
def MtOK (e : SE) (n : Nat) : Prop := ∀ (d k : Nat) (as : List MV) (S : MS) (v : Option MV) (S' : MS), runM n d k as S = some (v, S') → k < 311 → MW k → RVE e S → canS S.1 as →
  ∀ l : Launch, Met l (yM k) (wsK k) (rmE d (S'.1 - S.1) (slN S'.1 - slN S.1)) (PcE e as S) (QmE e v S') (S'.1 - S.1) (slN S'.1 - slN S.1) (AE e)
section SIMRUN
variable {p : Program} {l : Launch} {en : Env} {R : Room} {s : State} {m : MethodId} {args : Array Value} {below : List Frame} {meth : Method} {c : Code} {H : Heap} {locs : List Loc} {cells slots : Nat} {Q : State → Prop}
/-- a call, by its contract -/
theorem mz_inv {e : SE} {k pc h0 : Nat} {ins : Instr} {nx y z : Nat} {x : Int} {sw : List (Int × Nat)} {lsA : Array Slot} {S S1 : MS} {as rest : List MV} {d' : Nat} {r : Option MV} (hE : okB k pc (ins, nx, x, y, z, sw) h0 = true) (hins : (∃ i, ins = .invokevirtual i) ∨ (∃ i, ins = .invokespecial i) ∨ ∃ i, ins = .invokestatic i) (h1 : y ≠ 9001) (h2 : y ≤ 9002) (h3 : y ≠ 9002) (hrc : rcvB y as = true) (hlen : as.length = z) (hcs : catS rest ≤ 8)
    (hF : FrC e k p s m args meth c) (hW : WdR e s H locs S) (hls : lsA.size = maxM k) (hca : canS S.1 as) (hMW : y < 311 → MW y)
    (hM : y < 311 → MW y → Met l (yM y) (wsK y) (rmE d' (S1.1 - S.1) (slN S1.1 - slN S.1)) (PcE e as S) (QmE e r S1) (S1.1 - S.1) (slN S1.1 - slN S.1) (AE e))
    (hfr : d' + 1 ≤ R.frames) (hlo : 100 * (d' + 1) ≤ R.locals) (hce : cells + (S1.1 - S.1) ≤ R.cells) (hsl : slots + (slN S1.1 - slN S.1) ≤ R.slots)
    (kk : ∀ (H1 : Heap) (locs1 : List Loc), WdR e s H1 locs1 S1 → (∀ w, r = some w → canV S1.1 w) → W p l en R s m args below meth c H1 locs1 (cells + (S1.1 - S.1)) (slots + (slN S1.1 - slN S.1)) Q (F0 m nx lsA ((r.toList ++ rest).map (trV e)))) :
    W p l en R s m args below meth c H locs cells slots Q (F0 m pc lsA ((as.reverse ++ rest).map (trV e))) := by
  have hF0 := hF
  obtain ⟨hx, hb, hown, hts, hKS, hHB, hbs, hml⟩ := hF
  obtain ⟨hP, hsz, hVS, hRV⟩ := hW
  have hPU : ∀ U : State, U.heap = H → s.WarmedH U.vm → PcE e as S (as.map (trV e)).toArray U := fun U hU hW => by
    refine ⟨rfl, by rw [hU]; exact hP, by rw [hU]; exact hsz, hKS.warm hW, fun q hq => ?_, by rw [hU]; exact Nat.le_trans hbs hVS.1⟩
    rw [hU, hVS.2.1 q (Nat.lt_of_lt_of_le hq hbs) (Nat.not_le.mpr hq)]
    exact hHB q hq
  have hwk : (rest.map (trV e)).map (fun v => v.category) = (rest.map (trV e)).map fun v => v.category := rfl
  have hWs : 2 * (F0 m pc lsA ((as.reverse ++ rest).map (trV e))).monitorRoom + ((rest.map (trV e)).map fun v => v.category).sum ≤ 8 := lv_room (by rw [catS_sum]; exact hcs)
  have hcf : CallFix p m c (cdM k) (maxM k) s args GWL (ownM k) := ⟨hx, hb, hml, hown, hts⟩
  have hstk : (as.reverse ++ rest).map (trV e) = (as.map (trV e)).reverse ++ rest.map (trV e) := by rw [List.map_append, List.map_reverse]
  have fin : ∀ i3, nx = pc + 3 → decode (cdM k) pc = .ok (ins, 3) → i3 = True → va_Run p l en R s m args below meth c H locs cells slots (S1.1 - S.1) (slN S1.1 - slN S.1) (F0 m pc lsA ((as.reverse ++ rest).map (trV e))) (rest.map (trV e)) (QmE e r S1 (as.map (trV e)).toArray) (AE e) → W p l en R s m args below meth c H locs cells slots Q (F0 m pc lsA ((as.reverse ++ rest).map (trV e))) := by
    intro _ hnx _ _ hr
    refine mz_call hr hVS (fun H1 locs1 hP1 hz1 hS1 hRV1 hcn => ?_)
    have k1 := kk H1 locs1 ⟨hP1, hz1, hS1, hRV1⟩ hcn
    rw [List.map_append, hnx] at k1
    cases r with
    | none => exact k1
    | some w => exact k1
  simp only [okB, Bool.and_eq_true, decide_eq_true_eq] at hE
  obtain ⟨hdg, hE⟩ := hE
  -- the callee's bits
  have bits : ∀ (hy : y < 311) (hMy : MW y), (∀ w ∈ wsK y, ∀ (a' : Array Value) (U : State), s.WarmedH U.vm → w.before a' U = true) ∧ 8 + (maxM y + 11) + (rmE d' (S1.1 - S.1) (slN S1.1 - slN S.1)).locals ≤ R.locals := by
    intro hy hMy
    refine ⟨pay_in hts (wsK_good hMy), ?_⟩
    have h45 := hMy.2.2.2.2.1
    show 8 + (maxM y + 11) + 100 * d' ≤ R.locals
    omega
  have linkd : ∀ i, okC k i y h0 = true → (Jvm.Cond.methodLink (ownM k) i (yM y)).before args s = true ∨ (Jvm.Cond.methodLinkNest (ownM k) i (yM y) "LotteryOfLosses").before args s = true := by
    intro i hC
    unfold okC at hC
    rw [Bool.or_eq_true] at hC
    rcases hC with q | q
    · exact Or.inl (wAt_use q rfl hts)
    · exact Or.inr (va_Nw.use rfl (wAt_nest q rfl hKS.2))
  have y311 : okY y = true → y < 311 := fun h => by
    unfold okY at h
    rw [Bool.and_eq_true] at h
    exact ltB h.1
  rcases hins with ⟨i, rfl⟩ | ⟨i, rfl⟩ | ⟨i, rfl⟩
  · -- a method of an object
    simp only [Bool.and_eq_true, decide_eq_true_eq] at hE
    obtain ⟨⟨⟨⟨hn1, hY⟩, hC⟩, hsv⟩, hpar⟩ := hE
    have hn1 := Nat.eq_of_beq_eq_true hn1
    have hsv := ltB hsv
    have hy := y311 hY
    have hMy := hMW hy
    obtain ⟨b1, b2⟩ := bits hy hMy
    have hM := hM hy hMy
    have hdg3 : decode (cdM k) pc = .ok (.invokevirtual i, 3) := by rw [hn1, Nat.add_sub_cancel_left] at hdg; exact hdg
    have hcl : clsM y ≠ 999 := cl_of_sv hsv hMy
    obtain ⟨hinst, hcls⟩ := hMy.2.2.2.2.2.2.1 hcl
    have hsel := (hMy.2.2.2.2.2.2.2.1 hsv).1
    -- the receiver
    obtain ⟨c0, as', rfl⟩ : ∃ c0 as', as = .inr (.inr c0) :: as' := by
      unfold rcvB at hrc
      rw [show Nat.beq (clsM y) 999 = false from by cases hz : Nat.beq (clsM y) 999 with | false => rfl | true => exact absurd (Nat.eq_of_beq_eq_true hz) hcl] at hrc
      dsimp only [cond_false] at hrc
      split at hrc
      · exact ⟨_, _, rfl⟩
      · cases hrc
    have hrecv : ∃ cellB : Cell, H[adE e c0]? = some cellB ∧ cellB.vm.isStatics = false ∧ s.vm.findClass (ownM y) = some cellB.cls := by
      unfold rcvB at hrc
      rw [show Nat.beq (clsM y) 999 = false from by cases hz : Nat.beq (clsM y) 999 with | false => rfl | true => exact absurd (Nat.eq_of_beq_eq_true hz) hcl] at hrc
      dsimp only [cond_false] at hrc
      rcases hcls with ⟨q1, q2⟩ | ⟨q1, q2⟩
      · rw [q1] at hrc
        simp only [show Nat.beq 100 100 = true from rfl, cond_true, Bool.and_eq_true] at hrc
        have g1 := ltB hrc.1
        have g2 := ltB hrc.2
        have hlt : c0 < 1110 := by
          have := (canS_c.mp hca).1
          rcases this with h | h
          · have := hRV.2.2.2.1; omega
          · unfold kRef at h; omega
        have ead : adE e c0 = akE e c0 := by unfold adE; rw [if_neg (by omega)]
        have h11 := (hKS.2.2.2.2.2.2.2.2.1 (c0 - 1100) (by omega)).1
        rw [show 1100 + (c0 - 1100) = c0 by omega] at h11
        obtain ⟨cell, e1, e2, e3, e4⟩ := h11
        refine ⟨cell, ?_, e2, by rw [q2]; exact e3⟩
        have e5 : akE e c0 < bsE e := Nat.not_le.mp e4
        rw [ead, hVS.2.1 _ (Nat.lt_of_lt_of_le e5 hbs) e4, hHB _ e5]
        exact e1
      · have hz : Nat.beq (clsM y) 100 = false := by cases hz : Nat.beq (clsM y) 100 with | false => rfl | true => have := Nat.eq_of_beq_eq_true hz; omega
        rw [hz] at hrc
        dsimp only [cond_false] at hrc
        obtain ⟨n, hk, h80⟩ := isO_K hrc
        have hc0 : c0 < S.1 := by
          rcases (canS_c.mp hca).1 with h | h
          · exact h
          · unfold kRef at h; omega
        have hat := wlE_at (e := e) hc0
        rw [enE_o hk] at hat
        have ead : adE e c0 = bsE e + c0 := by unfold adE; rw [if_pos (by omega)]
        have h12 := va_recv hKS.1 hP (clAt q1) hat
        rw [ead, ← q2]
        exact h12
    have hpv : PreV s H (ownM y) (adE e c0) (PcE e (.inr (.inr c0) :: as') S) (as'.map (trV e)) := ⟨PcE_blind, hrecv, fun U hU hW => hPU U hU hW⟩
    have hna : ∀ sig, parseMethodDescriptor (yM y).desc = some sig → as'.length = sig.parameters.length := fun sig h => by
      rw [h] at hpar
      have h9 : sig.parameters.length + 1 = z := Option.some.inj hpar
      simp at hlen
      omega
    have hst2 : ((Sum.inr (Sum.inr c0) :: as').reverse ++ rest).map (trV e) = (as'.map (trV e)).reverse ++ Value.ref (adE e c0) :: rest.map (trV e) := by
      rw [List.reverse_cons, List.append_assoc, List.map_append, List.map_reverse]
      rfl
    refine fin True hn1 hdg3 rfl ?_
    rcases linkd i hC with hl | hl
    · exact va_runV hcf hM ⟨⟨rfl, rfl, hfr, b2, b1, List.mem_cons_self, hts _ hMy.1, hts _ hMy.2.1, hMy.2.2.2.1, hna, hl⟩, hts _ hinst, hts _ hsel⟩ hpv rfl (by simp) hls hst2 hWs hdg3 ⟨hce, hsl⟩
    · exact va_runVN hcf hM ⟨⟨⟨rfl, rfl, hfr, b2, b1, List.mem_cons_self⟩, hts _ hMy.1, hts _ hMy.2.1, hMy.2.2.2.1, hna, hl⟩, hts _ hinst, hts _ hsel⟩ hpv rfl (by simp) hls hst2 hWs hdg3 ⟨hce, hsl⟩
  · -- a constructor
    rw [show Nat.beq y 9001 = false from by cases hz : Nat.beq y 9001 with | false => rfl | true => exact absurd (Nat.eq_of_beq_eq_true hz) h1] at hE
    simp only [cond_false, Bool.and_eq_true, decide_eq_true_eq, Bool.not_eq_true'] at hE
    obtain ⟨hn1, ⟨⟨⟨⟨⟨hY, hC⟩, hnc⟩, hnm⟩, hrt⟩, hpar⟩⟩ := hE
    have hn1 := Nat.eq_of_beq_eq_true hn1
    have hrt := Nat.eq_of_beq_eq_true hrt
    have hy := y311 hY
    have hMy := hMW hy
    obtain ⟨b1, b2⟩ := bits hy hMy
    have hM := hM hy hMy
    have hdg3 : decode (cdM k) pc = .ok (.invokespecial i, 3) := by rw [hn1, Nat.add_sub_cancel_left] at hdg; exact hdg
    have hcl : clsM y ≠ 999 := beqF hnc
    obtain ⟨hinst, hcls⟩ := hMy.2.2.2.2.2.2.1 hcl
    have hrn : rtM y = none := by
      rcases hMy.2.2.2.2.2.2.2.2 with q | q | q | q | q | q
      · exact q.2
      all_goals (have := q.1; omega)
    obtain ⟨c0, as', rfl⟩ : ∃ c0 as', as = .inr (.inr c0) :: as' := by
      unfold rcvB at hrc
      rw [hnc] at hrc
      dsimp only [cond_false] at hrc
      split at hrc
      · exact ⟨_, _, rfl⟩
      · cases hrc
    have hps : PreS s H (PcE e (.inr (.inr c0) :: as') S) (.ref (adE e c0) :: as'.map (trV e)) := ⟨PcE_blind, fun U hU hW => hPU U hU hW⟩
    have hna : ∀ sig, parseMethodDescriptor (yM y).desc = some sig → as'.length = sig.parameters.length := fun sig h => by
      rw [h] at hpar
      have h9 : sig.parameters.length + 1 = z := Option.some.inj hpar
      simp at hlen
      omega
    have hst2 : ((Sum.inr (Sum.inr c0) :: as').reverse ++ rest).map (trV e) = (as'.map (trV e)).reverse ++ Value.ref (adE e c0) :: rest.map (trV e) := by
      rw [List.reverse_cons, List.append_assoc, List.map_append, List.map_reverse]
      rfl
    have hcw : Jvm.Cond.code (yM y) (cdM y) (maxM y) none ∈ wsK y := by rw [← hrn]; exact List.mem_cons_self
    have hcg : Jvm.Cond.code (yM y) (cdM y) (maxM y) none ∈ GWL := by rw [← hrn]; exact hMy.1
    refine fin True hn1 hdg3 rfl ?_
    rcases linkd i hC with hl | hl
    · exact va_runI hcf hM ⟨⟨rfl, rfl, hfr, b2, b1, hcw, hts _ hcg, hts _ hMy.2.1, hMy.2.2.2.1, hna, hl⟩, hnm, hts _ hinst⟩ hps rfl (by simp) hls hst2 hWs hdg3 ⟨hce, hsl⟩
    · exact va_runIN hcf hM ⟨⟨⟨rfl, rfl, hfr, b2, b1, hcw⟩, hts _ hcg, hts _ hMy.2.1, hMy.2.2.2.1, hna, hl⟩, hnm, hts _ hinst⟩ hps rfl (by simp) hls hst2 hWs hdg3 ⟨hce, hsl⟩
  · -- a static method
    rw [show Nat.beq y 9002 = false from by cases hz : Nat.beq y 9002 with | false => rfl | true => exact absurd (Nat.eq_of_beq_eq_true hz) h3, show Nat.blt 9002 y = false from by cases hz : Nat.blt 9002 y with | false => rfl | true => exact absurd (ltB hz) (by omega)] at hE
    simp only [cond_false, Bool.and_eq_true, decide_eq_true_eq] at hE
    obtain ⟨hn1, ⟨⟨⟨hY, hC⟩, hnc⟩, hpar⟩⟩ := hE
    have hn1 := Nat.eq_of_beq_eq_true hn1
    have hy := y311 hY
    have hMy := hMW hy
    obtain ⟨b1, b2⟩ := bits hy hMy
    have hM := hM hy hMy
    have hdg3 : decode (cdM k) pc = .ok (.invokestatic i, 3) := by rw [hn1, Nat.add_sub_cancel_left] at hdg; exact hdg
    have hstat := hMy.2.2.2.2.2.1 (Nat.eq_of_beq_eq_true hnc)
    have hps : PreS s H (PcE e as S) (as.map (trV e)) := ⟨PcE_blind, fun U hU hW => hPU U hU hW⟩
    have hna : ∀ sig, parseMethodDescriptor (yM y).desc = some sig → as.length = sig.parameters.length := fun sig h => by
      rw [h] at hpar
      have h9 : sig.parameters.length = z := Option.some.inj hpar
      omega
    refine fin True hn1 hdg3 rfl ?_
    rcases linkd i hC with hl | hl
    · exact va_runS hcf hM ⟨⟨rfl, rfl, hfr, b2, b1, List.mem_cons_self, hts _ hMy.1, hts _ hMy.2.1, hMy.2.2.2.1, hna, hl⟩, hts _ hstat⟩ hps rfl (by simp) hls hstk hWs hdg3 ⟨hce, hsl⟩
    · exact va_runSN hcf hM ⟨⟨⟨rfl, rfl, hfr, b2, b1, List.mem_cons_self⟩, hts _ hMy.1, hts _ hMy.2.1, hMy.2.2.2.1, hna, hl⟩, hts _ hstat, trivial⟩ hps rfl (by simp) hls hstk hWs hdg3 ⟨hce, hsl⟩
end SIMRUN
