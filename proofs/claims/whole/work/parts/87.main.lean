/-! THE SIMULATION of a whole run -/
theorem padN_some {β : Type} {r : β} : ∀ {n : Nat} {K : List (Option MV) → Option β}, padN n K = some r → ∃ ls, K ls = some r ∧ ls.length = n ∧ ∀ (j : Nat) (v : MV), ls[j]? ≠ some (some v)
  | 0, K, h => ⟨[], h, rfl, fun j v hj => by simp at hj⟩
  | n + 1, K, h => by
    obtain ⟨t, a, b, c⟩ := padN_some (n := n) (K := fun t => K (none :: t)) h
    refine ⟨_, a, by simp [b], fun j v hj => ?_⟩
    cases j with
    | zero => simp at hj
    | succ j => exact c j v (by simpa using hj)
theorem entS_some {β : Type} {r : β} : ∀ {as : List MV} {n : Nat} {K : List (Option MV) → Option β}, entS none as n K = some r → ∃ ls, K ls = some r ∧ ls.length = n ∧ (∀ e : SE, (lg_sl (as.map (trV e))).length ≤ n) ∧ ∀ (i : Nat) (j : Nat) (v : MV), ls[j]? = some (some v) → v ∈ as ∧ ∀ e : SE, (i + j, trV e v) ∈ lv_args i (as.map (trV e))
  | [], n, K, h => by
    obtain ⟨ls, a, b, c⟩ := padN_some (show padN n K = some r from h)
    exact ⟨ls, a, b, fun e => by simp [lg_sl], fun i j v hj => absurd hj (c j v)⟩
  | v :: vs, n, K, h => by
    have hsl : ∀ e : SE, lg_sl ((v :: vs).map (trV e)) = (if (trV e v).category = 2 then [.val (trV e v), .second] else [.val (trV e v)]) ++ lg_sl (vs.map (trV e)) := fun e => by
      unfold lg_sl
      rw [List.map_cons, List.flatMap_cons]
    have one : ∀ (n' : Nat) (_ : catV v = 1) (h : entS none vs n' (fun t => K (some v :: t)) = some r), ∃ ls, K ls = some r ∧ ls.length = n' + 1 ∧ (∀ e : SE, (lg_sl ((v :: vs).map (trV e))).length ≤ n' + 1) ∧ ∀ (i : Nat) (j : Nat) (w : MV), ls[j]? = some (some w) → w ∈ v :: vs ∧ ∀ e : SE, (i + j, trV e w) ∈ lv_args i ((v :: vs).map (trV e)) := by
      intro n' hc h
      obtain ⟨t, a, b, b2, c⟩ := entS_some (as := vs) h
      refine ⟨_, a, by simp [b], fun e => ?_, fun i j w hj => ?_⟩
      · have := b2 e
        rw [hsl e, if_neg (by rw [catV_tr, hc]; decide)]
        simp
        omega
      cases j with
      | zero =>
        simp at hj
        subst hj
        exact ⟨List.mem_cons_self, fun e => List.mem_cons_self⟩
      | succ j =>
        obtain ⟨c1, c2⟩ := c (i + 1) j w (by simpa using hj)
        refine ⟨List.mem_cons_of_mem _ c1, fun e => ?_⟩
        rw [List.map_cons]
        unfold lv_args
        rw [if_neg (by rw [catV_tr, hc]; decide)]
        refine List.mem_cons_of_mem _ ?_
        have := c2 e
        rwa [show i + 1 + j = i + (j + 1) by omega] at this
    rcases v with x | x | x
    · cases n with
      | zero => cases h
      | succ n => exact one n rfl h
    · match n, h with
      | 0, h => cases h
      | 1, h => cases h
      | n + 2, h =>
        obtain ⟨t, a, b, b2, c⟩ := entS_some (as := vs) (K := fun t => K (some (.inr (.inl x)) :: none :: t)) h
        refine ⟨_, a, by simp [b], fun e => ?_, fun i j w hj => ?_⟩
        · have := b2 e
          rw [hsl e, if_pos (by rfl)]
          simp
          omega
        match j, hj with
        | 0, hj =>
          simp at hj
          subst hj
          exact ⟨List.mem_cons_self, fun e => List.mem_cons_self⟩
        | 1, hj => simp at hj
        | j + 2, hj =>
          obtain ⟨c1, c2⟩ := c (i + 2) j w (by simpa using hj)
          refine ⟨List.mem_cons_of_mem _ c1, fun e => ?_⟩
          rw [List.map_cons]
          unfold lv_args
          rw [if_pos (by rfl)]
          refine List.mem_cons_of_mem _ ?_
          have := c2 e
          rwa [show i + 2 + j = i + (j + 2) by omega] at this
    · cases n with
      | zero => cases h
      | succ n => exact one n rfl h
theorem entL_some {β : Type} {r : β} {n : Nat} {as : List MV} {K : List (Option MV) → Option β} (h : entL none n as K = some r) : ∃ ls, K ls = some r ∧ ls.length = n ∧ (∀ e : SE, (lg_sl (as.map (trV e))).length ≤ n) ∧ ∀ (i : Nat) (j : Nat) (v : MV), ls[j]? = some (some v) → v ∈ as ∧ ∀ e : SE, (i + j, trV e v) ∈ lv_args i (as.map (trV e)) := entS_some h
theorem entL_R {e : SE} {n mx : Nat} {as : List MV} {ls : List (Option MV)} (h : entL none mx as some = some ls) (hc : canS n as) : lsR e n mx ((lg_sl (as.map (trV e)) ++ List.replicate (mx - (lg_sl (as.map (trV e))).length) Slot.unset).toArray) ls := by
  obtain ⟨l2, h1, h2, h4, h3⟩ := entL_some h
  cases h1
  have hv := lv_entry (as.map (trV e)) (n := mx) (h4 e)
  refine ⟨hv.1, h2, hv.2.1, fun j v hj => ?_⟩
  obtain ⟨g1, g2⟩ := h3 0 j v hj
  have g3 := hv.2.2 _ (g2 e)
  rw [Nat.zero_add] at g3
  exact ⟨g3, hc v g1⟩
-- copies
theorem enE_cpy {e : SE} {R : MR} {I : ME} {c0 c1 k : Nat} {sp dp n : Int} (h : k ≠ c1) : enE e R (cpyM I c0 sp c1 dp n) k = enE e R I k := by
  have hz : ∀ j, cpyM I c0 sp c1 dp n k j = I k j := fun j => by unfold cpyM; rw [if_neg (fun q => h q.1)]
  unfold enE
  split
  · simp only [hz]
  · simp only [hz]
  · congr 2
    apply List.map_congr_left
    intro j _
    unfold fvE
    split <;> simp only [hz]
theorem cpy_fn {α : Type} (mk : Int → α) {I : ME} {c0 c1 : Nat} {sp dp n : Int} (h1 : IR sp) (h2 : IR dp) (h3 : IR n) (g1 : 0 ≤ sp) (g2 : 0 ≤ dp) (g3 : 0 ≤ n) :
    (fun j : Nat => mk (cpyM I c0 sp c1 dp n c1 (Int.ofNat j))) = va_cpy (fun j : Nat => mk (I c0 (Int.ofNat j))) (fun j : Nat => mk (I c1 (Int.ofNat j))) (Int32.ofInt sp).toNatClampNeg (Int32.ofInt dp).toNatClampNeg (Int32.ofInt n).toNatClampNeg := by
  funext j
  rw [clamp32 h1, clamp32 h2, clamp32 h3]
  unfold cpyM va_cpy
  have hj : Int.ofNat j = (j : Int) := rfl
  by_cases q : dp.toNat ≤ j ∧ j < dp.toNat + n.toNat
  · rw [if_pos q, if_pos ⟨rfl, by rw [hj]; omega, by rw [hj]; omega⟩]
    congr 2
    show sp + ((j : Int) - dp) = ((sp.toNat + (j - dp.toNat) : Nat) : Int)
    omega
  · rw [if_neg q, if_neg (fun z => q ⟨by have := z.2.1; rw [hj] at this; omega, by have := z.2.2; rw [hj] at this; omega⟩)]
section MAIN
variable {p : Program} {l : Launch} {en : Env} {R : Room} {s : State} {m : MethodId} {args : Array Value} {below : List Frame} {meth : Method} {c : Code} {H : Heap} {locs : List Loc} {cells slots : Nat} {Q : State → Prop}
theorem mz_copy {e : SE} {k pc i : Nat} {lsA : Array Slot} {rest : List Value} {S : MS} {c0 c1 : Nat} {sp dp n : Int} (hF : FrC e k p s m args meth c) (hW : WdR e s H locs S) (hls : lsA.size = maxM k) (hlink : (Jvm.Cond.methodLink (ownM k) i arraycopyName).before args s = true) (hcp : cpyB c0 sp c1 dp n = true) (h80 : S.1 = 80) (h1 : IR sp) (h2 : IR dp) (h3 : IR n)
    (hf : 1 ≤ R.frames) (hl : (rest.map fun v => v.category).sum + 18 ≤ R.locals) (hdg : decode (cdM k) pc = .ok (.invokestatic i, 3))
    (kk : ∀ (H1 : Heap) (locs1 : List Loc), WdR e s H1 locs1 (S.1, S.2.1, cpyM S.2.2 c0 sp c1 dp n) → W p l en R s m args below meth c H1 locs1 cells slots Q (F0 m (pc + 3) lsA rest)) :
    W p l en R s m args below meth c H locs cells slots Q (F0 m pc lsA (.int (Int32.ofInt n) :: .int (Int32.ofInt dp) :: .ref (adE e c1) :: .int (Int32.ofInt sp) :: .ref (adE e c0) :: rest)) := by
  obtain ⟨hx, hb, hown, hts, hKS, hHB, hbs, hml⟩ := hF
  obtain ⟨hP, hsz, hVS, hcM, h1000, hR, hn, hFr⟩ := hW
  unfold cpyB at hcp
  simp only [Bool.and_eq_true, Bool.or_eq_true, decide_eq_true_eq] at hcp
  obtain ⟨⟨⟨⟨⟨hA, g1⟩, g2⟩, g3⟩, g4⟩, g5⟩ := hcp
  have nn : ∀ z : Int, IR z → 0 ≤ z → ¬ Int32.ofInt z < 0 := fun z hz h0 q => by have := (lt32 hz ir_0).mp q; omega
  have keyp : ∀ (c' : Nat), c' < 80 → adE e c' = bsE e + c' := fun c' h => by unfold adE; rw [if_pos (by omega)]
  have fin : ∀ (hlg : ∀ j, lgS c0 j = lgS c1 j) (hc1 : c1 < 80) (H1 : Heap) (locs1 : List Loc), va_P (dE e) clL (wlE e (S.1, S.2.1, cpyM S.2.2 c0 sp c1 dp n)) H1 → va_S (AE e) s.heap H1 locs1 → WdR e s H1 locs1 (S.1, S.2.1, cpyM S.2.2 c0 sp c1 dp n) := by
    intro hlg hc1 H1 locs1 hP1 hS1
    refine ⟨hP1, fun q => by have q : S.1 < 80 := q; omega, hS1, fun c' j => ?_, fun j => ?_, hR, hn, fun c' q1 q2 => ⟨fun j => ?_, (hFr c' q1 q2).2⟩⟩
    · show if lgS c' j = true then IRL (cpyM S.2.2 c0 sp c1 dp n c' j) else IR (cpyM S.2.2 c0 sp c1 dp n c' j)
      unfold cpyM
      by_cases q : c' = c1 ∧ dp ≤ j ∧ j < dp + n
      · rw [if_pos q]
        obtain ⟨rfl, -⟩ := q
        have hz : lgS c' j = lgS c0 (sp + (j - dp)) := by
          rw [← hlg]
          rcases hA with ⟨a, -⟩ | ⟨a, -⟩
          · obtain ⟨_, _, k1, -⟩ := isA_K a
            rw [lgS_0 k1, lgS_0 k1]
          · obtain ⟨_, _, k1, -⟩ := isA_K a
            rw [lgS_1 k1, lgS_1 k1]
        rw [hz]
        exact hcM _ _
      · rw [if_neg q]
        exact hcM _ _
    · show cpyM S.2.2 c0 sp c1 dp n 1000 j = _
      unfold cpyM
      rw [if_neg (fun q => by omega)]
      exact h1000 j
    · show cpyM S.2.2 c0 sp c1 dp n c' j = 0
      unfold cpyM
      rw [if_neg (fun q => by have q1 : S.1 ≤ c' := q1; have := q.1; omega)]
      exact (hFr c' q1 q2).1 j
  rcases hA with ⟨a0, a1⟩ | ⟨a0, a1⟩
  · obtain ⟨n0, z0, k0, l0, m0⟩ := isA_K a0
    obtain ⟨n1, z1, k1, l1, m1⟩ := isA_K a1
    have at0 := wlE_at (e := e) (S := S) (c := c0) (by omega)
    have at1 := wlE_at (e := e) (S := S) (c := c1) (by omega)
    rw [enE_i k0] at at0
    rw [enE_i k1] at at1
    rw [keyp c0 m0, keyp c1 m1]
    refine va_copyi hx hb (hml.trans hls.symm) hown hlink (hts _ fixW.2.2.2.2.1) (hts _ fixW.2.2.2.2.2.1) (hts _ fixW.2.2.2.2.2.2.1) hKS.1 hP (wlE_D e S) hVS c0 c1 0 0 at0 at1 rfl rfl rfl (nn _ h1 g1) (nn _ h2 g2) (nn _ h3 g3) ?_ ?_ (fun _ _ => rfl) hf ?_ hdg (fun H1 locs1 hP1 _ hS1 => ?_)
    · rw [clamp32 h1, clamp32 h3]; rw [l0] at g4; have : sp + n ≤ (n0 : Int) := g4; omega
    · rw [clamp32 h2, clamp32 h3]; rw [l1] at g5; have : dp + n ≤ (n1 : Int) := g5; omega
    · exact hl
    · rw [← cpy_fn Int32.ofInt h1 h2 h3 g1 g2 g3] at hP1
      refine kk H1 locs1 (fin (fun j => by rw [lgS_0 k0, lgS_0 k1]) m1 H1 locs1 ?_ hS1)
      have hw : wlE e (S.1, S.2.1, cpyM S.2.2 c0 sp c1 dp n) = _ := wlE_set (R := S.2.1) (R' := S.2.1) (I := S.2.2) (I' := cpyM S.2.2 c0 sp c1 dp n) (c := c1) (n := S.1) (fun k' hk' => enE_cpy hk') (enE_i k1)
      rw [hw]
      exact hP1
  · obtain ⟨n0, z0, k0, l0, m0⟩ := isA_K a0
    obtain ⟨n1, z1, k1, l1, m1⟩ := isA_K a1
    have at0 := wlE_at (e := e) (S := S) (c := c0) (by omega)
    have at1 := wlE_at (e := e) (S := S) (c := c1) (by omega)
    rw [enE_l k0] at at0
    rw [enE_l k1] at at1
    rw [keyp c0 m0, keyp c1 m1]
    refine va_copyl hx hb (hml.trans hls.symm) hown hlink (hts _ fixW.2.2.2.2.1) (hts _ fixW.2.2.2.2.2.1) (hts _ fixW.2.2.2.2.2.2.1) hKS.1 hP (wlE_D e S) hVS c0 c1 1 1 at0 at1 rfl rfl rfl (nn _ h1 g1) (nn _ h2 g2) (nn _ h3 g3) ?_ ?_ (fun _ _ => rfl) hf ?_ hdg (fun H1 locs1 hP1 _ hS1 => ?_)
    · rw [clamp32 h1, clamp32 h3]; rw [l0] at g4; have : sp + n ≤ (n0 : Int) := g4; omega
    · rw [clamp32 h2, clamp32 h3]; rw [l1] at g5; have : dp + n ≤ (n1 : Int) := g5; omega
    · exact hl
    · rw [← cpy_fn Int64.ofInt h1 h2 h3 g1 g2 g3] at hP1
      refine kk H1 locs1 (fin (fun j => by rw [lgS_1 k0, lgS_1 k1]) m1 H1 locs1 ?_ hS1)
      have hw : wlE e (S.1, S.2.1, cpyM S.2.2 c0 sp c1 dp n) = _ := wlE_set (R := S.2.1) (R' := S.2.1) (I := S.2.2) (I' := cpyM S.2.2 c0 sp c1 dp n) (c := c1) (n := S.1) (fun k' hk' => enE_cpy hk') (enE_l k1)
      rw [hw]
      exact hP1
/-- a reference into a field -/
theorem mz_putR {e : SE} {k pc i z j : Nat} {x : Int} {lsA : Array Slot} {rest : List Value} {S : MS} {w c0 h0 : Nat} (hF : FrC e k p s m args meth c) (hW : WdR e s H locs S) (hinit : meth.name = (yM k).name) (hE : okB k pc (.putfield i, pc + 3, x, j + 3, z, []) h0 = true) (hk : isO c0 z = true) (hcw : canV S.1 (.inr (.inr w))) (hw1 : w < 1000) (hcc : canV S.1 (.inr (.inr c0)))
    (kk : ∀ (H1 : Heap) (locs1 : List Loc), WdR e s H1 locs1 (S.1, updR S.2.1 c0 j w, S.2.2) → W p l en R s m args below meth c H1 locs1 cells slots Q (F0 m (pc + 3) lsA rest)) :
    W p l en R s m args below meth c H locs cells slots Q (F0 m pc lsA (.ref (adE e w) :: .ref (adE e c0) :: rest)) := by
  obtain ⟨hx, hb, hown, hts, hKS, hHB, hbs, hml⟩ := hF
  obtain ⟨hP, hsz, hVS, hcM, h1000, hR, hn, hFr⟩ := hW
  simp only [okB, Bool.and_eq_true, decide_eq_true_eq] at hE
  obtain ⟨hdg, ⟨⟨⟨⟨⟨⟨⟨-, hz12⟩, hx0⟩, hxn⟩, hF2⟩, hty⟩, hy3⟩, hfn⟩⟩ := hE
  rw [Nat.add_sub_cancel_left] at hdg
  replace hz12 := ltB hz12
  replace hxn := ltB hxn
  replace hty := Nat.eq_of_beq_eq_true hty
  have hjx : j = x.toNat := by
    simp only [Bool.or_eq_true] at hy3
    rcases hy3 with q | q
    · have := ltB q; omega
    · have := Nat.eq_of_beq_eq_true q; omega
  rw [show min (j + 3) 3 = 3 by omega] at hty
  have hlink : (Jvm.Cond.fieldLink (ownM k) i ((clT z).2.1 x.toNat).1 ((clT z).2.1 x.toNat).2.1 ((clT z).2.1 x.toNat).2.2.1).before args s = true ∨ (Jvm.Cond.fieldLinkNest (ownM k) i ((clT z).2.1 x.toNat).1 ((clT z).2.1 x.toNat).2.1 ((clT z).2.1 x.toNat).2.2.1 "LotteryOfLosses").before args s = true := by
    simp only [okF, Bool.or_eq_true] at hF2
    rcases hF2 with q | q
    · exact Or.inl (wAt_use q rfl hts)
    · exact Or.inr (va_Nw.use rfl (wAt_nest q rfl hKS.2))
  have hfin : ((clT z).2.1 x.toNat).2.2.2 = false ∨ (meth.name = "<init>" ∧ ((clT z).2.1 x.toNat).1 = ownM k ∧ (Jvm.Cond.fieldLink (ownM k) i ((clT z).2.1 x.toNat).1 ((clT z).2.1 x.toNat).2.1 ((clT z).2.1 x.toNat).2.2.1).before args s = true) := by
    simp only [Bool.or_eq_true, Bool.and_eq_true, Bool.not_eq_true', decide_eq_true_eq] at hfn
    rcases hfn with q | q
    · exact Or.inl q
    · exact Or.inr ⟨hinit.trans q.1.1, q.1.2, wAt_use q.2 rfl hts⟩
  have htb := okTB_at hz12 hxn
  unfold okTB at htb
  rw [hty] at htb
  obtain ⟨n, hk, h80⟩ := isO_K hk
  have hnn := ((KDL_n _ _ _ _ hk).1 rfl).1
  have hcl : c0 < S.1 := by
    rcases hcc with h | h
    · exact h
    · unfold kRef at h; omega
  have hwl : w < S.1 := by
    rcases hcw with h | h
    · exact h
    · unfold kRef at h; omega
  have hat := wlE_at (e := e) hcl
  rw [enE_o hk] at hat
  have ead : adE e c0 = bsE e + c0 := by unfold adE; rw [if_pos (by omega)]
  rw [ead]
  refine mz_put hx hb hts (clIn hz12) (tyT z) (clTy hz12) (clNm hz12) hown hKS.1 hP (wlE_D e S) hVS c0 hat (clAt hz12) x.toNat hxn hlink hfin (clTy hz12 _ hxn) (v := .ref (adE e w)) ?_ ?_ (by simp; omega) hdg (fun H1 locs1 hs1 hP1 hS1 => ?_)
  · revert htb; cases tyT z x.toNat <;> intro htb <;> first | rfl | cases htb
  · revert htb; cases tyT z x.toNat <;> intro htb <;> first | rfl | cases htb
  · refine kk H1 locs1 ⟨?_, fun q => hs1.trans (hsz q), hS1, hcM, h1000, fun c' j' c'' q => ?_, hn, fun c' q1 q2 => ⟨(hFr c' q1 q2).1, fun j' => ?_⟩⟩
    · have hw2 : wlE e (S.1, updR S.2.1 c0 j w, S.2.2) = _ := wlE_set (R := S.2.1) (R' := updR S.2.1 c0 j w) (I := S.2.2) (I' := S.2.2) (c := c0) (n := S.1) (x := .inr (z, ((List.range n).map fun q => fvE e (ftT z q) c0 q S.2.1 S.2.2).set x.toNat (.ref (adE e w)))) (fun k' hk' => ?_) ?_
      · rw [hw2]; exact hP1
      · have hz : ∀ q, updR S.2.1 c0 j w k' q = S.2.1 k' q := fun q => by unfold updR; rw [if_neg (fun r => hk' r.1)]
        unfold enE
        split
        · rfl
        · rfl
        · congr 2
          apply List.map_congr_left
          intro q _
          unfold fvE
          split <;> simp only [hz]
      · rw [enE_o hk]
        congr 2
        apply List.ext_getElem?
        intro q
        by_cases hq : q = x.toNat
        · subst hq
          rw [List.getElem?_map, List.getElem?_range (by omega), List.getElem?_set_self (by simp; omega)]
          show some (fvE e (ftT z x.toNat) c0 x.toNat (updR S.2.1 c0 j w) S.2.2) = _
          rw [hty]
          have : updR S.2.1 c0 j w c0 x.toNat = some w := by unfold updR; rw [if_pos ⟨rfl, hjx.symm⟩]
          simp only [fvE, this, Option.map_some, va_rf]
        · rw [List.getElem?_set_ne (Ne.symm hq), List.getElem?_map, List.getElem?_map]
          by_cases hn2 : q < n
          · rw [List.getElem?_range hn2]
            show some (fvE e (ftT z q) c0 q (updR S.2.1 c0 j w) S.2.2) = some (fvE e (ftT z q) c0 q S.2.1 S.2.2)
            have e1 : updR S.2.1 c0 j w c0 q = S.2.1 c0 q := by unfold updR; rw [if_neg (fun r => hq (r.2.trans hjx))]
            unfold fvE
            split <;> simp only [e1]
          · rw [List.getElem?_eq_none (by simp; omega)]
            rfl
    · have q : updR S.2.1 c0 j w c' j' = some c'' := q
      unfold updR at q
      by_cases r : c' = c0 ∧ j' = j
      · rw [if_pos r] at q
        cases q
        exact hwl
      · rw [if_neg r] at q
        exact hR _ _ _ q
    · show updR S.2.1 c0 j w c' j' = none
      unfold updR
      rw [if_neg (fun r => by have q1 : S.1 ≤ c' := q1; have := r.1; omega)]
      exact (hFr c' q1 q2).2 j'
end MAIN
