-- the machine's own pieces
theorem fixW : Jvm.Cond.instanceMethod objectInit ∈ GWL ∧ Jvm.Cond.code objectInit ⟨#[0xb1]⟩ 1 none ∈ GWL ∧ Jvm.Cond.arrayClass .int ∈ GWL ∧ Jvm.Cond.arrayClass .long ∈ GWL ∧
    Jvm.Cond.native arraycopyName ∈ GWL ∧ Jvm.Cond.static arraycopyName ∈ GWL ∧ Jvm.Cond.initialized "java/lang/System" ∈ GWL ∧ Jvm.Cond.initialized "java/lang/Math" ∈ GWL := by
  refine ⟨?_, ?_, ?_, ?_, ?_, ?_, ?_, ?_⟩ <;> exact List.mem_filter.mpr ⟨List.mem_append_right _ (by decide +kernel), rfl⟩
theorem fixM : (Jvm.Cond.static Jvm.Lib.Math.abs.name ∈ GWL ∧ Jvm.Cond.code Jvm.Lib.Math.abs.name Jvm.Lib.Math.abs.code 1 (some .int) ∈ GWL) ∧ (Jvm.Cond.static Jvm.Lib.Math.max.name ∈ GWL ∧ Jvm.Cond.code Jvm.Lib.Math.max.name Jvm.Lib.Math.max.code 2 (some .int) ∈ GWL) ∧
    (Jvm.Cond.static Jvm.Lib.Math.min.name ∈ GWL ∧ Jvm.Cond.code Jvm.Lib.Math.min.name Jvm.Lib.Math.min.code 2 (some .int) ∈ GWL) := by
  refine ⟨⟨?_, ?_⟩, ⟨?_, ?_⟩, ⟨?_, ?_⟩⟩ <;> exact List.mem_filter.mpr ⟨List.mem_append_right _ (by decide +kernel), rfl⟩
theorem clNew {z : Nat} (hz : z < 12) : Jvm.Cond.instantiable (clT z).1 (clT z).2.2 ∈ GWL ∧ Jvm.Cond.initialized (clT z).1 ∈ GWL := by
  have h : ∀ z : Nat, z < 12 → Jvm.Cond.instantiable (clT z).1 (clT z).2.2 ∈ tables_1 ∧ Jvm.Cond.initialized (clT z).1 ∈ tables_1 := by decide +kernel
  exact ⟨List.mem_filter.mpr ⟨List.mem_append_right _ (h z hz).1, rfl⟩, List.mem_filter.mpr ⟨List.mem_append_right _ (h z hz).2, rfl⟩⟩
theorem o_iab {a : Int} (h : IR a) : Int32.ofInt (iab a) = if (0 : Int32) ≤ Int32.ofInt a then Int32.ofInt a else 0 - Int32.ofInt a := by
  unfold iab
  by_cases q : 0 ≤ a
  · rw [if_pos q]
    exact (if_pos ((le32 ir_0 h).mpr q)).symm
  · rw [if_neg q, o_isb]
    exact (if_neg (fun z => q ((le32 ir_0 h).mp z))).symm
theorem o_imx {a b : Int} (h : IR a) (h2 : IR b) : Int32.ofInt (imx a b) = if Int32.ofInt a < Int32.ofInt b then Int32.ofInt b else Int32.ofInt a := by
  unfold imx
  by_cases q : a < b
  · rw [if_pos q, if_pos ((lt32 h h2).mpr q)]
  · rw [if_neg q, if_neg (fun z => q ((lt32 h h2).mp z))]
theorem o_imn {a b : Int} (h : IR a) (h2 : IR b) : Int32.ofInt (imn a b) = if Int32.ofInt b < Int32.ofInt a then Int32.ofInt b else Int32.ofInt a := by
  unfold imn
  by_cases q : b < a
  · rw [if_pos q, if_pos ((lt32 h2 h).mpr q)]
  · rw [if_neg q, if_neg (fun z => q ((lt32 h2 h).mp z))]
theorem ir_iab {a : Int} (h : IR a) : IR (iab a) := by
  unfold iab
  split
  · exact h
  · exact ir_i32 _
theorem ir_imx {a b : Int} (h : IR a) (h2 : IR b) : IR (imx a b) := by unfold imx; split <;> assumption
theorem ir_imn {a b : Int} (h : IR a) (h2 : IR b) : IR (imn a b) := by unfold imn; split <;> assumption
/-- a new cell's part of the world: the old cells stay -/
theorem wlE_push (e : SE) (S : MS) : wlE e (S.1 + 1, S.2) = wlE e S ++ [(bsE e + S.1, enE e S.2.1 S.2.2 S.1)] := by
  unfold wlE
  rw [List.range_succ, List.map_append]
  rfl
theorem slN_succ {n a b z : Nat} (h : KDL[n]? = some (a, b, z)) : slN (n + 1) = slN n + b := by
  unfold slN
  rw [List.take_succ, h]
  simp
theorem slN_mono {a b : Nat} (h : a ≤ b) : slN a ≤ slN b := by
  induction b with
  | zero =>
    have : a = 0 := by omega
    subst this
    exact Nat.le_refl _
  | succ b ih =>
    by_cases hab : a = b + 1
    · subst hab; exact Nat.le_refl _
    · refine Nat.le_trans (ih (by omega)) ?_
      unfold slN
      rw [List.take_succ]
      simp
section NEWC
variable {p : Program} {l : Launch} {en : Env} {R : Room} {s : State} {m : MethodId} {args : Array Value} {below : List Frame} {meth : Method} {c : Code} {H : Heap} {locs : List Loc} {cells slots : Nat} {Q : State → Prop}
theorem kdl_new {e : SE} {S : MS} {H H1 : Heap} {s : State} (hP : va_P (dE e) clL (wlE e S) H) (hS : va_S (AE e) s.heap H locs) (hsz : H.size = bsE e + S.1) (hr : RVE e S) (o1 : ∀ q, q < bsE e + S.1 → H1[q]? = H[q]?) (z1 : H1.size = bsE e + S.1 + 1) (he : va_at (dE e) clL (bsE e + S.1, enE e S.2.1 S.2.2 S.1) H1) (hn : S.1 < 80) : WdR e s H1 locs (S.1 + 1, S.2) := by
  refine ⟨?_, fun _ => by rw [z1]; show _ = bsE e + (S.1 + 1); omega, ⟨?_, fun q h1 h2 => ?_, hS.2.2⟩, hr.1, hr.2.1, fun c j c' h => Nat.lt_succ_of_lt (hr.2.2.1 c j c' h), by show S.1 + 1 ≤ 80; omega, fun c h1 h2 => hr.2.2.2.2 c (Nat.le_of_succ_le h1) h2⟩
  · rw [wlE_push]
    refine (hP.kept (fun k q hk => o1 _ (by have := (hP k q hk).lt; omega))).app (fun k q hk => ?_)
    have hz : k < 1 := (List.getElem?_eq_some_iff.mp hk).1
    rw [show k = 0 by omega] at hk
    cases hk
    exact he
  · rw [z1]; have := hS.1; omega
  · rw [o1 q (by have := hS.1; omega)]
    exact hS.2.1 q h1 h2
theorem mz_new {e : SE} {k pc i z : Nat} {lsA : Array Slot} {rest : List Value} {S : MS} (hF : FrC e k p s m args meth c) (hW : WdR e s H locs S) (hz : z < 12) (hw : Jvm.Cond.classLink (ownM k) i (clT z).1 ∈ GWL) (hk : isO S.1 z = true) (hdg : decode (cdM k) pc = .ok (.new i, 3)) (hc : cells + 1 ≤ R.cells) (hs : slots + (slN (S.1 + 1) - slN S.1) ≤ R.slots)
    (kk : ∀ (H1 : Heap), WdR e s H1 locs (S.1 + 1, S.2) → W p l en R s m args below meth c H1 locs (cells + 1) (slots + (slN (S.1 + 1) - slN S.1)) Q (F0 m (pc + 3) lsA (.ref (bsE e + S.1) :: rest))) : W p l en R s m args below meth c H locs cells slots Q (F0 m pc lsA rest) := by
  obtain ⟨hx, hb, hown, hts, hKS, hHB, hbs, hml⟩ := hF
  obtain ⟨hP, hsz, hVS, hr⟩ := hW
  obtain ⟨n, hk, h80⟩ := isO_K hk
  have hnn := ((KDL_n _ _ _ _ hk).1 rfl).1
  have hsl : slN (S.1 + 1) - slN S.1 = (clT z).2.2 := by rw [slN_succ hk, hnn]; omega
  rw [hsl] at hs kk
  have hKn := hKS.1.1 z _ (clAt hz)
  refine W.newcK hx hb hown (hts _ hw) (hts _ (clNew hz).1) (hts _ (clNew hz).2) rfl hdg hc hs hKn.2.1 rfl fun H1 kC hkC e1 z1 o1 => ?_
  rw [hsz h80] at e1 z1 o1 ⊢
  refine kk H1 (kdl_new hP hVS (hsz h80) hr o1 z1 ?_ h80)
  rw [enE_o hk]
  refine ⟨_, clAt hz, (u_born (tyT z) hts (clIn hz) hKn hkC e1 (clTy hz)).to fun j hj => ?_⟩
  have hj2 : j < (clT z).2.2 := hj
  have hfr := hr.2.2.2.2 S.1 (Nat.le_refl _) (by omega)
  have h9 : vp_V ((List.range n).map fun j => fvE e (ftT z j) S.1 j S.2.1 S.2.2) j = fvE e (ftT z j) S.1 j S.2.1 S.2.2 := by
    unfold vp_V
    rw [List.getD_eq_getElem?_getD, List.getElem?_map, List.getElem?_range (by omega)]
    rfl
  rw [h9]
  have htb := okTB_at hz hj2
  unfold okTB at htb
  unfold fvE
  rw [hfr.1, hfr.2]
  revert htb
  generalize ftT z j = t
  generalize tyT z j = ty
  intro htb
  split at htb <;> first | rfl | cases htb
theorem mz_newa {e : SE} {k pc : Nat} {t : ArrayType} {m0 : Int} {lsA : Array Slot} {rest : List Value} {S : MS} (hF : FrC e k p s m args meth c) (hW : WdR e s H locs S) (hk : (match t with
      | .int => isA S.1 0
      | .long => isA S.1 1
      | _ => false) = true) (hm : m0 = lenA S.1) (hdg : decode (cdM k) pc = .ok (.newarray t, 2)) (hc : cells + 1 ≤ R.cells) (hs : slots + (slN (S.1 + 1) - slN S.1) ≤ R.slots)
    (kk : ∀ (H1 : Heap), WdR e s H1 locs (S.1 + 1, S.2) → W p l en R s m args below meth c H1 locs (cells + 1) (slots + (slN (S.1 + 1) - slN S.1)) Q (F0 m (pc + 2) lsA (.ref (bsE e + S.1) :: rest))) : W p l en R s m args below meth c H locs cells slots Q (F0 m pc lsA (.int (Int32.ofInt m0) :: rest)) := by
  obtain ⟨hx, hb, hown, hts, hKS, hHB, hbs, hml⟩ := hF
  obtain ⟨hP, hsz, hVS, hr⟩ := hW
  have fin : ∀ (kd n z : Nat), KDL[S.1]? = some (kd, n, z) → lenA S.1 = Int.ofNat n → S.1 < 80 → IR m0 ∧ ¬ Int32.ofInt m0 < 0 ∧ (Int32.ofInt m0).toNatClampNeg = n ∧ n < 10000 ∧ slN (S.1 + 1) - slN S.1 = n := by
    intro kd n z h1 h2 h3
    have hn := (KDL_n _ _ _ _ h1).2.2
    have e1 : m0 = (n : Int) := hm.trans h2
    have hi : IR m0 := by rw [e1]; exact ⟨by omega, by omega⟩
    refine ⟨hi, fun q => ?_, by rw [clamp32 hi, e1]; rfl, hn, by rw [slN_succ h1]; omega⟩
    have := (lt32 hi ir_0).mp q
    omega
  have fr0 := hr.2.2.2.2 S.1 (Nat.le_refl _)
  cases t with
  | int =>
    obtain ⟨n, z, h1, h2, h80⟩ := isA_K hk
    obtain ⟨hi, g1, g2, g3, g4⟩ := fin _ _ _ h1 h2 h80
    rw [g4] at hs kk
    refine va_newaK hx hb (atype := .int) (hts _ fixW.2.2.1) rfl hdg rfl g1 g2 (by show n * componentBytes .int ≤ _; show n * 4 ≤ _; omega) hc hs rfl fun H1 cA e1 z1 o1 hAr hNm => ?_
    rw [hsz h80] at e1 z1 o1 ⊢
    refine kk H1 (kdl_new hP hVS (hsz h80) hr o1 z1 ?_ h80)
    rw [enE_i h1]
    have hcA : cA = cIE e := by
      have h3 := (hKS.1.2 0 _ rfl).2
      exact Option.some.inj (hNm.symm.trans h3)
    rw [hcA] at e1
    show H1[bsE e + S.1]? = some (vp_cell _ _)
    rw [e1, vp_cell_i]
    simp only [(fr0 (by omega)).1]
    rfl
  | long =>
    obtain ⟨n, z, h1, h2, h80⟩ := isA_K hk
    obtain ⟨hi, g1, g2, g3, g4⟩ := fin _ _ _ h1 h2 h80
    rw [g4] at hs kk
    refine va_newaK hx hb (atype := .long) (hts _ fixW.2.2.2.1) rfl hdg rfl g1 g2 (by show n * componentBytes .long ≤ _; show n * 8 ≤ _; omega) hc hs rfl fun H1 cA e1 z1 o1 hAr hNm => ?_
    rw [hsz h80] at e1 z1 o1 ⊢
    refine kk H1 (kdl_new hP hVS (hsz h80) hr o1 z1 ?_ h80)
    rw [enE_l h1]
    have hcA : cA = cJE e := by
      have h3 := (hKS.1.2 1 _ rfl).2
      exact Option.some.inj (hNm.symm.trans h3)
    rw [hcA] at e1
    show H1[bsE e + S.1]? = some (vp_cell _ _)
    rw [e1, vp_cell_l]
    simp only [(fr0 (by omega)).1]
    rfl
  | _ => cases hk
end NEWC
