/-! THE RUN: calls, new cells, answers -/
def catV : MV → Nat
  | .inr (.inl _) => 2
  | _ => 1
theorem catS_c (v : MV) (t : List MV) : catS (v :: t) = catV v + catS t := by
  rcases v with x | x | x <;> simp [catS, catV] <;> omega
theorem catV_tr (e : SE) (v : MV) : (trV e v).category = catV v := by
  rcases v with x | x | x <;> rfl
theorem catS_sum (e : SE) : ∀ st : List MV, ((st.map (trV e)).map fun v => v.category).sum = catS st
  | [] => rfl
  | v :: t => by
    rw [catS_c, List.map_cons, List.map_cons, List.sum_cons, catS_sum e t, catV_tr]
theorem gw_in {h : Nat} {w : Jvm.Cond} (hw : wAt h w = true) (hg : goodWord w = true) : w ∈ GWL :=
  List.mem_filter.mpr ⟨List.mem_append_right _ (List.mem_of_getElem? (of_decide_eq_true hw)), hg⟩
/-- a method's own words, out of what the program checked -/
def MW (k : Nat) : Prop :=
  Jvm.Cond.code (yM k) (cdM k) (maxM k) (rtM k) ∈ GWL ∧ Jvm.Cond.initialized (ownM k) ∈ GWL ∧ plainName (ownM k) = true ∧ (ownM k ≠ "java/lang/invoke/MethodHandle" ∧ ownM k ≠ "java/lang/invoke/VarHandle") ∧ maxM k ≤ 45 ∧
  (clsM k = 999 → Jvm.Cond.static (yM k) ∈ GWL) ∧ (clsM k ≠ 999 → Jvm.Cond.instanceMethod (yM k) ∈ GWL ∧ ((clsM k = 100 ∧ ownM k = "java/lang/String") ∨ (clsM k < 12 ∧ (clT (clsM k)).1 = ownM k))) ∧
  (0 < (MWL.getD k (0, 0, 0, 0)).2.2.2 → Jvm.Cond.selects (ownM k) (yM k) (yM k) ∈ GWL ∧ clsM k ≠ 999) ∧
  ((retM k = 0 ∧ rtM k = none) ∨ (retM k = 1 ∧ rtM k = some .int) ∨ (retM k = 2 ∧ rtM k = some .boolean) ∨ (retM k = 3 ∧ rtM k = some .long) ∨ (retM k = 4 ∧ ∃ n, rtM k = some (.object n)) ∨ (retM k = 5 ∧ rtM k = some .byte))
set_option maxRecDepth 200000 in
theorem MW_of {k : Nat} (h : okM k = true) : MW k := by
  unfold okM at h
  split at h
  rename_i a b c s hm
  simp only [Bool.and_eq_true, decide_eq_true_eq] at h
  obtain ⟨⟨⟨⟨⟨⟨⟨h1, h2⟩, h3⟩, h4⟩, h5⟩, h6⟩, h7⟩, h8⟩ := h
  refine ⟨gw_in h1 rfl, gw_in h2 rfl, h3, h4, Nat.le_of_ble_eq_true h5, fun hc => ?_, fun hc => ?_, fun hs => ?_, ?_⟩
  · rw [hc] at h6
    simp only [show Nat.beq 999 999 = true from rfl, cond_true, Bool.and_eq_true] at h6
    exact gw_in h6.1 rfl
  · have e1 : Nat.beq (clsM k) 999 = false := by
      cases hz : Nat.beq (clsM k) 999 with
      | false => rfl
      | true => exact absurd (Nat.eq_of_beq_eq_true hz) hc
    rw [e1] at h6
    simp only [cond_false, Bool.and_eq_true] at h6
    refine ⟨gw_in h6.1 rfl, ?_⟩
    have h6 := h6.2
    cases hz : Nat.beq (clsM k) 100 with
    | true =>
      rw [hz] at h6
      simp only [cond_true, decide_eq_true_eq] at h6
      exact Or.inl ⟨Nat.eq_of_beq_eq_true hz, h6⟩
    | false =>
      rw [hz] at h6
      simp only [cond_false, Bool.and_eq_true, decide_eq_true_eq] at h6
      exact Or.inr ⟨ltB h6.1, h6.2⟩
  · rw [hm] at hs
    have hs : 0 < s := hs
    have e1 : Nat.beq s 0 = false := by
      cases hz : Nat.beq s 0 with
      | false => rfl
      | true => have := Nat.eq_of_beq_eq_true hz; omega
    refine ⟨?_, fun q => ?_⟩
    rotate_left
    · rw [q] at h6
      simp only [show Nat.beq 999 999 = true from rfl, cond_true, Bool.and_eq_true] at h6
      rw [e1] at h6
      cases h6.2
    rw [e1] at h7
    simp only [cond_false] at h7
    cases hz : Nat.blt s 100000 with
    | true =>
      rw [hz] at h7
      simp only [cond_true] at h7
      exact gw_in h7 rfl
    | false =>
      rw [hz] at h7
      simp only [cond_false, decide_eq_true_eq] at h7
      obtain ⟨q, hq, he⟩ := List.mem_map.mp (List.elem_iff.mp h7.2)
      refine List.mem_filter.mpr ⟨List.mem_append_left _ (List.mem_map.mpr ⟨q, hq, ?_⟩), rfl⟩
      show Jvm.Cond.selects q.1.cls q.1 q.1 = _
      rw [he]
      rfl
  · revert h8
    generalize retM k = rc
    generalize rtM k = rt
    intro h8
    split at h8
    · exact Or.inl ⟨rfl, rfl⟩
    · exact Or.inr (Or.inl ⟨rfl, rfl⟩)
    · exact Or.inr (Or.inr (Or.inl ⟨rfl, rfl⟩))
    · exact Or.inr (Or.inr (Or.inr (Or.inl ⟨rfl, rfl⟩)))
    · exact Or.inr (Or.inr (Or.inr (Or.inr (Or.inl ⟨rfl, _, rfl⟩))))
    · exact Or.inr (Or.inr (Or.inr (Or.inr (Or.inr ⟨rfl, rfl⟩))))
    · cases h8
theorem cl_of_sv {k : Nat} (hs : 0 < (MWL.getD k (0, 0, 0, 0)).2.2.2) (h : MW k) : clsM k ≠ 999 := (h.2.2.2.2.2.2.2.1 hs).2
theorem GWL_good {w : Jvm.Cond} (h : w ∈ GWL) : (w.onTables && w.keeps) = true ∨ ∃ ty, w = .arrayClass ty := good_of_word (List.mem_filter.mp h).2
def wsK (k : Nat) : List Jvm.Cond := .code (yM k) (cdM k) (maxM k) (rtM k) :: GWL
theorem wsK_good {k : Nat} (h : MW k) : GoodIn GWL (wsK k) := by
  intro w hw
  rcases List.mem_cons.mp hw with rfl | hw
  · exact ⟨h.1, GWL_good h.1⟩
  · exact ⟨hw, GWL_good hw⟩
def rmE (d mc ms : Nat) : Room := { frames := d, cells := mc, slots := ms, locals := 100 * d }
def slN (n : Nat) : Nat := ((KDL.take n).map (fun q => q.2.1)).sum
/-- a method's start: these arguments, that memory -/
def PcE (e : SE) (as : List MV) (S : MS) : Array Value → State → Prop :=
  va_Pc (as.map (trV e)) fun U => va_P (dE e) clL (wlE e S) U.heap ∧ (S.1 < 80 → U.heap.size = bsE e + S.1) ∧ KS e U ∧ (∀ q, q < bsE e → U.heap[q]? = (hpE e)[q]?) ∧ bsE e ≤ U.heap.size
/-- a method's end: that answer, that memory -/
def QmE (e : SE) (v : Option MV) (S : MS) : Array Value → State → Outcome → State → Prop := fun _ st o t =>
  o = .returned (v.map (trV e)) ∧ (va_P (dE e) clL (wlE e S) t.heap ∧ (S.1 < 80 → t.heap.size = bsE e + S.1) ∧ RVE e S ∧ ∀ w, v = some w → canV S.1 w) ∧ va_F (AE e) st t
theorem PcE_blind {e : SE} {as : List MV} {S : MS} : FrameBlind (PcE e as S) := fun a U g mk h => ⟨h.1, h.2.1, h.2.2.1, KS.same (s := U) (U := U.calling g mk a) rfl h.2.2.2.1, h.2.2.2.2⟩
/-- what the program checked of a method -/
def okK (k : Nat) : Prop := (∀ pc E, ITf k pc = some E → ∃ h, okB k pc E h = true) ∧ (k < 311 → MW k)
section CALL
variable {p : Program} {l : Launch} {en : Env} {R : Room} {s : State} {m : MethodId} {args : Array Value} {below : List Frame} {meth : Method} {c : Code} {H : Heap} {locs : List Loc} {cells slots : Nat} {Q : State → Prop}
theorem mz_call {e : SE} {pc : Nat} {lsA : Array Slot} {st0 rest : List Value} {mc ms : Nat} {a : Array Value} {v : Option MV} {S' : MS} (hr : va_Run p l en R s m args below meth c H locs cells slots mc ms (F0 m pc lsA st0) rest (QmE e v S' a) (AE e)) (hS : va_S (AE e) s.heap H locs)
    (kk : ∀ (H1 : Heap) (locs1 : List Loc), va_P (dE e) clL (wlE e S') H1 → (S'.1 < 80 → H1.size = bsE e + S'.1) → va_S (AE e) s.heap H1 locs1 → RVE e S' → (∀ w, v = some w → canV S'.1 w) → W p l en R s m args below meth c H1 locs1 (cells + mc) (slots + ms) Q (F0 m (pc + 3) lsA ((v.map (trV e)).toList ++ rest))) : W p l en R s m args below meth c H locs cells slots Q (F0 m pc lsA st0) := by
  intro T hT X
  obtain ⟨v', st₀, t, T', L, h0, X', hL, e1, e2, ⟨hv, ⟨hp, hz, hrv, hcn⟩, hf1, hf2⟩, st⟩ := hr T hT X
  cases hv
  rw [h0] at hf1 hf2
  rw [← e1] at hp hz hf1 hf2
  obtain ⟨t2, a1, b1⟩ := kk T'.heap (locs ++ L) hp hz ⟨Nat.le_trans hS.1 hf1, fun q h1 h2 => by rw [hf2 q (Nat.lt_of_lt_of_le h1 hS.1) h2]; exact hS.2.1 q h1 h2, fun q hq => by
      rcases List.mem_append.mp hq with h | h
      · exact hS.2.2 q h
      · exact hL q h⟩ hrv hcn T' rfl X'
  exact ⟨t2, st t2 a1, b1⟩
end CALL
