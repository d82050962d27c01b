-- words, classes
theorem wAt_use {h : Nat} {w : Jvm.Cond} {s : State} {args : Array Value} (hw : wAt h w = true) (hg : goodWord w = true) (hts : ∀ w ∈ GWL, w.before args s = true) : w.before args s = true :=
  hts w (List.mem_filter.mpr ⟨List.mem_append_right _ (List.mem_of_getElem? (of_decide_eq_true hw)), hg⟩)
theorem wAt_nest {h : Nat} {w : Jvm.Cond} {e : SE} {s : State} (hw : wAt h w = true) (hg : nestW w = true) (hK : KC e s) : va_Nw w s := hK.2.2.2.2.2.2.2.2.2 w (List.mem_of_getElem? (of_decide_eq_true hw)) hg
theorem u_good {C : String} {T : u_T} {N : Nat} : ∀ w ∈ u_ws C T N, goodWord w = true := by
  intro w hw
  obtain ⟨k, -, rfl⟩ := List.mem_map.mp hw
  unfold u_lay
  split <;> rfl
theorem clIn {z : Nat} (hz : z < 12) : ∀ w ∈ u_ws (clT z).1 (clT z).2.1 (clT z).2.2, w ∈ GWL := by
  intro w hw
  refine List.mem_filter.mpr ⟨?_, u_good w hw⟩
  match z, hz, hw with
  | 0, _, hw => exact inX0 w hw
  | 1, _, hw => exact inX1 w hw
  | 2, _, hw => exact inX2 w hw
  | 3, _, hw => exact inX3 w hw
  | 4, _, hw => exact inX4 w hw
  | 5, _, hw => exact inX5 w hw
  | 6, _, hw => exact inX6 w hw
  | 7, _, hw => exact inX7 w hw
  | 8, _, hw => exact inX8 w hw
  | 9, _, hw => exact inX9 w hw
  | 10, _, hw => exact inX10 w hw
  | 11, _, hw => exact inX11 w hw
theorem clAt {z : Nat} (hz : z < 12) : clL[z]? = some ((clT z).1, (clT z).2.1, (clT z).2.2) := by
  match z, hz with
  | 0, _ => rfl
  | 1, _ => rfl
  | 2, _ => rfl
  | 3, _ => rfl
  | 4, _ => rfl
  | 5, _ => rfl
  | 6, _ => rfl
  | 7, _ => rfl
  | 8, _ => rfl
  | 9, _ => rfl
  | 10, _ => rfl
  | 11, _ => rfl
def tyT (z : Nat) : Nat → FieldType := tyL.getD z (fun _ => .int)
theorem clTy {z : Nat} (hz : z < 12) : ∀ k, k < (clT z).2.2 → parseFieldDescriptor ((clT z).2.1 k).2.2.1 = some (tyT z k) := by
  match z, hz with
  | 0, _ => exact tyX0_ok
  | 1, _ => exact tyX1_ok
  | 2, _ => exact tyX2_ok
  | 3, _ => exact tyX3_ok
  | 4, _ => exact tyX4_ok
  | 5, _ => exact tyX5_ok
  | 6, _ => exact tyX6_ok
  | 7, _ => exact tyX7_ok
  | 8, _ => exact tyX8_ok
  | 9, _ => exact tyX9_ok
  | 10, _ => exact tyX10_ok
  | 11, _ => exact tyX11_ok
theorem clNm {z : Nat} (hz : z < 12) : ∀ a, a < (clT z).2.2 → ∀ b, b < (clT z).2.2 → a ≠ b → ((clT z).2.1 a).2.1 ≠ ((clT z).2.1 b).2.1 := by
  match z, hz with
  | 0, _ => exact nmX0
  | 1, _ => exact nmX1
  | 2, _ => exact nmX2
  | 3, _ => exact nmX3
  | 4, _ => exact nmX4
  | 5, _ => exact nmX5
  | 6, _ => exact nmX6
  | 7, _ => exact nmX7
  | 8, _ => exact nmX8
  | 9, _ => exact nmX9
  | 10, _ => exact nmX10
  | 11, _ => exact nmX11
def okTB (z j : Nat) : Bool := match ftT z j, tyT z j with
  | 0, .int => true
  | 1, .boolean => true
  | 2, .long => true
  | 3, .object _ => true
  | 3, .array _ => true
  | _, _ => false
theorem okTB_all : ((List.range 12).all fun z => (List.range (clT z).2.2).all (okTB z)) = true := by decide +kernel
theorem okTB_at {z j : Nat} (hz : z < 12) (hj : j < (clT z).2.2) : okTB z j = true :=
  List.all_eq_true.mp (List.all_eq_true.mp okTB_all z (List.mem_range.mpr hz)) j (List.mem_range.mpr hj)
theorem KDL_n : ∀ (c a n z : Nat), KDL[c]? = some (a, n, z) → (a = 2 → n = (clT z).2.2 ∧ z < 12) ∧ a < 3 ∧ n < 10000 := by
  intro c a n z h
  have h2 : (KDL.all fun q => (!(Nat.beq q.1 2) || (Nat.beq q.2.1 (clT q.2.2).2.2 && Nat.blt q.2.2 12)) && Nat.blt q.1 3 && Nat.blt q.2.1 10000) = true := by decide +kernel
  have h3 := List.all_eq_true.mp h2 _ (List.mem_of_getElem? h)
  simp only [Bool.and_eq_true, Bool.or_eq_true, Bool.not_eq_true'] at h3
  obtain ⟨⟨h3, h4⟩, h5⟩ := h3
  refine ⟨fun ha => ?_, ltB h4, ltB h5⟩
  subst ha
  rcases h3 with h3 | ⟨h3, h6⟩
  · cases h3
  · exact ⟨Nat.eq_of_beq_eq_true h3, ltB h6⟩
def canS (n : Nat) (st : List MV) : Prop := ∀ v ∈ st, canV n v
theorem canS_c {n : Nat} {v : MV} {st : List MV} : canS n (v :: st) ↔ canV n v ∧ canS n st := List.forall_mem_cons
theorem trV_c1 {e : SE} {v : MV} {β : Type} {a : Option β} {r : β} (h : c1K none v a = some r) : (trV e v).category = 1 ∧ a = some r := by
  unfold c1K at h
  split at h
  · cases h
  · rename_i hno
    refine ⟨?_, h⟩
    rcases v with x | x | x
    · rfl
    · exact absurd rfl (hno x)
    · rfl
theorem lookup_off {ps : List (Int × Int)} {sw : List (Int × Nat)} {df : Int} {pc y t : Nat} {x : Int} (hm : ps.map (fun q => (q.1, (pc : Int) + q.2)) = sw.map (fun q => (q.1, (q.2 : Int)))) (hd : (pc : Int) + df = (y : Int))
    (h : (∃ i : Nat, sw[i]? = some (x, t) ∧ ∀ (j : Nat) (q : Int × Nat), j < i → sw[j]? = some q → x ≠ q.1) ∨ (t = y ∧ ∀ q ∈ sw, x ≠ q.1)) : (pc : Int) + Op.lookupswitch.offset ps df x = (t : Int) := by
  induction ps generalizing sw with
  | nil =>
    cases sw with
    | nil =>
      rcases h with ⟨i, a, -⟩ | ⟨rfl, -⟩
      · cases i <;> cases a
      · exact hd
    | cons q r => simp at hm
  | cons q r ih =>
    cases sw with
    | nil => simp at hm
    | cons q' r' =>
      simp only [List.map_cons, List.cons.injEq, Prod.mk.injEq] at hm
      obtain ⟨⟨e1, e2⟩, e3⟩ := hm
      obtain ⟨a, o⟩ := q
      rw [Op.lookupswitch.offset_cons]
      by_cases hx : a = x
      · rw [if_pos hx]
        rcases h with ⟨i, z1, z2⟩ | ⟨-, z2⟩
        · cases i with
          | zero => simp at z1; rw [z1] at e2; exact e2
          | succ i => exact absurd (hx.symm.trans e1) (z2 0 q' (by omega) rfl)
        · exact absurd (hx.symm.trans e1) (z2 q' List.mem_cons_self)
      · rw [if_neg hx]
        refine ih e3 ?_
        rcases h with ⟨i, z1, z2⟩ | ⟨z1, z2⟩
        · cases i with
          | zero => simp at z1; rw [z1] at e1; exact absurd e1 hx
          | succ i => exact Or.inl ⟨i, by simpa using z1, fun j p hj hp => z2 (j + 1) p (by omega) (by simpa using hp)⟩
        · exact Or.inr ⟨z1, fun p hp => z2 p (List.mem_cons_of_mem _ hp)⟩
section STEP
variable {p : Program} {l : Launch} {en : Env} {R : Room} {s : State} {m : MethodId} {args : Array Value} {below : List Frame} {meth : Method} {c : Code} {H : Heap} {locs : List Loc} {cells slots : Nat} {Q : State → Prop}
set_option maxHeartbeats 8000000 in
set_option maxRecDepth 10000 in
theorem stepW (e : SE) {k pc h0 : Nat} {E : IE} {lsA : Array Slot} {ls ls' : List (Option MV)} {st st' : List MV} {S S' : MS} {pc' : Nat} (hE : okB k pc E h0 = true) (hF : FrC e k p s m args meth c) (hS : SR e (maxM k) s H locs lsA ls st S) (hst : stpT E ls st S = some (pc', ls', st', S')) (hinit : meth.name = (yM k).name)
    (kk : ∀ (H' : Heap) (locs' : List Loc) (lsB : Array Slot), S'.1 = S.1 → S'.2.1 = S.2.1 → SR e (maxM k) s H' locs' lsB ls' st' S' → W p l en R s m args below meth c H' locs' cells slots Q (F0 m pc' lsB (st'.map (trV e)))) :
    W p l en R s m args below meth c H locs cells slots Q (F0 m pc lsA (st.map (trV e))) := by
  obtain ⟨ins, nx, x, y, z, sw⟩ := E
  obtain ⟨hx, hb, hown, hts, hKS, hHB, hbs, hml⟩ := hF
  obtain ⟨hW, hL, hc⟩ := hS
  have hc : canS S.1 st := hc
  have hW0 := hW
  obtain ⟨hP, hsz, hVS, hcM, h1000, hR, hn, hFr⟩ := hW
  simp only [okB, Bool.and_eq_true, decide_eq_true_eq] at hE
  obtain ⟨hdg, hE⟩ := hE
  cases ins with
  | iadd =>
    have hn1 := Nat.eq_of_beq_eq_true hE
    subst hn1
    rw [Nat.add_sub_cancel_left] at hdg
    simp only [stpT, stp] at hst
    split at hst
    · rename_i b a st2 _
      cases hst
      simp only [canS_c] at hc
      simp only [List.map_cons, trV] at kk ⊢
      refine lv_iadd hx hb hdg ?_
      rw [← o_iad a b]
      exact kk H locs lsA (by trivial) (by trivial) ⟨hW0, hL, canS_c.mpr ⟨ir_i32 _, hc.2.2⟩⟩
    · cases hst
  | isub =>
    have hn1 := Nat.eq_of_beq_eq_true hE
    subst hn1
    rw [Nat.add_sub_cancel_left] at hdg
    simp only [stpT, stp] at hst
    split at hst
    · rename_i b a st2 _
      cases hst
      simp only [canS_c] at hc
      simp only [List.map_cons, trV] at kk ⊢
      refine lv_isub hx hb hdg ?_
      rw [← o_isb a b]
      exact kk H locs lsA (by trivial) (by trivial) ⟨hW0, hL, canS_c.mpr ⟨ir_i32 _, hc.2.2⟩⟩
    · cases hst
  | imul =>
    have hn1 := Nat.eq_of_beq_eq_true hE
    subst hn1
    rw [Nat.add_sub_cancel_left] at hdg
    simp only [stpT, stp] at hst
    split at hst
    · rename_i b a st2 _
      cases hst
      simp only [canS_c] at hc
      simp only [List.map_cons, trV] at kk ⊢
      refine lv_imul hx hb hdg ?_
      rw [← o_iml a b]
      exact kk H locs lsA (by trivial) (by trivial) ⟨hW0, hL, canS_c.mpr ⟨ir_i32 _, hc.2.2⟩⟩
    · cases hst
  | iand =>
    have hn1 := Nat.eq_of_beq_eq_true hE
    subst hn1
    rw [Nat.add_sub_cancel_left] at hdg
    simp only [stpT, stp] at hst
    split at hst
    · rename_i b a st2 _
      cases hst
      simp only [canS_c] at hc
      simp only [List.map_cons, trV] at kk ⊢
      refine lv_iand hx hb hdg ?_
      rw [← (show Int32.ofInt (ian a b) = (Int32.ofInt a) &&& (Int32.ofInt b) from of_to32 _)]
      exact kk H locs lsA (by trivial) (by trivial) ⟨hW0, hL, canS_c.mpr ⟨ir_i32 _, hc.2.2⟩⟩
    · cases hst
  | ior =>
    have hn1 := Nat.eq_of_beq_eq_true hE
    subst hn1
    rw [Nat.add_sub_cancel_left] at hdg
    simp only [stpT, stp] at hst
    split at hst
    · rename_i b a st2 _
      cases hst
      simp only [canS_c] at hc
      simp only [List.map_cons, trV] at kk ⊢
      refine lv_ior hx hb hdg ?_
      rw [← (show Int32.ofInt (iro a b) = (Int32.ofInt a) ||| (Int32.ofInt b) from of_to32 _)]
      exact kk H locs lsA (by trivial) (by trivial) ⟨hW0, hL, canS_c.mpr ⟨ir_i32 _, hc.2.2⟩⟩
    · cases hst
  | ixor =>
    have hn1 := Nat.eq_of_beq_eq_true hE
    subst hn1
    rw [Nat.add_sub_cancel_left] at hdg
    simp only [stpT, stp] at hst
    split at hst
    · rename_i b a st2 _
      cases hst
      simp only [canS_c] at hc
      simp only [List.map_cons, trV] at kk ⊢
      refine lv_ixor hx hb hdg ?_
      rw [← (show Int32.ofInt (ixr a b) = (Int32.ofInt a) ^^^ (Int32.ofInt b) from of_to32 _)]
      exact kk H locs lsA (by trivial) (by trivial) ⟨hW0, hL, canS_c.mpr ⟨ir_i32 _, hc.2.2⟩⟩
    · cases hst
  | ishl =>
    have hn1 := Nat.eq_of_beq_eq_true hE
    subst hn1
    rw [Nat.add_sub_cancel_left] at hdg
    simp only [stpT, stp] at hst
    split at hst
    · rename_i b a st2 _
      cases hst
      simp only [canS_c] at hc
      simp only [List.map_cons, trV] at kk ⊢
      refine lv_ishl hx hb hdg ?_
      rw [← (show Int32.ofInt (isl a b) = (Int32.ofInt a) <<< ((Int32.ofInt b) &&& 31) from of_to32 _)]
      exact kk H locs lsA (by trivial) (by trivial) ⟨hW0, hL, canS_c.mpr ⟨ir_i32 _, hc.2.2⟩⟩
    · cases hst
  | ishr =>
    have hn1 := Nat.eq_of_beq_eq_true hE
    subst hn1
    rw [Nat.add_sub_cancel_left] at hdg
    simp only [stpT, stp] at hst
    split at hst
    · rename_i b a st2 _
      cases hst
      simp only [canS_c] at hc
      simp only [List.map_cons, trV] at kk ⊢
      refine lv_ishr hx hb hdg ?_
      rw [← (show Int32.ofInt (isr a b) = (Int32.ofInt a) >>> ((Int32.ofInt b) &&& 31) from of_to32 _)]
      exact kk H locs lsA (by trivial) (by trivial) ⟨hW0, hL, canS_c.mpr ⟨ir_i32 _, hc.2.2⟩⟩
    · cases hst
  | ineg =>
    have hn1 := Nat.eq_of_beq_eq_true hE
    subst hn1
    rw [Nat.add_sub_cancel_left] at hdg
    simp only [stpT, stp] at hst
    split at hst
    · rename_i a st2 _
      cases hst
      simp only [canS_c] at hc
      simp only [List.map_cons, trV] at kk ⊢
      refine lv_ineg hx hb hdg ?_
      rw [← o_ing a]
      exact kk H locs lsA (by trivial) (by trivial) ⟨hW0, hL, canS_c.mpr ⟨ir_i32 _, hc.2⟩⟩
    · cases hst
  | ladd =>
    have hn1 := Nat.eq_of_beq_eq_true hE
    subst hn1
    rw [Nat.add_sub_cancel_left] at hdg
    simp only [stpT, stp] at hst
    split at hst
    · rename_i b a st2 _
      cases hst
      simp only [canS_c] at hc
      simp only [List.map_cons, trV] at kk ⊢
      refine lv_ladd hx hb hdg ?_
      rw [← o_lad a b]
      exact kk H locs lsA (by trivial) (by trivial) ⟨hW0, hL, canS_c.mpr ⟨ir_i64 _, hc.2.2⟩⟩
    · cases hst
  | lsub =>
    have hn1 := Nat.eq_of_beq_eq_true hE
    subst hn1
    rw [Nat.add_sub_cancel_left] at hdg
    simp only [stpT, stp] at hst
    split at hst
    · rename_i b a st2 _
      cases hst
      simp only [canS_c] at hc
      simp only [List.map_cons, trV] at kk ⊢
      refine lv_lsub hx hb hdg ?_
      rw [← o_lsb a b]
      exact kk H locs lsA (by trivial) (by trivial) ⟨hW0, hL, canS_c.mpr ⟨ir_i64 _, hc.2.2⟩⟩
    · cases hst
  | lmul =>
    have hn1 := Nat.eq_of_beq_eq_true hE
    subst hn1
    rw [Nat.add_sub_cancel_left] at hdg
    simp only [stpT, stp] at hst
    split at hst
    · rename_i b a st2 _
      cases hst
      simp only [canS_c] at hc
      simp only [List.map_cons, trV] at kk ⊢
      refine lv_lmul hx hb hdg ?_
      rw [← o_lml a b]
      exact kk H locs lsA (by trivial) (by trivial) ⟨hW0, hL, canS_c.mpr ⟨ir_i64 _, hc.2.2⟩⟩
    · cases hst
  | land =>
    have hn1 := Nat.eq_of_beq_eq_true hE
    subst hn1
    rw [Nat.add_sub_cancel_left] at hdg
    simp only [stpT, stp] at hst
    split at hst
    · rename_i b a st2 _
      cases hst
      simp only [canS_c] at hc
      simp only [List.map_cons, trV] at kk ⊢
      refine lv_land hx hb hdg ?_
      rw [← (show Int64.ofInt (lan a b) = (Int64.ofInt a) &&& (Int64.ofInt b) from of_to64 _)]
      exact kk H locs lsA (by trivial) (by trivial) ⟨hW0, hL, canS_c.mpr ⟨ir_i64 _, hc.2.2⟩⟩
    · cases hst
  | lor =>
    have hn1 := Nat.eq_of_beq_eq_true hE
    subst hn1
    rw [Nat.add_sub_cancel_left] at hdg
    simp only [stpT, stp] at hst
    split at hst
    · rename_i b a st2 _
      cases hst
      simp only [canS_c] at hc
      simp only [List.map_cons, trV] at kk ⊢
      refine lv_lor hx hb hdg ?_
      rw [← (show Int64.ofInt (lor_ a b) = (Int64.ofInt a) ||| (Int64.ofInt b) from of_to64 _)]
      exact kk H locs lsA (by trivial) (by trivial) ⟨hW0, hL, canS_c.mpr ⟨ir_i64 _, hc.2.2⟩⟩
    · cases hst
  | lneg =>
    have hn1 := Nat.eq_of_beq_eq_true hE
    subst hn1
    rw [Nat.add_sub_cancel_left] at hdg
    simp only [stpT, stp] at hst
    split at hst
    · rename_i a st2 _
      cases hst
      simp only [canS_c] at hc
      simp only [List.map_cons, trV] at kk ⊢
      refine lv_lneg hx hb hdg ?_
      rw [← o_lng a]
      exact kk H locs lsA (by trivial) (by trivial) ⟨hW0, hL, canS_c.mpr ⟨ir_i64 _, hc.2⟩⟩
    · cases hst
  | idiv =>
    have hn1 := Nat.eq_of_beq_eq_true hE
    subst hn1
    rw [Nat.add_sub_cancel_left] at hdg
    simp only [stpT, stp] at hst
    split at hst
    · rename_i b a st2 _
      simp only [canS_c] at hc
      split at hst
      · cases hst
      · rename_i hz
        cases hst
        simp only [List.map_cons, trV] at kk ⊢
        refine lv_idiv hx hb hdg (fun q => hz ((eq32 hc.1 ir_0).mp q)) ?_
        rw [← (show Int32.ofInt (idv a b) = (Int32.ofInt a) / (Int32.ofInt b) from of_to32 _)]
        exact kk H locs lsA (by trivial) (by trivial) ⟨hW0, hL, canS_c.mpr ⟨ir_i32 _, hc.2.2⟩⟩
    · cases hst
  | irem =>
    have hn1 := Nat.eq_of_beq_eq_true hE
    subst hn1
    rw [Nat.add_sub_cancel_left] at hdg
    simp only [stpT, stp] at hst
    split at hst
    · rename_i b a st2 _
      simp only [canS_c] at hc
      split at hst
      · cases hst
      · rename_i hz
        cases hst
        simp only [List.map_cons, trV] at kk ⊢
        refine lv_irem hx hb hdg (fun q => hz ((eq32 hc.1 ir_0).mp q)) ?_
        rw [← (show Int32.ofInt (irm a b) = (Int32.ofInt a) - (Int32.ofInt a) / (Int32.ofInt b) * (Int32.ofInt b) from of_to32 _)]
        exact kk H locs lsA (by trivial) (by trivial) ⟨hW0, hL, canS_c.mpr ⟨ir_i32 _, hc.2.2⟩⟩
    · cases hst
  | ldiv =>
    have hn1 := Nat.eq_of_beq_eq_true hE
    subst hn1
    rw [Nat.add_sub_cancel_left] at hdg
    simp only [stpT, stp] at hst
    split at hst
    · rename_i b a st2 _
      simp only [canS_c] at hc
      split at hst
      · cases hst
      · rename_i hz
        cases hst
        simp only [List.map_cons, trV] at kk ⊢
        refine lv_ldiv hx hb hdg (fun q => hz ((eq64 hc.1 ⟨by decide, by decide⟩).mp q)) ?_
        rw [← (show Int64.ofInt (ldv a b) = (Int64.ofInt a) / (Int64.ofInt b) from of_to64 _)]
        exact kk H locs lsA (by trivial) (by trivial) ⟨hW0, hL, canS_c.mpr ⟨ir_i64 _, hc.2.2⟩⟩
    · cases hst
  | lrem =>
    have hn1 := Nat.eq_of_beq_eq_true hE
    subst hn1
    rw [Nat.add_sub_cancel_left] at hdg
    simp only [stpT, stp] at hst
    split at hst
    · rename_i b a st2 _
      simp only [canS_c] at hc
      split at hst
      · cases hst
      · rename_i hz
        cases hst
        simp only [List.map_cons, trV] at kk ⊢
        refine lv_lrem hx hb hdg (fun q => hz ((eq64 hc.1 ⟨by decide, by decide⟩).mp q)) ?_
        rw [← (show Int64.ofInt (lrm a b) = (Int64.ofInt a) - (Int64.ofInt a) / (Int64.ofInt b) * (Int64.ofInt b) from of_to64 _)]
        exact kk H locs lsA (by trivial) (by trivial) ⟨hW0, hL, canS_c.mpr ⟨ir_i64 _, hc.2.2⟩⟩
    · cases hst
  | iushr =>
    have hn1 := Nat.eq_of_beq_eq_true hE
    subst hn1
    rw [Nat.add_sub_cancel_left] at hdg
    simp only [stpT, stp] at hst
    split at hst
    · rename_i b a st2 _
      cases hst
      simp only [canS_c] at hc
      simp only [List.map_cons, trV] at kk ⊢
      refine lv_iushr hx hb hdg (of_to32 _).symm ?_
      exact kk H locs lsA (by trivial) (by trivial) ⟨hW0, hL, canS_c.mpr ⟨ir_i32 _, hc.2.2⟩⟩
    · cases hst
  | lshl =>
    have hn1 := Nat.eq_of_beq_eq_true hE
    subst hn1
    rw [Nat.add_sub_cancel_left] at hdg
    simp only [stpT, stp] at hst
    split at hst
    · rename_i b a st2 _
      cases hst
      simp only [canS_c] at hc
      simp only [List.map_cons, trV] at kk ⊢
      refine lv_lshl hx hb hdg (of_to64 _).symm ?_
      exact kk H locs lsA (by trivial) (by trivial) ⟨hW0, hL, canS_c.mpr ⟨ir_i64 _, hc.2.2⟩⟩
    · cases hst
  | i2l =>
    have hn1 := Nat.eq_of_beq_eq_true hE
    subst hn1
    rw [Nat.add_sub_cancel_left] at hdg
    simp only [stpT, stp] at hst
    split at hst
    · rename_i a st2 _
      cases hst
      simp only [canS_c] at hc
      simp only [List.map_cons, trV] at kk ⊢
      refine lv_i2l hx hb hdg (o_i2l hc.1) ?_
      exact kk H locs lsA (by trivial) (by trivial) ⟨hW0, hL, canS_c.mpr ⟨⟨by have := hc.1.1; omega, by have := hc.1.2; omega⟩, hc.2⟩⟩
    · cases hst
  | l2i =>
    have hn1 := Nat.eq_of_beq_eq_true hE
    subst hn1
    rw [Nat.add_sub_cancel_left] at hdg
    simp only [stpT, stp] at hst
    split at hst
    · rename_i a st2 _
      cases hst
      simp only [canS_c] at hc
      simp only [List.map_cons, trV] at kk ⊢
      refine lv_l2i hx hb hdg (of_to32 _).symm ?_
      exact kk H locs lsA (by trivial) (by trivial) ⟨hW0, hL, canS_c.mpr ⟨ir_i32 _, hc.2⟩⟩
    · cases hst
  | i2b =>
    have hn1 := Nat.eq_of_beq_eq_true hE
    subst hn1
    rw [Nat.add_sub_cancel_left] at hdg
    simp only [stpT, stp] at hst
    split at hst
    · rename_i a st2 _
      cases hst
      simp only [canS_c] at hc
      simp only [List.map_cons, trV] at kk ⊢
      refine lv_i2b hx hb hdg (of_to32 _).symm ?_
      exact kk H locs lsA (by trivial) (by trivial) ⟨hW0, hL, canS_c.mpr ⟨ir_i32 _, hc.2⟩⟩
    · cases hst
  | i2s =>
    have hn1 := Nat.eq_of_beq_eq_true hE
    subst hn1
    rw [Nat.add_sub_cancel_left] at hdg
    simp only [stpT, stp] at hst
    split at hst
    · rename_i a st2 _
      cases hst
      simp only [canS_c] at hc
      simp only [List.map_cons, trV] at kk ⊢
      refine lv_i2s hx hb hdg (of_to32 _).symm ?_
      exact kk H locs lsA (by trivial) (by trivial) ⟨hW0, hL, canS_c.mpr ⟨ir_i32 _, hc.2⟩⟩
    · cases hst
  | i2c =>
    have hn1 := Nat.eq_of_beq_eq_true hE
    subst hn1
    rw [Nat.add_sub_cancel_left] at hdg
    simp only [stpT, stp] at hst
    split at hst
    · rename_i a st2 _
      cases hst
      simp only [canS_c] at hc
      simp only [List.map_cons, trV] at kk ⊢
      refine lv_i2c hx hb hdg (of_to32 _).symm ?_
      exact kk H locs lsA (by trivial) (by trivial) ⟨hW0, hL, canS_c.mpr ⟨ir_i32 _, hc.2⟩⟩
    · cases hst
  | lcmp =>
    have hn1 := Nat.eq_of_beq_eq_true hE
    subst hn1
    rw [Nat.add_sub_cancel_left] at hdg
    simp only [stpT, stp] at hst
    split at hst
    · rename_i b a st2 _
      cases hst
      simp only [canS_c] at hc
      simp only [List.map_cons, trV] at kk ⊢
      refine W.lcmp hx hb hdg ?_
      rw [← lcm_ok hc.2.1 hc.1]
      exact kk H locs lsA (by trivial) (by trivial) ⟨hW0, hL, canS_c.mpr ⟨ir_lcm a b, hc.2.2⟩⟩
    · cases hst
  | iconst n =>
    simp only [irB, Bool.and_eq_true, decide_eq_true_eq] at hE
    have hn1 := Nat.eq_of_beq_eq_true hE.1
    subst hn1
    rw [Nat.add_sub_cancel_left] at hdg
    simp only [stpT, stp] at hst
    cases hst
    refine lv_iconst (v := Int32.ofInt n) hx hb hdg rfl ?_
    exact kk H locs lsA (by trivial) (by trivial) ⟨hW0, hL, canS_c.mpr ⟨hE.2, hc⟩⟩
  | bipush n =>
    simp only [irB, Bool.and_eq_true, decide_eq_true_eq] at hE
    have hn1 := Nat.eq_of_beq_eq_true hE.1.1
    subst hn1
    rw [Nat.add_sub_cancel_left] at hdg
    simp only [stpT, stp] at hst
    cases hst
    refine lv_bipush (v := Int32.ofInt n) hx hb hdg hE.2 ?_
    exact kk H locs lsA (by trivial) (by trivial) ⟨hW0, hL, canS_c.mpr ⟨hE.1.2, hc⟩⟩
  | sipush n =>
    simp only [irB, Bool.and_eq_true, decide_eq_true_eq] at hE
    have hn1 := Nat.eq_of_beq_eq_true hE.1.1
    subst hn1
    rw [Nat.add_sub_cancel_left] at hdg
    simp only [stpT, stp] at hst
    cases hst
    refine lv_sipush (v := Int32.ofInt n) hx hb hdg hE.2 ?_
    exact kk H locs lsA (by trivial) (by trivial) ⟨hW0, hL, canS_c.mpr ⟨hE.1.2, hc⟩⟩
  | lconst n =>
    simp only [irLB, Bool.and_eq_true, decide_eq_true_eq] at hE
    have hn1 := Nat.eq_of_beq_eq_true hE.1.1
    subst hn1
    rw [Nat.add_sub_cancel_left] at hdg
    simp only [stpT, stp] at hst
    cases hst
    refine lv_lconst (v := Int64.ofInt x) hx hb hdg hE.2 ?_
    exact kk H locs lsA (by trivial) (by trivial) ⟨hW0, hL, canS_c.mpr ⟨hE.1.2, hc⟩⟩
  | ldc i =>
    simp only [Bool.and_eq_true] at hE
    have hn1 := Nat.eq_of_beq_eq_true hE.1
    subst hn1
    rw [Nat.add_sub_cancel_left] at hdg
    simp only [stpT, stp] at hst
    cases hy : Nat.beq y 0 with
    | true =>
      simp only [hy, cond_true] at hst hE
      cases hst
      simp only [irB, Bool.and_eq_true, decide_eq_true_eq] at hE
      refine lv_ldc (v := Int32.ofInt x) hx hb hown (wAt_use hE.2.2 rfl hts) hdg ?_
      exact kk H locs lsA (by trivial) (by trivial) ⟨hW0, hL, canS_c.mpr ⟨hE.2.1, hc⟩⟩
    | false =>
      simp only [hy, cond_false] at hst hE
      cases hst
      simp only [Bool.and_eq_true, decide_eq_true_eq] at hE
      have h8 := hKS.2.2.2.2.2.2.2.2.2.1 _ hE.2.1.1
      have hy2 := Nat.le_of_ble_eq_true hE.2.1.2
      have hy3 := ltB hE.2.2
      have e1 : 1100 + (y - 1100) = y := by omega
      simp only [e1] at h8
      refine va_ldcS hx hb hown h8 hdg ?_
      have e2 : adE e y = akE e y := by unfold adE; rw [if_neg (by omega)]
      have k2 := kk H locs lsA (by trivial) (by trivial) ⟨hW0, hL, canS_c.mpr ⟨Or.inr (by unfold kRef; omega), hc⟩⟩
      simp only [List.map_cons, trV, e2] at k2
      exact k2
  | ldc_w i =>
    simp only [irB, Bool.and_eq_true, decide_eq_true_eq] at hE
    have hn1 := Nat.eq_of_beq_eq_true hE.1.1
    subst hn1
    rw [Nat.add_sub_cancel_left] at hdg
    simp only [stpT, stp] at hst
    cases hst
    refine lv_ldcw (v := Int32.ofInt x) hx hb hown (wAt_use hE.2 rfl hts) hdg ?_
    exact kk H locs lsA (by trivial) (by trivial) ⟨hW0, hL, canS_c.mpr ⟨hE.1.2, hc⟩⟩
  | ldc2_w i =>
    simp only [irLB, Bool.and_eq_true, decide_eq_true_eq] at hE
    have hn1 := Nat.eq_of_beq_eq_true hE.1.1
    subst hn1
    rw [Nat.add_sub_cancel_left] at hdg
    simp only [stpT, stp] at hst
    cases hst
    refine lv_ldc2 (v := Int64.ofInt x) hx hb hown (wAt_use hE.2 rfl hts) hdg ?_
    exact kk H locs lsA (by trivial) (by trivial) ⟨hW0, hL, canS_c.mpr ⟨hE.1.2, hc⟩⟩
  | iload i =>
    have hn1 := Nat.eq_of_beq_eq_true hE
    subst hn1
    rw [Nat.add_sub_cancel_left] at hdg
    simp only [stpT, stp] at hst
    obtain ⟨v, hv, h2⟩ := getL_some hst
    split at h2
    · cases h2
      refine lv_iload hx hb hdg ((hL.2.2.2 _ _ hv).1) ?_
      exact kk H locs lsA (by trivial) (by trivial) ⟨hW0, hL, canS_c.mpr ⟨(hL.2.2.2 _ _ hv).2, hc⟩⟩
    · cases h2
  | istore i =>
    have hn1 := Nat.eq_of_beq_eq_true hE
    subst hn1
    rw [Nat.add_sub_cancel_left] at hdg
    simp only [stpT, stp] at hst
    split at hst
    · rename_i a st2 _
      obtain ⟨ls2, h2, hsto⟩ := setL_some hst
      cases h2
      simp only [canS_c] at hc
      refine lv_istore hx hb hdg hL.has (by have q1 := hsto.2.1; have q2 := hL.2.1; omega) rfl (fun lsB hB => ?_)
      exact kk H locs lsB (by trivial) (by trivial) ⟨hW0, hsto.r1 hL hc.1 hB, hc.2⟩
    · cases hst
  | iload_n i =>
    have hn1 := Nat.eq_of_beq_eq_true hE
    subst hn1
    rw [Nat.add_sub_cancel_left] at hdg
    simp only [stpT, stp] at hst
    obtain ⟨v, hv, h2⟩ := getL_some hst
    split at h2
    · cases h2
      refine lv_iload_n hx hb hdg rfl ((hL.2.2.2 _ _ hv).1) ?_
      exact kk H locs lsA (by trivial) (by trivial) ⟨hW0, hL, canS_c.mpr ⟨(hL.2.2.2 _ _ hv).2, hc⟩⟩
    · cases h2
  | istore_n i =>
    have hn1 := Nat.eq_of_beq_eq_true hE
    subst hn1
    rw [Nat.add_sub_cancel_left] at hdg
    simp only [stpT, stp] at hst
    split at hst
    · rename_i a st2 _
      obtain ⟨ls2, h2, hsto⟩ := setL_some hst
      cases h2
      simp only [canS_c] at hc
      refine lv_istore_n hx hb hdg rfl hL.has (by have q1 := hsto.2.1; have q2 := hL.2.1; omega) rfl (fun lsB hB => ?_)
      exact kk H locs lsB (by trivial) (by trivial) ⟨hW0, hsto.r1 hL hc.1 hB, hc.2⟩
    · cases hst
  | lload i =>
    have hn1 := Nat.eq_of_beq_eq_true hE
    subst hn1
    rw [Nat.add_sub_cancel_left] at hdg
    simp only [stpT, stp] at hst
    obtain ⟨v, hv, h2⟩ := getL_some hst
    split at h2
    · cases h2
      refine lv_lload hx hb hdg ((hL.2.2.2 _ _ hv).1) ?_
      exact kk H locs lsA (by trivial) (by trivial) ⟨hW0, hL, canS_c.mpr ⟨(hL.2.2.2 _ _ hv).2, hc⟩⟩
    · cases h2
  | lstore i =>
    have hn1 := Nat.eq_of_beq_eq_true hE
    subst hn1
    rw [Nat.add_sub_cancel_left] at hdg
    simp only [stpT, stp] at hst
    split at hst
    · rename_i a st2 _
      obtain ⟨ls2, h2, hsto⟩ := setL2_some hst
      cases h2
      simp only [canS_c] at hc
      refine lv_lstore hx hb hdg hL.has (by have q1 := hsto.2.1; have q2 := hL.2.1; omega) rfl (fun lsB hB => ?_)
      exact kk H locs lsB (by trivial) (by trivial) ⟨hW0, hsto.r2 hL hc.1 hB, hc.2⟩
    · cases hst
  | lload_n i =>
    have hn1 := Nat.eq_of_beq_eq_true hE
    subst hn1
    rw [Nat.add_sub_cancel_left] at hdg
    simp only [stpT, stp] at hst
    obtain ⟨v, hv, h2⟩ := getL_some hst
    split at h2
    · cases h2
      refine lv_lload_n hx hb hdg rfl ((hL.2.2.2 _ _ hv).1) ?_
      exact kk H locs lsA (by trivial) (by trivial) ⟨hW0, hL, canS_c.mpr ⟨(hL.2.2.2 _ _ hv).2, hc⟩⟩
    · cases h2
  | lstore_n i =>
    have hn1 := Nat.eq_of_beq_eq_true hE
    subst hn1
    rw [Nat.add_sub_cancel_left] at hdg
    simp only [stpT, stp] at hst
    split at hst
    · rename_i a st2 _
      obtain ⟨ls2, h2, hsto⟩ := setL2_some hst
      cases h2
      simp only [canS_c] at hc
      refine lv_lstore_n hx hb hdg rfl hL.has (by have q1 := hsto.2.1; have q2 := hL.2.1; omega) rfl (fun lsB hB => ?_)
      exact kk H locs lsB (by trivial) (by trivial) ⟨hW0, hsto.r2 hL hc.1 hB, hc.2⟩
    · cases hst
  | aload i =>
    have hn1 := Nat.eq_of_beq_eq_true hE
    subst hn1
    rw [Nat.add_sub_cancel_left] at hdg
    simp only [stpT, stp] at hst
    obtain ⟨v, hv, h2⟩ := getL_some hst
    split at h2
    · cases h2
      refine lv_aload hx hb hdg ((hL.2.2.2 _ _ hv).1) ?_
      exact kk H locs lsA (by trivial) (by trivial) ⟨hW0, hL, canS_c.mpr ⟨(hL.2.2.2 _ _ hv).2, hc⟩⟩
    · cases h2
  | astore i =>
    have hn1 := Nat.eq_of_beq_eq_true hE
    subst hn1
    rw [Nat.add_sub_cancel_left] at hdg
    simp only [stpT, stp] at hst
    split at hst
    · rename_i a st2 _
      obtain ⟨ls2, h2, hsto⟩ := setL_some hst
      cases h2
      simp only [canS_c] at hc
      refine lv_astore hx hb hdg hL.has (by have q1 := hsto.2.1; have q2 := hL.2.1; omega) rfl (fun lsB hB => ?_)
      exact kk H locs lsB (by trivial) (by trivial) ⟨hW0, hsto.r1 hL hc.1 hB, hc.2⟩
    · cases hst
  | aload_n i =>
    have hn1 := Nat.eq_of_beq_eq_true hE
    subst hn1
    rw [Nat.add_sub_cancel_left] at hdg
    simp only [stpT, stp] at hst
    obtain ⟨v, hv, h2⟩ := getL_some hst
    split at h2
    · cases h2
      refine lv_aload_n hx hb hdg rfl ((hL.2.2.2 _ _ hv).1) ?_
      exact kk H locs lsA (by trivial) (by trivial) ⟨hW0, hL, canS_c.mpr ⟨(hL.2.2.2 _ _ hv).2, hc⟩⟩
    · cases h2
  | astore_n i =>
    have hn1 := Nat.eq_of_beq_eq_true hE
    subst hn1
    rw [Nat.add_sub_cancel_left] at hdg
    simp only [stpT, stp] at hst
    split at hst
    · rename_i a st2 _
      obtain ⟨ls2, h2, hsto⟩ := setL_some hst
      cases h2
      simp only [canS_c] at hc
      refine lv_astore_n hx hb hdg rfl hL.has (by have q1 := hsto.2.1; have q2 := hL.2.1; omega) rfl (fun lsB hB => ?_)
      exact kk H locs lsB (by trivial) (by trivial) ⟨hW0, hsto.r1 hL hc.1 hB, hc.2⟩
    · cases hst
  | iinc i n =>
    have hn1 := Nat.eq_of_beq_eq_true hE
    subst hn1
    rw [Nat.add_sub_cancel_left] at hdg
    simp only [stpT, stp] at hst
    obtain ⟨v, hv, h2⟩ := getL_some hst
    split at h2
    · rename_i a
      obtain ⟨ls2, h3, hsto⟩ := setL_some h2
      cases h3
      obtain ⟨q, hq⟩ := List.getElem?_of_mem (prsL_mem (e := e) (q := (i, trV e (.inl a))) |>.mpr ⟨_, hv, rfl⟩)
      refine lv_iinc (v := Int32.ofInt (iad a n)) hx hb hdg hL.has hq (o_iad a n).symm (by have q1 := hsto.2.1; have q2 := hL.2.1; omega) rfl (fun lsB hB => ?_)
      exact kk H locs lsB (by trivial) (by trivial) ⟨hW0, hsto.r1 hL (ir_i32 _) hB, hc⟩
    · cases h2
  | dup =>
    have hn1 := Nat.eq_of_beq_eq_true hE
    subst hn1
    rw [Nat.add_sub_cancel_left] at hdg
    simp only [stpT, stp] at hst
    split at hst
    · rename_i v st2 _
      obtain ⟨h1, h2⟩ := trV_c1 (e := e) hst
      cases h2
      simp only [canS_c] at hc
      refine lv_dup hx hb hdg h1 ?_
      exact kk H locs lsA (by trivial) (by trivial) ⟨hW0, hL, canS_c.mpr ⟨hc.1, canS_c.mpr hc⟩⟩
    · cases hst
  | pop =>
    have hn1 := Nat.eq_of_beq_eq_true hE
    subst hn1
    rw [Nat.add_sub_cancel_left] at hdg
    simp only [stpT, stp] at hst
    split at hst
    · rename_i v st2 _
      obtain ⟨h1, h2⟩ := trV_c1 (e := e) hst
      cases h2
      simp only [canS_c] at hc
      refine lv_pop hx hb hdg h1 ?_
      exact kk H locs lsA (by trivial) (by trivial) ⟨hW0, hL, hc.2⟩
    · cases hst
  | dup_x1 =>
    have hn1 := Nat.eq_of_beq_eq_true hE
    subst hn1
    rw [Nat.add_sub_cancel_left] at hdg
    simp only [stpT, stp] at hst
    split at hst
    · rename_i v w st2 _
      obtain ⟨h1, h2⟩ := trV_c1 (e := e) hst
      obtain ⟨h3, h4⟩ := trV_c1 (e := e) h2
      cases h4
      simp only [canS_c] at hc
      refine lv_dup_x1 hx hb hdg h1 h3 ?_
      exact kk H locs lsA (by trivial) (by trivial) ⟨hW0, hL, canS_c.mpr ⟨hc.1, canS_c.mpr ⟨hc.2.1, canS_c.mpr ⟨hc.1, hc.2.2⟩⟩⟩⟩
    · cases hst
  | dup_x2 =>
    have hn1 := Nat.eq_of_beq_eq_true hE
    subst hn1
    rw [Nat.add_sub_cancel_left] at hdg
    simp only [stpT, stp] at hst
    split at hst
    · rename_i v w u st2 _
      obtain ⟨h1, h2⟩ := trV_c1 (e := e) hst
      obtain ⟨h3, h4⟩ := trV_c1 (e := e) h2
      obtain ⟨h5, h6⟩ := trV_c1 (e := e) h4
      cases h6
      simp only [canS_c] at hc
      refine lv_dup_x2 hx hb hdg h1 h3 h5 ?_
      exact kk H locs lsA (by trivial) (by trivial) ⟨hW0, hL, canS_c.mpr ⟨hc.1, canS_c.mpr ⟨hc.2.1, canS_c.mpr ⟨hc.2.2.1, canS_c.mpr ⟨hc.1, hc.2.2.2⟩⟩⟩⟩⟩
    · cases hst
  | dup2 =>
    have hn1 := Nat.eq_of_beq_eq_true hE
    subst hn1
    rw [Nat.add_sub_cancel_left] at hdg
    simp only [stpT, stp] at hst
    split at hst
    · rename_i a st2 _
      cases hst
      simp only [canS_c] at hc
      refine lv_dup2_2 hx hb hdg rfl ?_
      exact kk H locs lsA (by trivial) (by trivial) ⟨hW0, hL, canS_c.mpr ⟨hc.1, canS_c.mpr hc⟩⟩
    · rename_i v w st2 _ _
      obtain ⟨h1, h2⟩ := trV_c1 (e := e) hst
      obtain ⟨h3, h4⟩ := trV_c1 (e := e) h2
      cases h4
      simp only [canS_c] at hc
      refine lv_dup2_11 hx hb hdg h1 h3 ?_
      exact kk H locs lsA (by trivial) (by trivial) ⟨hW0, hL, canS_c.mpr ⟨hc.1, canS_c.mpr ⟨hc.2.1, canS_c.mpr ⟨hc.1, canS_c.mpr ⟨hc.2.1, hc.2.2⟩⟩⟩⟩⟩
    · cases hst
  | goto off =>
    simp only [Bool.and_eq_true, decide_eq_true_eq] at hE
    have hn1 := Nat.eq_of_beq_eq_true hE.1
    subst hn1
    rw [Nat.add_sub_cancel_left] at hdg
    simp only [stpT, stp] at hst
    cases hst
    exact lv_goto hx hb hdg hE.2 (kk H locs lsA (by trivial) (by trivial) ⟨hW0, hL, hc⟩)
  | ifCond cd off =>
    simp only [Bool.and_eq_true, decide_eq_true_eq] at hE
    have hn1 := Nat.eq_of_beq_eq_true hE.1
    subst hn1
    rw [Nat.add_sub_cancel_left] at hdg
    simp only [stpT, stp] at hst
    split at hst
    · rename_i a st2 _ _
      simp only [canS_c] at hc
      rcases brc_some hst with ⟨hq, hst⟩ | ⟨hq, hst⟩
      · cases hst
        have kx := kk H locs lsA (by trivial) (by trivial) ⟨hW0, hL, hc.2⟩
        exact lv_if_eq hx hb hdg hE.2 (fun _ => kx) (fun q => absurd ((eq32 hc.1 ir_0).mpr hq) q)
      · cases hst
        have kx := kk H locs lsA (by trivial) (by trivial) ⟨hW0, hL, hc.2⟩
        exact lv_if_eq hx hb hdg hE.2 (fun q => absurd ((eq32 hc.1 ir_0).mp q) hq) (fun _ => kx)
    · rename_i a st2 _ _
      simp only [canS_c] at hc
      rcases brc_some hst with ⟨hq, hst⟩ | ⟨hq, hst⟩
      · cases hst
        have kx := kk H locs lsA (by trivial) (by trivial) ⟨hW0, hL, hc.2⟩
        exact lv_if_ne hx hb hdg hE.2 (fun q => absurd hq ((not_congr (eq32 hc.1 ir_0)).mp q)) (fun _ => kx)
      · cases hst
        have kx := kk H locs lsA (by trivial) (by trivial) ⟨hW0, hL, hc.2⟩
        exact lv_if_ne hx hb hdg hE.2 (fun _ => kx) (fun q => absurd ((eq32 hc.1 ir_0).mp q) hq)
    · rename_i a st2 _ _
      simp only [canS_c] at hc
      rcases brc_some hst with ⟨hq, hst⟩ | ⟨hq, hst⟩
      · cases hst
        have kx := kk H locs lsA (by trivial) (by trivial) ⟨hW0, hL, hc.2⟩
        exact lv_if_lt hx hb hdg hE.2 (fun _ => kx) (fun q => absurd ((lt32 hc.1 ir_0).mpr hq) q)
      · cases hst
        have kx := kk H locs lsA (by trivial) (by trivial) ⟨hW0, hL, hc.2⟩
        exact lv_if_lt hx hb hdg hE.2 (fun q => absurd ((lt32 hc.1 ir_0).mp q) hq) (fun _ => kx)
    · rename_i a st2 _ _
      simp only [canS_c] at hc
      rcases brc_some hst with ⟨hq, hst⟩ | ⟨hq, hst⟩
      · cases hst
        have kx := kk H locs lsA (by trivial) (by trivial) ⟨hW0, hL, hc.2⟩
        exact lv_if_ge hx hb hdg hE.2 (fun q => absurd hq (Int.not_lt.mpr ((le32 ir_0 hc.1).mp q))) (fun _ => kx)
      · cases hst
        have kx := kk H locs lsA (by trivial) (by trivial) ⟨hW0, hL, hc.2⟩
        exact lv_if_ge hx hb hdg hE.2 (fun _ => kx) (fun q => absurd ((le32 ir_0 hc.1).mpr (Int.not_lt.mp hq)) q)
    · rename_i a st2 _ _
      simp only [canS_c] at hc
      rcases brc_some hst with ⟨hq, hst⟩ | ⟨hq, hst⟩
      · cases hst
        have kx := kk H locs lsA (by trivial) (by trivial) ⟨hW0, hL, hc.2⟩
        exact lv_if_gt hx hb hdg hE.2 (fun _ => kx) (fun q => absurd ((lt32 ir_0 hc.1).mpr hq) q)
      · cases hst
        have kx := kk H locs lsA (by trivial) (by trivial) ⟨hW0, hL, hc.2⟩
        exact lv_if_gt hx hb hdg hE.2 (fun q => absurd ((lt32 ir_0 hc.1).mp q) hq) (fun _ => kx)
    · rename_i a st2 _ _
      simp only [canS_c] at hc
      rcases brc_some hst with ⟨hq, hst⟩ | ⟨hq, hst⟩
      · cases hst
        have kx := kk H locs lsA (by trivial) (by trivial) ⟨hW0, hL, hc.2⟩
        exact lv_if_le hx hb hdg hE.2 (fun q => absurd hq (Int.not_lt.mpr ((le32 hc.1 ir_0).mp q))) (fun _ => kx)
      · cases hst
        have kx := kk H locs lsA (by trivial) (by trivial) ⟨hW0, hL, hc.2⟩
        exact lv_if_le hx hb hdg hE.2 (fun _ => kx) (fun q => absurd ((le32 hc.1 ir_0).mpr (Int.not_lt.mp hq)) q)
    · cases hst
  | if_icmp cd off =>
    simp only [Bool.and_eq_true, decide_eq_true_eq] at hE
    have hn1 := Nat.eq_of_beq_eq_true hE.1
    subst hn1
    rw [Nat.add_sub_cancel_left] at hdg
    simp only [stpT, stp] at hst
    split at hst
    · rename_i b a st2 _ _
      simp only [canS_c] at hc
      rcases brc_some hst with ⟨hq, hst⟩ | ⟨hq, hst⟩
      · cases hst
        have kx := kk H locs lsA (by trivial) (by trivial) ⟨hW0, hL, hc.2.2⟩
        exact lv_icmp_eq hx hb hdg hE.2 (fun _ => kx) (fun q => absurd ((eq32 hc.2.1 hc.1).mpr hq) q)
      · cases hst
        have kx := kk H locs lsA (by trivial) (by trivial) ⟨hW0, hL, hc.2.2⟩
        exact lv_icmp_eq hx hb hdg hE.2 (fun q => absurd ((eq32 hc.2.1 hc.1).mp q) hq) (fun _ => kx)
    · rename_i b a st2 _ _
      simp only [canS_c] at hc
      rcases brc_some hst with ⟨hq, hst⟩ | ⟨hq, hst⟩
      · cases hst
        have kx := kk H locs lsA (by trivial) (by trivial) ⟨hW0, hL, hc.2.2⟩
        exact lv_icmp_ne hx hb hdg hE.2 (fun q => absurd hq ((not_congr (eq32 hc.2.1 hc.1)).mp q)) (fun _ => kx)
      · cases hst
        have kx := kk H locs lsA (by trivial) (by trivial) ⟨hW0, hL, hc.2.2⟩
        exact lv_icmp_ne hx hb hdg hE.2 (fun _ => kx) (fun q => absurd ((eq32 hc.2.1 hc.1).mp q) hq)
    · rename_i b a st2 _ _
      simp only [canS_c] at hc
      rcases brc_some hst with ⟨hq, hst⟩ | ⟨hq, hst⟩
      · cases hst
        have kx := kk H locs lsA (by trivial) (by trivial) ⟨hW0, hL, hc.2.2⟩
        exact lv_icmp_lt hx hb hdg hE.2 (fun _ => kx) (fun q => absurd ((lt32 hc.2.1 hc.1).mpr hq) q)
      · cases hst
        have kx := kk H locs lsA (by trivial) (by trivial) ⟨hW0, hL, hc.2.2⟩
        exact lv_icmp_lt hx hb hdg hE.2 (fun q => absurd ((lt32 hc.2.1 hc.1).mp q) hq) (fun _ => kx)
    · rename_i b a st2 _ _
      simp only [canS_c] at hc
      rcases brc_some hst with ⟨hq, hst⟩ | ⟨hq, hst⟩
      · cases hst
        have kx := kk H locs lsA (by trivial) (by trivial) ⟨hW0, hL, hc.2.2⟩
        exact lv_icmp_ge hx hb hdg hE.2 (fun q => absurd hq (Int.not_lt.mpr ((le32 hc.1 hc.2.1).mp q))) (fun _ => kx)
      · cases hst
        have kx := kk H locs lsA (by trivial) (by trivial) ⟨hW0, hL, hc.2.2⟩
        exact lv_icmp_ge hx hb hdg hE.2 (fun _ => kx) (fun q => absurd ((le32 hc.1 hc.2.1).mpr (Int.not_lt.mp hq)) q)
    · rename_i b a st2 _ _
      simp only [canS_c] at hc
      rcases brc_some hst with ⟨hq, hst⟩ | ⟨hq, hst⟩
      · cases hst
        have kx := kk H locs lsA (by trivial) (by trivial) ⟨hW0, hL, hc.2.2⟩
        exact lv_icmp_gt hx hb hdg hE.2 (fun _ => kx) (fun q => absurd ((lt32 hc.1 hc.2.1).mpr hq) q)
      · cases hst
        have kx := kk H locs lsA (by trivial) (by trivial) ⟨hW0, hL, hc.2.2⟩
        exact lv_icmp_gt hx hb hdg hE.2 (fun q => absurd ((lt32 hc.1 hc.2.1).mp q) hq) (fun _ => kx)
    · rename_i b a st2 _ _
      simp only [canS_c] at hc
      rcases brc_some hst with ⟨hq, hst⟩ | ⟨hq, hst⟩
      · cases hst
        have kx := kk H locs lsA (by trivial) (by trivial) ⟨hW0, hL, hc.2.2⟩
        exact lv_icmp_le hx hb hdg hE.2 (fun q => absurd hq (Int.not_lt.mpr ((le32 hc.2.1 hc.1).mp q))) (fun _ => kx)
      · cases hst
        have kx := kk H locs lsA (by trivial) (by trivial) ⟨hW0, hL, hc.2.2⟩
        exact lv_icmp_le hx hb hdg hE.2 (fun _ => kx) (fun q => absurd ((le32 hc.2.1 hc.1).mpr (Int.not_lt.mp hq)) q)
    · cases hst
  | lookupswitch df ps =>
    simp only [Bool.and_eq_true, decide_eq_true_eq] at hE
    simp only [stpT, stp] at hst
    split at hst
    · rename_i a st2 _
      simp only [canS_c] at hc
      obtain ⟨t, h1, h2⟩ := swK_some hst
      cases h1
      have ho := lookup_off hE.1.2 hE.1.1 h2
      refine lv_lookup hx hb hdg hE.2 rfl ?_ (kk H locs lsA (by trivial) (by trivial) ⟨hW0, hL, hc.2⟩)
      rw [to_of32 hc.1]
      exact ho
    · cases hst
  | tableswitch df lo hi offs =>
    simp only [Bool.and_eq_true, decide_eq_true_eq] at hE
    obtain ⟨⟨⟨h1, h2⟩, h3⟩, h4⟩ := hE
    have h5 := List.all_eq_true.mp h4
    simp only [stpT, stp] at hst
    split at hst
    · rename_i a st2 _
      simp only [canS_c] at hc
      have key : ∀ (j : Nat) (q : Int × Nat), sw[j]? = some q → ∃ o, offs[j]? = some o ∧ q.1 = lo + j ∧ (pc : Int) + o = (q.2 : Int) := by
        intro j q hq
        have hj : j < sw.length := (List.getElem?_eq_some_iff.mp hq).1
        have h6 := h5 j (List.mem_range.mpr hj)
        simp only [hq] at h6
        cases ho : offs[j]? with
        | none => simp [ho] at h6
        | some o => simp [ho] at h6; exact ⟨o, rfl, h6.1, h6.2⟩
      obtain ⟨t, h6, h7⟩ := swK_some hst
      cases h6
      have kx := kk H locs lsA (by trivial) (by trivial) ⟨hW0, hL, hc.2⟩
      rcases h7 with ⟨i, a1, -⟩ | ⟨rfl, a1⟩
      · obtain ⟨o, b1, b2, b3⟩ := key i _ a1
        have hi2 : i < sw.length := (List.getElem?_eq_some_iff.mp a1).1
        simp only at b2 b3
        refine lv_tableIn hx hb hdg (off := o) (by rw [to_of32 hc.1]; omega) (by rw [to_of32 hc.1]; omega) ?_ b3 kx
        rw [to_of32 hc.1, show (a - lo).toNat = i by omega]
        exact b1
      · refine lv_tableOut hx hb hdg ?_ h1 kx
        rw [to_of32 hc.1]
        by_cases z1 : a < lo
        · exact Or.inl z1
        · right
          by_cases z2 : hi < a
          · exact z2
          · have hj : (a - lo).toNat < sw.length := by omega
            obtain ⟨o, -, b2, -⟩ := key _ _ (List.getElem?_eq_getElem hj)
            refine absurd ?_ (a1 _ (List.getElem_mem hj))
            rw [b2]
            omega
    · cases hst
  | getstatic i =>
    simp only [Bool.and_eq_true] at hE
    have hn1 := Nat.eq_of_beq_eq_true hE.1
    subst hn1
    rw [Nat.add_sub_cancel_left] at hdg
    have hE2 := hE.2
    clear hE
    simp only [stpT, stp] at hst
    have hVS0 : va_S (AE e) s.heap H locs := hVS
    have hz : ∀ {C n d : String} {v : Value}, va_Z C n d v (AE e) s (hpE e) → va_Z C n d v (AE e) s s.heap := by
      intro C n d v h
      exact h.kept (fun q h1 h2 => hHB q (Nat.not_le.mp h2))
    cases hy : Nat.beq y 0 with
    | true =>
      simp only [hy, cond_true, Bool.and_eq_true, decide_eq_true_eq] at hst hE2
      cases hst
      obtain ⟨rfl, hw⟩ := hE2
      refine va_gets hx hb (hz hKS.2.2.2.2.2.2.2.1) hVS hown (wAt_use hw rfl hts) (fun _ h => h) hdg ?_
      exact kk H locs lsA (by trivial) (by trivial) ⟨hW0, hL, canS_c.mpr ⟨⟨by decide, by decide⟩, hc⟩⟩
    | false =>
      simp only [hy, cond_false] at hst hE2
      cases hst
      cases hy1 : Nat.beq y 1001 with
      | true =>
        simp only [hy1, cond_true] at hE2
        have hy2 := Nat.eq_of_beq_eq_true hy1
        subst hy2
        refine va_gets hx hb (hz hKS.2.2.2.1) hVS hown (wAt_use hE2 rfl hts) (fun _ h => h) hdg ?_
        exact kk H locs lsA (by trivial) (by trivial) ⟨hW0, hL, canS_c.mpr ⟨Or.inr (by unfold kRef; omega), hc⟩⟩
      | false =>
        simp only [hy1, cond_false, Bool.and_eq_true] at hE2
        have hy2 := Nat.eq_of_beq_eq_true hE2.1
        subst hy2
        refine va_gets hx hb (hz hKS.2.2.2.2.2.1) hVS hown (wAt_use hE2.2 rfl hts) (fun _ h => h) hdg ?_
        exact kk H locs lsA (by trivial) (by trivial) ⟨hW0, hL, canS_c.mpr ⟨Or.inr (by unfold kRef; omega), hc⟩⟩
  | iaload =>
    have hn1 := Nat.eq_of_beq_eq_true hE
    subst hn1
    rw [Nat.add_sub_cancel_left] at hdg
    simp only [stpT, stp] at hst
    split at hst
    · rename_i i kc0 st2 _
      simp only [canS_c] at hc
      have hT : ∀ {t N : Nat} {f : Nat → Value}, va_T .int t N f (AE e) s (hpE e) → va_T .int t N f (AE e) s s.heap := fun h => h.kept (fun q h1 h2 => hHB q (Nat.not_le.mp h2))
      cases hq : Nat.blt kc0 1000 with
      | true =>
        simp only [hq, cond_true] at hst
        obtain ⟨a, n, z1, hk, h2⟩ := kdK_some hst
        obtain ⟨ha, h3⟩ := bif_some h2
        have ha := Nat.eq_of_beq_eq_true ha
        subst ha
        obtain ⟨⟨h4, h5⟩, h6⟩ := ite_some h3
        cases h6
        have h80 := KDL_lt hk
        have hcl : kc0 < S.1 := by
          rcases hc.2.1 with h | h
          · exact h
          · unfold kRef at h; omega
        have hat := wlE_at (e := e) hcl
        rw [enE_i hk] at hat
        have ead : adE e kc0 = bsE e + kc0 := by unfold adE; rw [if_pos (by omega)]
        simp only [List.map_cons, trV, ead] at kk ⊢
        refine va_iald hx hb hKS.1 hP kc0 0 hat rfl (in32 hc.1 h4 h5) hdg ?_
        rw [clamp32 hc.1, show Int.ofNat i.toNat = i from Int.toNat_of_nonneg h4]
        have hcv := hcM kc0 i
        rw [lgS_0 hk] at hcv
        exact kk H locs lsA (by trivial) (by trivial) ⟨hW0, hL, canS_c.mpr ⟨hcv, hc.2.2⟩⟩
      | false =>
        have hq2 : 1000 ≤ kc0 := Nat.not_lt.mp (fun h => by rw [show Nat.blt kc0 1000 = true from Nat.ble_eq_true_of_le h] at hq; cases hq)
        have ead : adE e kc0 = akE e kc0 := by unfold adE; rw [if_neg (by omega)]
        simp only [hq, cond_false] at hst
        cases hq3 : Nat.beq kc0 1000 with
        | true =>
          have h7 := Nat.eq_of_beq_eq_true hq3
          subst h7
          simp only [hq3, cond_true] at hst
          obtain ⟨⟨h4, h5⟩, h6⟩ := ite_some hst
          cases h6
          simp only [List.map_cons, trV, ead] at kk ⊢
          have hin : vp_in (Int32.ofInt i) (xsE e (-1)).toNat := by
            rw [h1000] at h5
            exact in32 hc.1 h4 (by have := hKS.2.1.1; show i < ((xsE e (-1)).toNat : Int); omega)
          refine va_ti hx hb (hT hKS.2.2.1) hVS hin (v := .int (Int32.ofInt (S.2.2 1000 i))) ?_ hdg ?_
          · rw [clamp32 hc.1, h1000, show Int.ofNat i.toNat = i from Int.toNat_of_nonneg h4]
          · have hcv := hcM 1000 i
            rw [show lgS 1000 i = false from rfl] at hcv
            exact kk H locs lsA (by trivial) (by trivial) ⟨hW0, hL, canS_c.mpr ⟨hcv, hc.2.2⟩⟩
        | false =>
          simp only [hq3, cond_false] at hst
          obtain ⟨h7, h8⟩ := bif_some hst
          obtain ⟨⟨h4, h5⟩, h6⟩ := ite_some h8
          cases h6
          simp only [List.map_cons, trV, ead] at kk ⊢
          have h9 : kc0 = 1001 ∨ kc0 = 1002 := by
            have z1 := ltB h7
            have z2 : kc0 ≠ 1000 := fun z => by rw [z] at hq3; cases hq3
            rcases hc.2.1 with h | h
            · omega
            · unfold kRef at h; omega
          rcases h9 with rfl | rfl
          · refine va_ti hx hb (hT hKS.2.2.2.2.1) hVS (in32 hc.1 h4 h5) (v := .int (Int32.ofInt (kVal 1001 i))) ?_ hdg ?_
            · rw [clamp32 hc.1, show Int.ofNat i.toNat = i from Int.toNat_of_nonneg h4]
            · exact kk H locs lsA (by trivial) (by trivial) ⟨hW0, hL, canS_c.mpr ⟨kVal_ir _ _, hc.2.2⟩⟩
          · refine va_ti hx hb (hT hKS.2.2.2.2.2.2.1) hVS (in32 hc.1 h4 h5) (v := .int (Int32.ofInt (kVal 1002 i))) ?_ hdg ?_
            · rw [clamp32 hc.1, show Int.ofNat i.toNat = i from Int.toNat_of_nonneg h4]
            · exact kk H locs lsA (by trivial) (by trivial) ⟨hW0, hL, canS_c.mpr ⟨kVal_ir _ _, hc.2.2⟩⟩
    · cases hst
  | baload =>
    have hn1 := Nat.eq_of_beq_eq_true hE
    subst hn1
    rw [Nat.add_sub_cancel_left] at hdg
    simp only [stpT, stp] at hst
    split at hst
    · rename_i i kc0 st2 _
      simp only [canS_c] at hc
      have hT : ∀ {t N : Nat} {f : Nat → Value}, va_T .byte t N f (AE e) s (hpE e) → va_T .byte t N f (AE e) s s.heap := fun h => h.kept (fun q h1 h2 => hHB q (Nat.not_le.mp h2))
      obtain ⟨h7, h8⟩ := bif_some hst
      obtain ⟨⟨h4, h5⟩, h6⟩ := ite_some h8
      cases h6
      have h9 := ltB h7
      have ead : adE e kc0 = akE e kc0 := by unfold adE; rw [if_neg (by omega)]
      simp only [List.map_cons, trV, ead] at kk ⊢
      have hlt : kc0 < 1210 := by
        rcases hc.2.1 with h | h
        · omega
        · unfold kRef at h; omega
      have h10 := (hKS.2.2.2.2.2.2.2.2.1 (kc0 - 1200) (by omega)).2.2.2
      rw [show 1200 + (kc0 - 1200) = kc0 by omega] at h10
      refine va_tb hx hb (hT h10) hVS (in32 hc.1 h4 h5) (v := .int (Int32.ofInt (kVal kc0 i))) ?_ hdg ?_
      · rw [clamp32 hc.1, show Int.ofNat i.toNat = i from Int.toNat_of_nonneg h4]
      · exact kk H locs lsA (by trivial) (by trivial) ⟨hW0, hL, canS_c.mpr ⟨kVal_ir _ _, hc.2.2⟩⟩
    · cases hst
  | laload =>
    have hn1 := Nat.eq_of_beq_eq_true hE
    subst hn1
    rw [Nat.add_sub_cancel_left] at hdg
    simp only [stpT, stp] at hst
    split at hst
    · rename_i i kc0 st2 _
      simp only [canS_c] at hc
      obtain ⟨a, n, z1, hk, h2⟩ := kdK_some hst
      obtain ⟨ha, h3⟩ := bif_some h2
      have ha := Nat.eq_of_beq_eq_true ha
      subst ha
      obtain ⟨⟨h4, h5⟩, h6⟩ := ite_some h3
      cases h6
      have h80 := KDL_lt hk
      have hcl : kc0 < S.1 := by
        rcases hc.2.1 with h | h
        · exact h
        · unfold kRef at h; omega
      have hat := wlE_at (e := e) hcl
      rw [enE_l hk] at hat
      have ead : adE e kc0 = bsE e + kc0 := by unfold adE; rw [if_pos (by omega)]
      simp only [List.map_cons, trV, ead] at kk ⊢
      refine va_lald hx hb hKS.1 hP kc0 1 hat rfl (in32 hc.1 h4 h5) hdg ?_
      rw [clamp32 hc.1, show Int.ofNat i.toNat = i from Int.toNat_of_nonneg h4]
      have hcv := hcM kc0 i
      rw [lgS_1 hk] at hcv
      exact kk H locs lsA (by trivial) (by trivial) ⟨hW0, hL, canS_c.mpr ⟨hcv, hc.2.2⟩⟩
    · cases hst
  | iastore =>
    have hn1 := Nat.eq_of_beq_eq_true hE
    subst hn1
    rw [Nat.add_sub_cancel_left] at hdg
    simp only [stpT, stp] at hst
    split at hst
    · rename_i v i kc0 st2 _
      simp only [canS_c] at hc
      obtain ⟨a, n, z1, hk, h2⟩ := kdK_some hst
      obtain ⟨ha, h3⟩ := bif_some h2
      have ha := Nat.eq_of_beq_eq_true ha
      subst ha
      obtain ⟨⟨h4, h5⟩, h6⟩ := ite_some h3
      cases h6
      have h80 := KDL_lt hk
      have hcl : kc0 < S.1 := by
        rcases hc.2.2.1 with h | h
        · exact h
        · unfold kRef at h; omega
      have hat := wlE_at (e := e) hcl
      rw [enE_i hk] at hat
      have ead : adE e kc0 = bsE e + kc0 := by unfold adE; rw [if_pos (by omega)]
      simp only [List.map_cons, trV, ead] at kk ⊢
      refine mz_iast hx hb hKS.1 hP (wlE_D e S) hVS kc0 0 hat rfl (in32 hc.2.1 h4 h5) hdg (fun H1 locs1 hz1 hP1 hS1 => ?_)
      rw [← up_i hc.2.1 h4] at hP1
      have hw : wlE e (S.1, S.2.1, upd_ S.2.2 kc0 i v) = _ := wlE_set (R := S.2.1) (R' := S.2.1) (I := S.2.2) (I' := upd_ S.2.2 kc0 i v) (c := kc0) (n := S.1) (fun k' hk' => enE_ne hk') (enE_i hk)
      have hP2 : va_P (dE e) clL (wlE e (S.1, S.2.1, upd_ S.2.2 kc0 i v)) H1 := by rw [hw]; exact hP1
      refine kk H1 locs1 lsA (by trivial) (by trivial) ⟨⟨hP2, fun z => hz1.trans (hsz z), hS1, canM_upd hcM (by rw [lgS_0 hk]; exact hc.1), fun j => ?_, hR, hn, fun c1 g1 g2 => ⟨fun j => ?_, (hFr c1 g1 g2).2⟩⟩, hL, hc.2.2.2⟩
      · show upd_ S.2.2 kc0 i v 1000 j = _
        unfold upd_
        rw [if_neg (fun q => by omega)]
        exact h1000 j
      · show upd_ S.2.2 kc0 i v c1 j = 0
        unfold upd_
        rw [if_neg (fun q => by have := q.1; omega)]
        exact (hFr c1 g1 g2).1 j
    · cases hst
  | lastore =>
    have hn1 := Nat.eq_of_beq_eq_true hE
    subst hn1
    rw [Nat.add_sub_cancel_left] at hdg
    simp only [stpT, stp] at hst
    split at hst
    · rename_i v i kc0 st2 _
      simp only [canS_c] at hc
      obtain ⟨a, n, z1, hk, h2⟩ := kdK_some hst
      obtain ⟨ha, h3⟩ := bif_some h2
      have ha := Nat.eq_of_beq_eq_true ha
      subst ha
      obtain ⟨⟨h4, h5⟩, h6⟩ := ite_some h3
      cases h6
      have h80 := KDL_lt hk
      have hcl : kc0 < S.1 := by
        rcases hc.2.2.1 with h | h
        · exact h
        · unfold kRef at h; omega
      have hat := wlE_at (e := e) hcl
      rw [enE_l hk] at hat
      have ead : adE e kc0 = bsE e + kc0 := by unfold adE; rw [if_pos (by omega)]
      simp only [List.map_cons, trV, ead] at kk ⊢
      refine mz_last hx hb hKS.1 hP (wlE_D e S) hVS kc0 1 hat rfl (in32 hc.2.1 h4 h5) hdg (fun H1 locs1 hz1 hP1 hS1 => ?_)
      rw [← up_l hc.2.1 h4] at hP1
      have hw : wlE e (S.1, S.2.1, upd_ S.2.2 kc0 i v) = _ := wlE_set (R := S.2.1) (R' := S.2.1) (I := S.2.2) (I' := upd_ S.2.2 kc0 i v) (c := kc0) (n := S.1) (fun k' hk' => enE_ne hk') (enE_l hk)
      have hP2 : va_P (dE e) clL (wlE e (S.1, S.2.1, upd_ S.2.2 kc0 i v)) H1 := by rw [hw]; exact hP1
      refine kk H1 locs1 lsA (by trivial) (by trivial) ⟨⟨hP2, fun z => hz1.trans (hsz z), hS1, canM_upd hcM (by rw [lgS_1 hk]; exact hc.1), fun j => ?_, hR, hn, fun c1 g1 g2 => ⟨fun j => ?_, (hFr c1 g1 g2).2⟩⟩, hL, hc.2.2.2⟩
      · show upd_ S.2.2 kc0 i v 1000 j = _
        unfold upd_
        rw [if_neg (fun q => by omega)]
        exact h1000 j
      · show upd_ S.2.2 kc0 i v c1 j = 0
        unfold upd_
        rw [if_neg (fun q => by have := q.1; omega)]
        exact (hFr c1 g1 g2).1 j
    · cases hst
  | arraylength =>
    have hn1 := Nat.eq_of_beq_eq_true hE
    subst hn1
    rw [Nat.add_sub_cancel_left] at hdg
    simp only [stpT, stp] at hst
    split at hst
    · rename_i kc0 st2 _
      simp only [canS_c] at hc
      have hT : ∀ {ty : FieldType} {t N : Nat} {f : Nat → Value}, va_T ty t N f (AE e) s (hpE e) → va_T ty t N f (AE e) s s.heap := fun h => h.kept (fun q h1 h2 => hHB q (Nat.not_le.mp h2))
      cases hq : Nat.blt kc0 1000 with
      | true =>
        simp only [hq, cond_true] at hst
        obtain ⟨a, n, z1, hk, h2⟩ := kdK_some hst
        obtain ⟨ha, h3⟩ := bif_some h2
        have ha := ltB ha
        cases h3
        have h80 := KDL_lt hk
        have hnn := (KDL_n _ _ _ _ hk).2.2
        have hcl : kc0 < S.1 := by
          rcases hc.1 with h | h
          · exact h
          · unfold kRef at h; omega
        have hat := wlE_at (e := e) hcl
        have ead : adE e kc0 = bsE e + kc0 := by unfold adE; rw [if_pos (by omega)]
        simp only [List.map_cons, trV, ead] at kk ⊢
        have kx := kk H locs lsA (by trivial) (by trivial) ⟨hW0, hL, canS_c.mpr ⟨⟨by show (-2147483648 : Int) ≤ (n : Int); omega, by show (n : Int) ≤ 2147483647; omega⟩, hc.2⟩⟩
        match a, ha, hk with
        | 0, _, hk =>
          rw [enE_i hk] at hat
          exact va_alen hx hb hKS.1 hP kc0 0 hat rfl (ofNat_ofInt n) hdg kx
        | 1, _, hk =>
          rw [enE_l hk] at hat
          exact va_alen hx hb hKS.1 hP kc0 1 hat rfl (ofNat_ofInt n) hdg kx
        | a + 2, ha, _ => omega
      | false =>
        have hq2 : 1000 ≤ kc0 := Nat.not_lt.mp (fun h => by rw [show Nat.blt kc0 1000 = true from Nat.ble_eq_true_of_le h] at hq; cases hq)
        have ead : adE e kc0 = akE e kc0 := by unfold adE; rw [if_neg (by omega)]
        simp only [hq, cond_false] at hst
        cases hq3 : Nat.beq kc0 1000 with
        | true =>
          have h7 := Nat.eq_of_beq_eq_true hq3
          subst h7
          simp only [hq3, cond_true] at hst
          cases hst
          simp only [List.map_cons, trV, ead] at kk ⊢
          have hx1 := hKS.2.1
          refine va_tlen hx hb (hT hKS.2.2.1) hVS (v := Int32.ofInt (S.2.2 1000 (-1))) ?_ hdg (kk H locs lsA (by trivial) (by trivial) ⟨hW0, hL, canS_c.mpr ⟨?_, hc.2⟩⟩)
          · rw [h1000, ofNat_ofInt, show Int.ofNat (xsE e (-1)).toNat = xsE e (-1) from Int.toNat_of_nonneg hx1.1]
          · rw [h1000]
            exact ⟨by omega, by omega⟩
        | false =>
          simp only [hq3, cond_false] at hst
          obtain ⟨h7, h8⟩ := bif_some hst
          have h9 := ltB h7
          cases h8
          have hlt : kc0 < 1210 := by
            rcases hc.1 with h | h
            · omega
            · unfold kRef at h; omega
          have h10 := (hKS.2.2.2.2.2.2.2.2.1 (kc0 - 1200) (by omega)).2.2.2
          rw [show 1200 + (kc0 - 1200) = kc0 by omega] at h10
          simp only [List.map_cons, trV, ead] at kk ⊢
          exact va_tlen hx hb (hT h10) hVS (v := Int32.ofInt (kLen kc0)) (ofNat_ofInt _) hdg (kk H locs lsA (by trivial) (by trivial) ⟨hW0, hL, canS_c.mpr ⟨kLen_ir kc0, hc.2⟩⟩)
    · cases hst
  | getfield i =>
    simp only [Bool.and_eq_true] at hE
    have hn1 := Nat.eq_of_beq_eq_true hE.1
    subst hn1
    rw [Nat.add_sub_cancel_left] at hdg
    have hE := hE.2
    simp only [stpT, stp] at hst
    split at hst
    · rename_i kc0 st2 _
      simp only [canS_c] at hc
      cases hz : Nat.beq z 100 with
      | true =>
        simp only [hz, cond_true, Bool.and_eq_true, decide_eq_true_eq] at hst hE
        obtain ⟨h7, h8⟩ := bif_some hst
        simp only [Bool.and_eq_true] at h7
        have h9 := ltB h7.1
        have h10 := ltB h7.2
        have hlt : kc0 < 1110 := by
          rcases hc.1 with h | h
          · omega
          · unfold kRef at h; omega
        have ead : adE e kc0 = akE e kc0 := by unfold adE; rw [if_neg (by omega)]
        have ead2 : adE e (kc0 + 100) = akE e (kc0 + 100) := by unfold adE; rw [if_neg (by omega)]
        have h11 := hKS.2.2.2.2.2.2.2.2.1 (kc0 - 1100) (by omega)
        rw [show 1100 + (kc0 - 1100) = kc0 by omega, show 1200 + (kc0 - 1100) = kc0 + 100 by omega] at h11
        cases hy : Nat.beq y 3 with
        | true =>
          simp only [hy, cond_true] at h8 hE
          cases h8
          simp only [List.map_cons, trV, ead, ead2] at kk ⊢
          exact vk_getf hx hb (h11.2.2.1.kept (fun q z1 z2 => hHB q (Nat.not_le.mp z2))) hVS hown (wAt_use hE.2 rfl hts) (fun _ h => h) hdg (kk H locs lsA (by trivial) (by trivial) ⟨hW0, hL, canS_c.mpr ⟨Or.inr (by unfold kRef; omega), hc.2⟩⟩)
        | false =>
          simp only [hy, cond_false] at h8 hE
          cases h8
          simp only [List.map_cons, trV, ead] at kk ⊢
          exact vk_getf hx hb (h11.2.1.kept (fun q z1 z2 => hHB q (Nat.not_le.mp z2))) hVS hown (wAt_use hE.2 rfl hts) (fun _ h => h) hdg (kk H locs lsA (by trivial) (by trivial) ⟨hW0, hL, canS_c.mpr ⟨ir_0, hc.2⟩⟩)
      | false =>
        simp only [hz, cond_false, Bool.and_eq_true, decide_eq_true_eq] at hst hE
        obtain ⟨⟨⟨⟨⟨hz12, hx0⟩, hxn⟩, hF2⟩, hty⟩, hy3⟩ := hE
        replace hz12 := ltB hz12
        replace hxn := ltB hxn
        replace hty := Nat.eq_of_beq_eq_true hty
        obtain ⟨a, n, z1, hk, h2⟩ := kdK_some hst
        obtain ⟨ha, h3⟩ := bif_some h2
        simp only [Bool.and_eq_true] at ha
        have ha1 := Nat.eq_of_beq_eq_true ha.1
        have ha2 := Nat.eq_of_beq_eq_true ha.2
        subst ha1
        subst ha2
        have h80 := KDL_lt hk
        have hnn := ((KDL_n _ _ _ _ hk).1 rfl).1
        have hcl : kc0 < S.1 := by
          rcases hc.1 with h | h
          · exact h
          · unfold kRef at h; omega
        have hat := wlE_at (e := e) hcl
        rw [enE_o hk] at hat
        have ead : adE e kc0 = bsE e + kc0 := by unfold adE; rw [if_pos (by omega)]
        have hlink : (Jvm.Cond.fieldLink (ownM k) i ((clT z1).2.1 x.toNat).1 ((clT z1).2.1 x.toNat).2.1 ((clT z1).2.1 x.toNat).2.2.1).before args s = true ∨ (Jvm.Cond.fieldLinkNest (ownM k) i ((clT z1).2.1 x.toNat).1 ((clT z1).2.1 x.toNat).2.1 ((clT z1).2.1 x.toNat).2.2.1 "LotteryOfLosses").before args s = true := by
          simp only [okF, Bool.or_eq_true] at hF2
          rcases hF2 with q | q
          · exact Or.inl (wAt_use q rfl hts)
          · exact Or.inr (va_Nw.use rfl (wAt_nest q rfl hKS.2))
        have hfs : ((List.range n).map fun j => fvE e (ftT z1 j) kc0 j S.2.1 S.2.2)[x.toNat]? = some (fvE e (ftT z1 x.toNat) kc0 x.toNat S.2.1 S.2.2) := by
          rw [List.getElem?_map, List.getElem?_range (by omega)]
          rfl
        have hxx : Int.ofNat x.toNat = x := Int.toNat_of_nonneg hx0
        have hcv := hcM kc0 x
        rw [lgS_2 hk] at hcv
        have go1 : ∀ v : Value, ((List.range n).map fun j => fvE e (ftT z1 j) kc0 j S.2.1 S.2.2)[x.toNat]? = some v → W p l en R s m args below meth c H locs cells slots Q (F0 m (pc + 3) lsA (v :: st2.map (trV e))) → W p l en R s m args below meth c H locs cells slots Q (F0 m pc lsA (.ref (bsE e + kc0) :: st2.map (trV e))) := fun v h1 h2 =>
          mz_get hx hb hts (clIn hz12) hown hKS.1 hP kc0 hat (clAt hz12) x.toNat hxn hlink h1 hdg h2
        rw [hty] at hfs hcv
        split at h3
        · cases h3
          simp only [List.map_cons, trV, ead] at kk ⊢
          refine go1 _ hfs ?_
          simp only [fvE, hxx, Nat.zero_min]
          exact kk H locs lsA (by trivial) (by trivial) ⟨hW0, hL, canS_c.mpr ⟨hcv, hc.2⟩⟩
        · cases h3
          simp only [List.map_cons, trV, ead] at kk ⊢
          refine go1 _ hfs ?_
          simp only [fvE, hxx]
          exact kk H locs lsA (by trivial) (by trivial) ⟨hW0, hL, canS_c.mpr ⟨hcv, hc.2⟩⟩
        · cases h3
          simp only [List.map_cons, trV, ead] at kk ⊢
          refine go1 _ hfs ?_
          simp only [fvE, hxx]
          exact kk H locs lsA (by trivial) (by trivial) ⟨hW0, hL, canS_c.mpr ⟨hcv, hc.2⟩⟩
        · rename_i j
          split at h3
          · rename_i c' hR1
            cases h3
            have hj : j = x.toNat := by
              simp only [Bool.or_eq_true] at hy3
              rcases hy3 with q | q
              · have := ltB q; omega
              · have := Nat.eq_of_beq_eq_true q; omega
            subst hj
            have hc' := hR _ _ _ hR1
            simp only [List.map_cons, trV, ead] at kk ⊢
            refine go1 _ hfs ?_
            have hm3 : min (x.toNat + 3) 3 = 3 := by omega
            simp only [fvE, hm3, hR1, Option.map_some, va_rf]
            exact kk H locs lsA (by trivial) (by trivial) ⟨hW0, hL, canS_c.mpr ⟨Or.inl hc', hc.2⟩⟩
          · cases h3
    · cases hst
  | putfield i =>
    simp only [Bool.and_eq_true, decide_eq_true_eq] at hE
    obtain ⟨⟨⟨⟨⟨⟨⟨hn1, hz12⟩, hx0⟩, hxn⟩, hF2⟩, hty⟩, hy3⟩, hfn⟩ := hE
    have hn1 := Nat.eq_of_beq_eq_true hn1
    subst hn1
    rw [Nat.add_sub_cancel_left] at hdg
    replace hz12 := ltB hz12
    replace hxn := ltB hxn
    replace hty := Nat.eq_of_beq_eq_true hty
    have hxx : Int.ofNat x.toNat = x := Int.toNat_of_nonneg hx0
    have hlink : (Jvm.Cond.fieldLink (ownM k) i ((clT z).2.1 x.toNat).1 ((clT z).2.1 x.toNat).2.1 ((clT z).2.1 x.toNat).2.2.1).before args s = true ∨ (Jvm.Cond.fieldLinkNest (ownM k) i ((clT z).2.1 x.toNat).1 ((clT z).2.1 x.toNat).2.1 ((clT z).2.1 x.toNat).2.2.1 "LotteryOfLosses").before args s = true := by
      simp only [okF, Bool.or_eq_true] at hF2
      rcases hF2 with q | q
      · exact Or.inl (wAt_use q rfl hts)
      · exact Or.inr (va_Nw.use rfl (wAt_nest q rfl hKS.2))
    have hfin : ((clT z).2.1 x.toNat).2.2.2 = false ∨ (meth.name = "<init>" ∧ ((clT z).2.1 x.toNat).1 = ownM k ∧ (Jvm.Cond.fieldLink (ownM k) i ((clT z).2.1 x.toNat).1 ((clT z).2.1 x.toNat).2.1 ((clT z).2.1 x.toNat).2.2.1).before args s = true) := by
      simp only [Bool.or_eq_true, Bool.and_eq_true, Bool.not_eq_true', decide_eq_true_eq] at hfn
      rcases hfn with q | q
      · exact Or.inl q
      · exact Or.inr ⟨hinit.trans q.1.1, q.1.2, wAt_use q.2 rfl hts⟩
    have htb := okTB_at hz12 hxn
    have go2 : ∀ (kc0 a n z1 : Nat) (v : Int) (w : Value) (st2 : List MV), KDL[kc0]? = some (a, n, z1) → a = 2 → z1 = z → canV S.1 (.inr (.inr kc0)) → (ftT z x.toNat = 0 ∨ ftT z x.toNat = 1 ∨ ftT z x.toNat = 2) → w = (if ftT z x.toNat = 2 then .long (Int64.ofInt v) else .int (Int32.ofInt v)) → (if Nat.beq (ftT z x.toNat) 2 = true then IRL v else IR v) → narrow (tyT z x.toNat) w = w → fits (tyT z x.toNat) w = true → canS S.1 st2 →
        (∀ (H' : Heap) (locs' : List Loc) (lsB : Array Slot), SR e (maxM k) s H' locs' lsB ls st2 (S.1, S.2.1, upd_ S.2.2 kc0 x v) → W p l en R s m args below meth c H' locs' cells slots Q (F0 m (pc + 3) lsB (st2.map (trV e)))) →
        W p l en R s m args below meth c H locs cells slots Q (F0 m pc lsA (w :: .ref (adE e kc0) :: st2.map (trV e))) := by
      intro kc0 a n z1 v w st2 hk ha hz1 hcc hft hw hcan hnar hfit hc2 k2
      subst ha
      subst hz1
      have h80 := KDL_lt hk
      have hnn := ((KDL_n _ _ _ _ hk).1 rfl).1
      have hcl : kc0 < S.1 := by
        rcases hcc with h | h
        · exact h
        · unfold kRef at h; omega
      have hat := wlE_at (e := e) hcl
      rw [enE_o hk] at hat
      have ead : adE e kc0 = bsE e + kc0 := by unfold adE; rw [if_pos (by omega)]
      rw [ead]
      refine mz_put hx hb hts (clIn hz12) (tyT z1) (clTy hz12) (clNm hz12) hown hKS.1 hP (wlE_D e S) hVS kc0 hat (clAt hz12) x.toNat hxn hlink hfin (clTy hz12 _ hxn) hnar hfit (by simp; omega) hdg (fun H1 locs1 hs1 hP1 hS1 => ?_)
      rw [hw, ← up_f hx0 (by omega) hft] at hP1
      have hwl : wlE e (S.1, S.2.1, upd_ S.2.2 kc0 x v) = _ := wlE_set (R := S.2.1) (R' := S.2.1) (I := S.2.2) (I' := upd_ S.2.2 kc0 x v) (c := kc0) (n := S.1) (fun k' hk' => enE_ne hk') (enE_o hk)
      have hP2 : va_P (dE e) clL (wlE e (S.1, S.2.1, upd_ S.2.2 kc0 x v)) H1 := by rw [hwl]; exact hP1
      refine k2 H1 locs1 lsA ⟨⟨hP2, fun z => hs1.trans (hsz z), hS1, canM_upd hcM (by rw [lgS_2 hk]; exact hcan), fun j => ?_, hR, hn, fun c1 g1 g2 => ⟨fun j => ?_, (hFr c1 g1 g2).2⟩⟩, hL, hc2⟩
      · show upd_ S.2.2 kc0 x v 1000 j = _
        unfold upd_
        rw [if_neg (fun q => by omega)]
        exact h1000 j
      · show upd_ S.2.2 kc0 x v c1 j = 0
        unfold upd_
        rw [if_neg (fun q => by have := q.1; omega)]
        exact (hFr c1 g1 g2).1 j
    simp only [stpT, stp] at hst
    unfold okTB at htb
    split at hst
    · rename_i v kc0 st2 _
      simp only [canS_c] at hc
      obtain ⟨a, n, z1, hk, h2⟩ := kdK_some hst
      obtain ⟨ha, h3⟩ := bif_some h2
      simp only [Bool.and_eq_true] at ha
      cases h3
      simp only [List.map_cons, trV]
      rw [show min 0 3 = 0 from rfl] at hty
      rw [hty] at htb
      have ht : tyT z x.toNat = .int := by revert htb; cases tyT z x.toNat <;> simp
      refine go2 kc0 a n z1 v _ _ hk (Nat.eq_of_beq_eq_true ha.1) (Nat.eq_of_beq_eq_true ha.2) hc.2.1 (Or.inl hty) (by rw [hty]; rfl) (by rw [hty]; exact hc.1) (by rw [ht]; rfl) (by rw [ht]; rfl) hc.2.2 (fun H' locs' lsB h => kk H' locs' lsB (by trivial) (by trivial) h)
    · rename_i v kc0 st2 _
      simp only [canS_c] at hc
      obtain ⟨a, n, z1, hk, h2⟩ := kdK_some hst
      obtain ⟨ha, h3⟩ := bif_some h2
      simp only [Bool.and_eq_true] at ha
      rw [show min 1 3 = 1 from rfl] at hty
      rw [hty] at htb
      have ht : tyT z x.toNat = .boolean := by revert htb; cases tyT z x.toNat <;> simp
      have hv : v = 0 ∨ v = 1 := by
        rcases brc_some h3 with ⟨q, -⟩ | ⟨-, h4⟩
        · exact Or.inl q
        · rcases brc_some h4 with ⟨q, -⟩ | ⟨-, h5⟩
          · exact Or.inr q
          · cases h5
      have h3 : some (pc + 3, ls, st2, (S.1, S.2.1, upd_ S.2.2 kc0 x v)) = some (pc', ls', st', S') := by
        rcases brc_some h3 with ⟨-, h4⟩ | ⟨-, h4⟩
        · exact h4
        · rcases brc_some h4 with ⟨-, h5⟩ | ⟨-, h5⟩
          · exact h5
          · cases h5
      cases h3
      simp only [List.map_cons, trV]
      refine go2 kc0 a n z1 v _ _ hk (Nat.eq_of_beq_eq_true ha.1) (Nat.eq_of_beq_eq_true ha.2) hc.2.1 (Or.inr (Or.inl hty)) (by rw [hty]; rfl) (by rw [hty]; exact hc.1) (by rw [ht]; rcases hv with rfl | rfl <;> rfl) (by rw [ht]; rcases hv with rfl | rfl <;> rfl) hc.2.2 (fun H' locs' lsB h => kk H' locs' lsB (by trivial) (by trivial) h)
    · rename_i v kc0 st2 _
      simp only [canS_c] at hc
      obtain ⟨a, n, z1, hk, h2⟩ := kdK_some hst
      obtain ⟨ha, h3⟩ := bif_some h2
      simp only [Bool.and_eq_true] at ha
      cases h3
      simp only [List.map_cons, trV]
      rw [show min 2 3 = 2 from rfl] at hty
      rw [hty] at htb
      have ht : tyT z x.toNat = .long := by revert htb; cases tyT z x.toNat <;> simp
      refine go2 kc0 a n z1 v _ _ hk (Nat.eq_of_beq_eq_true ha.1) (Nat.eq_of_beq_eq_true ha.2) hc.2.1 (Or.inr (Or.inr hty)) (by rw [hty]; rfl) (by rw [hty]; exact hc.1) (by rw [ht]; rfl) (by rw [ht]; rfl) hc.2.2 (fun H' locs' lsB h => kk H' locs' lsB (by trivial) (by trivial) h)
    · cases hst
  | _ =>
    simp only [stpT, stp] at hst
    cases hst
end STEP
