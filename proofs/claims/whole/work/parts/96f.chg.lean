/-! CHANGES: mend, undo, redo -/
def Fr (L : List Nat) (I I' : ME) : Prop := ∀ c, c ∉ L → I' c = I c
theorem Fr.tr {L : List Nat} {I I' J : ME} (h : Fr L I I') (h2 : Fr L I' J) : Fr L I J := fun c hc => (h2 c hc).trans (h c hc)
theorem Fr.rfl' {L : List Nat} {I : ME} : Fr L I I := fun _ _ => rfl
theorem Rel.mk {ln : lz_L} {c : Int} {I1 I2 : ME} (hC : CI ln c I1) (hM : MR_ ln I1 I2) (hs : ∀ c, c < 53 → I2 c = I1 c) : Rel c I2 := by
  refine ⟨ln, ?_, ?_⟩
  · unfold CI
    simp only [hs 2 (by decide), hs 3 (by decide), hs 4 (by decide), hs 5 (by decide), hs 6 (by decide), hs 15 (by decide), hs 36 (by decide), hs 37 (by decide), hs 40 (by decide), hs 41 (by decide), hs 42 (by decide), hs 43 (by decide), hs 45 (by decide), hs 48 (by decide), hs 49 (by decide), hs 50 (by decide), hs 51 (by decide), hs 8 (by decide), hs 9 (by decide), hs 10 (by decide), hs 13 (by decide), hs 1 (by decide), hs 14 (by decide), hs 39 (by decide), hs 34 (by decide), hs 44 (by decide), hs 7 (by decide), hs 35 (by decide), hs 38 (by decide), hs 46 (by decide), hs 52 (by decide)]
    exact hC
  · unfold MR_
    simp only [hs 2 (by decide), hs 3 (by decide), hs 4 (by decide), hs 5 (by decide), hs 6 (by decide), hs 15 (by decide), hs 36 (by decide), hs 37 (by decide), hs 40 (by decide), hs 41 (by decide), hs 42 (by decide), hs 43 (by decide), hs 45 (by decide), hs 48 (by decide), hs 49 (by decide), hs 50 (by decide), hs 51 (by decide), hs 8 (by decide), hs 9 (by decide), hs 10 (by decide), hs 13 (by decide), hs 1 (by decide), hs 14 (by decide), hs 39 (by decide), hs 34 (by decide), hs 44 (by decide), hs 7 (by decide), hs 35 (by decide), hs 38 (by decide), hs 46 (by decide), hs 52 (by decide)]
    exact hM
def shn (f : gF) (n : Int) : gF := fun i => if 0 ≤ i ∧ i < n then f (i + 1) else f i
theorem cp_c {I : ME} {c0 c1 c' : Nat} {sp dp n : Int} (h : c' ≠ c1) : cpyM I c0 sp c1 dp n c' = I c' := by
  funext i
  unfold cpyM
  rw [if_neg (fun q => h q.1)]
theorem cp_g (I : ME) (c : Nat) : cpyM I c 1 c 0 39 c = shn (I c) 39 := by
  funext i
  unfold cpyM shn
  by_cases h : 0 ≤ i ∧ i < 39
  · rw [if_pos ⟨rfl, h.1, by omega⟩, if_pos h]
    congr 1
    omega
  · rw [if_neg (fun q => h ⟨q.2.1, by omega⟩), if_neg h]
def chS (st : Int) : Int := if st = 40 then 39 else st
def chF (st : Int) (f : gF) : gF := if st = 40 then shn f 39 else f
/-- a change is kept -/
def CHP (I : ME) (n w v v' : Int) (I' : ME) : Prop :=
  I' 39 5 = chS (I 39 5) + 1 ∧ I' 39 6 = chS (I 39 5) + 1 ∧ I' 40 = fu (chF (I 39 5) (I 40)) (chS (I 39 5)) n ∧ I' 41 = fu (chF (I 39 5) (I 41)) (chS (I 39 5)) w ∧
  I' 42 = fu (chF (I 39 5) (I 42)) (chS (I 39 5)) v ∧ I' 43 = fu (chF (I 39 5) (I 43)) (chS (I 39 5)) v' ∧ Fr [39, 40, 41, 42, 43] I I'
/-- a number told -/
def TL (I : ME) (n w v : Int) (I' : ME) : Prop :=
  I' 2 = (if w = 0 then fu (I 2) (8 * (n / 10) + n % 10) v else I 2) ∧ I' 3 = (if w = 1 then fu (I 3) n v else I 3) ∧ I' 4 = (if w = 2 then fu (I 4) n v else I 4) ∧
  I' 5 = (if w = 3 then fu (I 5) n v else I 5) ∧ I' 1 8 = (if w = 0 then I 1 8 + 1 else I 1 8) ∧ (∀ j, j ≠ 8 → I' 1 j = I 1 j) ∧ Fr [1, 2, 3, 4, 5] I I'
theorem fr_up {L : List Nat} {I J : ME} {c : Nat} {i v : Int} (h : Fr L I J) (hc : c ∈ L) : Fr L I (upd_ J c i v) := fun c' hc' => by
  rw [up_c (fun q => hc' (by rw [q]; exact hc))]
  exact h c' hc'
theorem fr_cp {L : List Nat} {I J : ME} {c0 c : Nat} {sp dp n : Int} (h : Fr L I J) (hc : c ∈ L) : Fr L I (cpyM J c0 sp c dp n) := fun c' hc' => by
  rw [cp_c (fun q => hc' (by rw [q]; exact hc))]
  exact h c' hc'
theorem x60T {d : Nat} {n w v : Int} {I : ME} {Q : Option MV → ME → Prop} (hd : 3 ≤ d) (hn : n ≤ 2147483647) (hz : I 1 5 ≤ 12) (h8 : 0 ≤ I 1 8 ∧ I 1 8 ≤ 1000) (ht : tlC I n w) (h : ∀ I', TL I n w v I' → Q none I') : EvM d 60 [rf 1, nt n, nt w, nt v] I Q := by
  have fr : ∀ {J : ME} {c : Nat} {i v : Int}, c ∈ [1, 2, 3, 4, 5] → Fr [1, 2, 3, 4, 5] I J → Fr [1, 2, 3, 4, 5] I (upd_ J c i v) := fun a b => fr_up b a
  refine x60 hd hn hz (fun q => h _ ?_) (fun q => h _ ?_) (fun q => h _ ?_) (fun q => h _ ?_) (fun q => absurd ht q)
  · obtain ⟨-, rfl⟩ := q
    refine ⟨?_, ?_, ?_, ?_, ?_, fun j hj => ?_, fr (by decide) (fr (by decide) Fr.rfl')⟩
    · rw [if_pos rfl]; simp (disch := omega) only [up_c, up_g, fu_eq, fu_ne, cp_c, cp_g, up_eq, up_ne, iad_e, isb_e]
    · simp (disch := omega) only [up_c, up_g, fu_eq, fu_ne, cp_c, cp_g, up_eq, up_ne, iad_e, isb_e]; rw [if_neg (by decide)]
    · simp (disch := omega) only [up_c, up_g, fu_eq, fu_ne, cp_c, cp_g, up_eq, up_ne, iad_e, isb_e]; rw [if_neg (by decide)]
    · simp (disch := omega) only [up_c, up_g, fu_eq, fu_ne, cp_c, cp_g, up_eq, up_ne, iad_e, isb_e]; rw [if_neg (by decide)]
    · rw [if_pos rfl]; simp (disch := omega) only [up_c, up_g, fu_eq, fu_ne, cp_c, cp_g, up_eq, up_ne, iad_e, isb_e]
    · rw [up_ne hj, up_c (by decide)]
  · obtain ⟨-, rfl⟩ := q
    refine ⟨?_, ?_, ?_, ?_, ?_, fun j hj => ?_, fr (by decide) Fr.rfl'⟩
    · simp (disch := omega) only [up_c, up_g, fu_eq, fu_ne, cp_c, cp_g, up_eq, up_ne, iad_e, isb_e]; rw [if_neg (by decide)]
    · rw [if_pos rfl]; simp (disch := omega) only [up_c, up_g, fu_eq, fu_ne, cp_c, cp_g, up_eq, up_ne, iad_e, isb_e]
    · simp (disch := omega) only [up_c, up_g, fu_eq, fu_ne, cp_c, cp_g, up_eq, up_ne, iad_e, isb_e]; rw [if_neg (by decide)]
    · simp (disch := omega) only [up_c, up_g, fu_eq, fu_ne, cp_c, cp_g, up_eq, up_ne, iad_e, isb_e]; rw [if_neg (by decide)]
    · simp (disch := omega) only [up_c, up_g, fu_eq, fu_ne, cp_c, cp_g, up_eq, up_ne, iad_e, isb_e]; rw [if_neg (by decide)]
    · rw [up_c (by decide)]
  · obtain ⟨-, rfl⟩ := q
    refine ⟨?_, ?_, ?_, ?_, ?_, fun j hj => ?_, fr (by decide) Fr.rfl'⟩
    · simp (disch := omega) only [up_c, up_g, fu_eq, fu_ne, cp_c, cp_g, up_eq, up_ne, iad_e, isb_e]; rw [if_neg (by decide)]
    · simp (disch := omega) only [up_c, up_g, fu_eq, fu_ne, cp_c, cp_g, up_eq, up_ne, iad_e, isb_e]; rw [if_neg (by decide)]
    · rw [if_pos rfl]; simp (disch := omega) only [up_c, up_g, fu_eq, fu_ne, cp_c, cp_g, up_eq, up_ne, iad_e, isb_e]
    · simp (disch := omega) only [up_c, up_g, fu_eq, fu_ne, cp_c, cp_g, up_eq, up_ne, iad_e, isb_e]; rw [if_neg (by decide)]
    · simp (disch := omega) only [up_c, up_g, fu_eq, fu_ne, cp_c, cp_g, up_eq, up_ne, iad_e, isb_e]; rw [if_neg (by decide)]
    · rw [up_c (by decide)]
  · obtain ⟨-, rfl⟩ := q
    refine ⟨?_, ?_, ?_, ?_, ?_, fun j hj => ?_, fr (by decide) Fr.rfl'⟩
    · simp (disch := omega) only [up_c, up_g, fu_eq, fu_ne, cp_c, cp_g, up_eq, up_ne, iad_e, isb_e]; rw [if_neg (by decide)]
    · simp (disch := omega) only [up_c, up_g, fu_eq, fu_ne, cp_c, cp_g, up_eq, up_ne, iad_e, isb_e]; rw [if_neg (by decide)]
    · simp (disch := omega) only [up_c, up_g, fu_eq, fu_ne, cp_c, cp_g, up_eq, up_ne, iad_e, isb_e]; rw [if_neg (by decide)]
    · rw [if_pos rfl]; simp (disch := omega) only [up_c, up_g, fu_eq, fu_ne, cp_c, cp_g, up_eq, up_ne, iad_e, isb_e]
    · simp (disch := omega) only [up_c, up_g, fu_eq, fu_ne, cp_c, cp_g, up_eq, up_ne, iad_e, isb_e]; rw [if_neg (by decide)]
    · rw [up_c (by decide)]
theorem x15_40 {d : Nat} {I : ME} {Q : Option MV → ME → Prop} (hd : 1 ≤ d) (h0 : Q (none) (cpyM I 40 1 40 0 39)) : EvM d 15 [rf 40] I Q := by
  refine EvM.go [] (T := T_15) rfl rfl rfl rfl ?_
  conv => whnf
  repeat' first
    | (refine brI (fun _ => ?_) (fun _ => ?_) <;> conv => whnf)
    | (refine ⟨by first | exact trivial | omega, ?_⟩; conv => whnf)
  all_goals first
    | exact h0
    | (exfalso; omega)

theorem x15_41 {d : Nat} {I : ME} {Q : Option MV → ME → Prop} (hd : 1 ≤ d) (h0 : Q (none) (cpyM I 41 1 41 0 39)) : EvM d 15 [rf 41] I Q := by
  refine EvM.go [] (T := T_15) rfl rfl rfl rfl ?_
  conv => whnf
  repeat' first
    | (refine brI (fun _ => ?_) (fun _ => ?_) <;> conv => whnf)
    | (refine ⟨by first | exact trivial | omega, ?_⟩; conv => whnf)
  all_goals first
    | exact h0
    | (exfalso; omega)

theorem x15_42 {d : Nat} {I : ME} {Q : Option MV → ME → Prop} (hd : 1 ≤ d) (h0 : Q (none) (cpyM I 42 1 42 0 39)) : EvM d 15 [rf 42] I Q := by
  refine EvM.go [] (T := T_15) rfl rfl rfl rfl ?_
  conv => whnf
  repeat' first
    | (refine brI (fun _ => ?_) (fun _ => ?_) <;> conv => whnf)
    | (refine ⟨by first | exact trivial | omega, ?_⟩; conv => whnf)
  all_goals first
    | exact h0
    | (exfalso; omega)

theorem x15_43 {d : Nat} {I : ME} {Q : Option MV → ME → Prop} (hd : 1 ≤ d) (h0 : Q (none) (cpyM I 43 1 43 0 39)) : EvM d 15 [rf 43] I Q := by
  refine EvM.go [] (T := T_15) rfl rfl rfl rfl ?_
  conv => whnf
  repeat' first
    | (refine brI (fun _ => ?_) (fun _ => ?_) <;> conv => whnf)
    | (refine ⟨by first | exact trivial | omega, ?_⟩; conv => whnf)
  all_goals first
    | exact h0
    | (exfalso; omega)

theorem x14 {d : Nat} {n w v v' : Int} {I : ME} {Q : Option MV → ME → Prop} (hd : 2 ≤ d) (h0 : 0 ≤ I 39 5 ∧ I 39 5 ≤ 40) (h : ∀ I', CHP I n w v v' I' → Q none I') : EvM d 14 [rf 39, nt n, nt w, nt v, nt v'] I Q := by
  refine EvM.go [] (T := T_14) rfl rfl rfl rfl ?_
  conv => whnf
  refine brI (fun hq => ?_) (fun hq => ?_) <;> conv => whnf
  · repeat' first
      | (simp (disch := omega) only [up_eq, up_c, up_ne, cp_c, isb_e])
      | (refine ⟨by omega, x15_40 (by omega) ?_⟩ <;> conv => whnf)
      | (refine ⟨by omega, x15_41 (by omega) ?_⟩ <;> conv => whnf)
      | (refine ⟨by omega, x15_42 (by omega) ?_⟩ <;> conv => whnf)
      | (refine ⟨by omega, x15_43 (by omega) ?_⟩ <;> conv => whnf)
      | (refine ⟨by first | exact trivial | omega, ?_⟩; conv => whnf)
    refine h _ ⟨?_, ?_, ?_, ?_, ?_, ?_, ?_⟩
    · simp (disch := omega) only [up_c, up_g, fu_eq, fu_ne, cp_c, cp_g, up_eq, up_ne, iad_e, isb_e]; unfold chS; rw [if_pos hq]; omega
    · simp (disch := omega) only [up_c, up_g, fu_eq, fu_ne, cp_c, cp_g, up_eq, up_ne, iad_e, isb_e]; unfold chS; rw [if_pos hq]; omega
    · simp (disch := omega) only [up_c, up_g, fu_eq, fu_ne, cp_c, cp_g, up_eq, up_ne, iad_e, isb_e]; unfold chS chF; rw [if_pos hq, if_pos hq, hq]; rfl
    · simp (disch := omega) only [up_c, up_g, fu_eq, fu_ne, cp_c, cp_g, up_eq, up_ne, iad_e, isb_e]; unfold chS chF; rw [if_pos hq, if_pos hq, hq]; rfl
    · simp (disch := omega) only [up_c, up_g, fu_eq, fu_ne, cp_c, cp_g, up_eq, up_ne, iad_e, isb_e]; unfold chS chF; rw [if_pos hq, if_pos hq, hq]; rfl
    · simp (disch := omega) only [up_c, up_g, fu_eq, fu_ne, cp_c, cp_g, up_eq, up_ne, iad_e, isb_e]; unfold chS chF; rw [if_pos hq, if_pos hq, hq]; rfl
    · repeat' first | exact Fr.rfl' | refine fr_up ?_ (by decide) | refine fr_cp ?_ (by decide)
  · repeat' first
      | (simp (disch := omega) only [up_eq, up_c, up_ne, cp_c, isb_e])
      | (refine ⟨by first | exact trivial | omega, ?_⟩; conv => whnf)
    refine h _ ⟨?_, ?_, ?_, ?_, ?_, ?_, ?_⟩
    · simp (disch := omega) only [up_c, up_g, fu_eq, fu_ne, cp_c, cp_g, up_eq, up_ne, iad_e, isb_e]; unfold chS; rw [if_neg hq]
    · simp (disch := omega) only [up_c, up_g, fu_eq, fu_ne, cp_c, cp_g, up_eq, up_ne, iad_e, isb_e]; unfold chS; rw [if_neg hq]
    · simp (disch := omega) only [up_c, up_g, fu_eq, fu_ne, cp_c, cp_g, up_eq, up_ne, iad_e, isb_e]; unfold chS chF; rw [if_neg hq, if_neg hq]
    · simp (disch := omega) only [up_c, up_g, fu_eq, fu_ne, cp_c, cp_g, up_eq, up_ne, iad_e, isb_e]; unfold chS chF; rw [if_neg hq, if_neg hq]
    · simp (disch := omega) only [up_c, up_g, fu_eq, fu_ne, cp_c, cp_g, up_eq, up_ne, iad_e, isb_e]; unfold chS chF; rw [if_neg hq, if_neg hq]
    · simp (disch := omega) only [up_c, up_g, fu_eq, fu_ne, cp_c, cp_g, up_eq, up_ne, iad_e, isb_e]; unfold chS chF; rw [if_neg hq, if_neg hq]
    · repeat' first | exact Fr.rfl' | refine fr_up ?_ (by decide) | refine fr_cp ?_ (by decide)
