-- locals
def prsL (e : SE) (ls : List (Option MV)) : List (Nat × Value) := (List.range ls.length).filterMap fun j => match ls[j]? with
  | some (some v) => some (j, trV e v)
  | _ => none
theorem prsL_mem {e : SE} {ls : List (Option MV)} {q : Nat × Value} : q ∈ prsL e ls ↔ ∃ v, ls[q.1]? = some (some v) ∧ q.2 = trV e v := by
  unfold prsL
  rw [List.mem_filterMap]
  constructor
  · rintro ⟨j, hj, h⟩
    split at h
    · rename_i v hv
      cases h
      exact ⟨v, hv, rfl⟩
    · cases h
  · rintro ⟨v, hv, h⟩
    refine ⟨q.1, List.mem_range.mpr (List.getElem?_eq_some_iff.mp hv).1, ?_⟩
    rw [hv]
    show some (q.1, trV e v) = some q
    rw [← h]
theorem lsR.has {e : SE} {n mx : Nat} {lsA : Array Slot} {ls : List (Option MV)} (h : lsR e n mx lsA ls) : lv_has lsA mx (prsL e ls) := by
  obtain ⟨h1, h2, h3, h4⟩ := h
  refine ⟨h1, h3, fun q hq => ?_⟩
  obtain ⟨v, hv, e2⟩ := prsL_mem.mp hq
  rw [e2]
  exact (h4 _ _ hv).1
theorem cat2_trV {e : SE} {u : MV} : (trV e u).category = 2 ↔ ∃ x, u = .inr (.inl x) := by
  rcases u with x | x | x
  · simp [trV, Value.category]
  · simp [trV, Value.category]
  · simp [trV, Value.category]
theorem stoL.r1 {e : SE} {n mx i : Nat} {lsA lsB : Array Slot} {ls ls' : List (Option MV)} {v : MV} (h : lsR e n mx lsA ls) (hs : stoL 0 ls i v ls') (hv : canV n v) (hB : lv_has lsB mx ((i, trV e v) :: (prsL e ls).filter (fun q => !(q.1 == i) && !(q.1 + 1 == i && q.2.category == 2)))) : lsR e n mx lsB ls' := by
  obtain ⟨h1, h2, h3, h4⟩ := h
  obtain ⟨s1, s2, s3⟩ := hs
  refine ⟨hB.1, s1.trans h2, hB.2.1, fun j u hj => ?_⟩
  rcases s3 j u hj with ⟨rfl, rfl⟩ | ⟨a1, -, a2, a3⟩
  · exact ⟨hB.2.2 _ List.mem_cons_self, hv⟩
  · refine ⟨hB.2.2 (j, trV e u) (List.mem_cons_of_mem _ (List.mem_filter.mpr ⟨prsL_mem.mpr ⟨u, a2, rfl⟩, ?_⟩)), (h4 j u a2).2⟩
    have b1 : (j == i) = false := by simpa using a1
    have b2 : (j + 1 == i && (trV e u).category == 2) = false := by
      cases hz : (j + 1 == i && (trV e u).category == 2) with
      | false => rfl
      | true =>
        simp only [Bool.and_eq_true, beq_iff_eq] at hz
        exact absurd ⟨hz.1, cat2_trV.mp hz.2⟩ a3
    simp only [b1, b2]
    rfl
theorem stoL.r2 {e : SE} {n mx i : Nat} {lsA lsB : Array Slot} {ls ls' : List (Option MV)} {v : MV} (h : lsR e n mx lsA ls) (hs : stoL 1 ls i v ls') (hv : canV n v) (hB : lv_has lsB mx ((i, trV e v) :: (prsL e ls).filter (fun q => !(q.1 == i) && (!(q.1 == i + 1) && !(q.1 + 1 == i && q.2.category == 2))))) : lsR e n mx lsB ls' := by
  obtain ⟨h1, h2, h3, h4⟩ := h
  obtain ⟨s1, s2, s3⟩ := hs
  refine ⟨hB.1, s1.trans h2, hB.2.1, fun j u hj => ?_⟩
  rcases s3 j u hj with ⟨rfl, rfl⟩ | ⟨a1, a4, a2, a3⟩
  · exact ⟨hB.2.2 _ List.mem_cons_self, hv⟩
  · refine ⟨hB.2.2 (j, trV e u) (List.mem_cons_of_mem _ (List.mem_filter.mpr ⟨prsL_mem.mpr ⟨u, a2, rfl⟩, ?_⟩)), (h4 j u a2).2⟩
    have b1 : (j == i) = false := by simpa using a1
    have b3 : (j == i + 1) = false := by simpa using a4 rfl
    have b2 : (j + 1 == i && (trV e u).category == 2) = false := by
      cases hz : (j + 1 == i && (trV e u).category == 2) with
      | false => rfl
      | true =>
        simp only [Bool.and_eq_true, beq_iff_eq] at hz
        exact absurd ⟨hz.1, cat2_trV.mp hz.2⟩ a3
    simp only [b1, b2, b3]
    rfl
-- the world
theorem KDL_getD {c : Nat} {q : Nat × Nat × Nat} (h : KDL[c]? = some q) : KDL.getD c (9, 0, 0) = q := by rw [List.getD_eq_getElem?_getD, h]; rfl
theorem wlE_at {e : SE} {S : MS} {c : Nat} (h : c < S.1) : (wlE e S)[c]? = some (bsE e + c, enE e S.2.1 S.2.2 c) := by
  unfold wlE
  rw [List.getElem?_map, List.getElem?_range h]
  rfl
theorem wlE_set {e : SE} {n : Nat} {R R' : MR} {I I' : ME} {c : Nat} {x : va_E} (ho : ∀ k, k ≠ c → enE e R' I' k = enE e R I k) (hx : enE e R' I' c = x) : wlE e (n, R', I') = (wlE e (n, R, I)).set c (bsE e + c, x) := by
  unfold wlE
  apply List.ext_getElem?
  intro k
  by_cases hk : k = c
  · subst hk
    by_cases hn : k < n
    · rw [List.getElem?_map, List.getElem?_range hn, List.getElem?_set_self (by simpa using hn)]
      show some (bsE e + k, enE e R' I' k) = some _
      rw [hx]
    · rw [List.getElem?_eq_none (by simp; omega), List.getElem?_eq_none (by simp; omega)]
  · rw [List.getElem?_set_ne (Ne.symm hk), List.getElem?_map, List.getElem?_map]
    by_cases hn : k < n
    · rw [List.getElem?_range hn]
      show some (bsE e + k, enE e R' I' k) = some (bsE e + k, enE e R I k)
      rw [ho k hk]
    · rw [List.getElem?_eq_none (by simp; omega)]
      rfl
theorem wlE_D (e : SE) (S : MS) : va_D (AE e) (wlE e S) := by
  refine ⟨fun i j p q hi hj hpq => ?_, fun k q hk => ?_⟩
  · unfold wlE at hi hj
    rw [List.getElem?_map] at hi hj
    by_cases h1 : i < S.1
    · by_cases h2 : j < S.1
      · rw [List.getElem?_range h1] at hi
        rw [List.getElem?_range h2] at hj
        cases hi; cases hj
        have h3 : bsE e + i = bsE e + j := hpq
        omega
      · rw [List.getElem?_eq_none (by simp; omega)] at hj; cases hj
    · rw [List.getElem?_eq_none (by simp; omega)] at hi; cases hi
  · unfold wlE at hk
    rw [List.getElem?_map] at hk
    by_cases h1 : k < S.1
    · rw [List.getElem?_range h1] at hk
      cases hk
      exact Nat.le_add_right _ _
    · rw [List.getElem?_eq_none (by simp; omega)] at hk; cases hk
theorem enE_ne {e : SE} {R : MR} {I : ME} {c k : Nat} {i v : Int} (h : k ≠ c) : enE e R (upd_ I c i v) k = enE e R I k := by
  have hz : ∀ j, upd_ I c i v k j = I k j := fun j => by unfold upd_; rw [if_neg (fun q => h q.1)]
  unfold enE
  split
  · simp only [hz]
  · simp only [hz]
  · congr 2
    apply List.map_congr_left
    intro j _
    unfold fvE
    split <;> simp only [hz]
theorem enE_i {e : SE} {R : MR} {I : ME} {c n z : Nat} (h : KDL[c]? = some (0, n, z)) : enE e R I c = .inl (cIE e, n, .inl fun j => Int32.ofInt (I c (Int.ofNat j))) := by
  unfold enE; rw [KDL_getD h]; rfl
theorem enE_l {e : SE} {R : MR} {I : ME} {c n z : Nat} (h : KDL[c]? = some (1, n, z)) : enE e R I c = .inl (cJE e, n, .inr (.inl fun j => Int64.ofInt (I c (Int.ofNat j)))) := by
  unfold enE; rw [KDL_getD h]; rfl
theorem enE_o {e : SE} {R : MR} {I : ME} {c n z : Nat} (h : KDL[c]? = some (2, n, z)) : enE e R I c = .inr (z, (List.range n).map fun j => fvE e (ftT z j) c j R I) := by
  unfold enE; rw [KDL_getD h]; rfl
theorem toNat_eq {i : Int} (h : 0 ≤ i) (j : Nat) : (Int.ofNat j = i) ↔ j = i.toNat := by
  constructor
  · intro q; subst q; rfl
  · intro q; subst q; exact Int.toNat_of_nonneg h
theorem up_i {I : ME} {c : Nat} {i v : Int} (h : IR i) (h0 : 0 ≤ i) : (fun j : Nat => Int32.ofInt (upd_ I c i v c (Int.ofNat j))) = upd (fun j : Nat => Int32.ofInt (I c (Int.ofNat j))) (Int32.ofInt i).toNatClampNeg (Int32.ofInt v) := by
  funext j
  rw [clamp32 h]
  unfold upd_ upd
  by_cases hj : j = i.toNat
  · rw [if_pos ⟨rfl, (toNat_eq h0 j).mpr hj⟩, if_pos hj]
  · rw [if_neg (fun q => hj ((toNat_eq h0 j).mp q.2)), if_neg hj]
theorem up_l {I : ME} {c : Nat} {i v : Int} (h : IR i) (h0 : 0 ≤ i) : (fun j : Nat => Int64.ofInt (upd_ I c i v c (Int.ofNat j))) = vp_updL (fun j : Nat => Int64.ofInt (I c (Int.ofNat j))) (Int32.ofInt i).toNatClampNeg (Int64.ofInt v) := by
  funext j
  rw [clamp32 h]
  unfold upd_ vp_updL
  by_cases hj : j = i.toNat
  · rw [if_pos ⟨rfl, (toNat_eq h0 j).mpr hj⟩, if_pos hj]
  · rw [if_neg (fun q => hj ((toNat_eq h0 j).mp q.2)), if_neg hj]
theorem up_f {e : SE} {R : MR} {I : ME} {c n z : Nat} {x v : Int} (h0 : 0 ≤ x) (hn : x.toNat < n) (ht : ftT z x.toNat = 0 ∨ ftT z x.toNat = 1 ∨ ftT z x.toNat = 2) :
    ((List.range n).map fun j => fvE e (ftT z j) c j R (upd_ I c x v)) = ((List.range n).map fun j => fvE e (ftT z j) c j R I).set x.toNat (if ftT z x.toNat = 2 then .long (Int64.ofInt v) else .int (Int32.ofInt v)) := by
  apply List.ext_getElem?
  intro k
  by_cases hk : k = x.toNat
  · subst hk
    rw [List.getElem?_map, List.getElem?_range hn, List.getElem?_set_self (by simpa using hn)]
    show some (fvE e (ftT z x.toNat) c x.toNat R (upd_ I c x v)) = some _
    have e1 : upd_ I c x v c (Int.ofNat x.toNat) = v := by unfold upd_; rw [if_pos ⟨rfl, (toNat_eq h0 _).mpr rfl⟩]
    unfold fvE
    rcases ht with h | h | h <;> (simp only [h, e1]; rfl)
  · rw [List.getElem?_set_ne (Ne.symm hk), List.getElem?_map, List.getElem?_map]
    by_cases hn2 : k < n
    · rw [List.getElem?_range hn2]
      show some (fvE e (ftT z k) c k R (upd_ I c x v)) = some (fvE e (ftT z k) c k R I)
      have e1 : upd_ I c x v c (Int.ofNat k) = I c (Int.ofNat k) := by unfold upd_; rw [if_neg (fun q => hk ((toNat_eq h0 k).mp q.2))]
      unfold fvE
      split <;> simp only [e1]
    · rw [List.getElem?_eq_none (by simp; omega)]
      rfl
theorem canM_upd {I : ME} {c : Nat} {i v : Int} (h : canM I) (hv : if lgS c i = true then IRL v else IR v) : canM (upd_ I c i v) := by
  intro c' i'
  unfold upd_
  by_cases hq : c' = c ∧ i' = i
  · rw [if_pos hq]
    obtain ⟨rfl, rfl⟩ := hq
    exact hv
  · rw [if_neg hq]
    exact h c' i'
theorem lgS_0 {c n z : Nat} {i : Int} (h : KDL[c]? = some (0, n, z)) : lgS c i = false := by unfold lgS; rw [KDL_getD h]; rfl
theorem lgS_1 {c n z : Nat} {i : Int} (h : KDL[c]? = some (1, n, z)) : lgS c i = true := by unfold lgS; rw [KDL_getD h]; rfl
theorem lgS_2 {c n z : Nat} {i : Int} (h : KDL[c]? = some (2, n, z)) : lgS c i = Nat.beq (ftT z i.toNat) 2 := by unfold lgS; rw [KDL_getD h]; rfl
