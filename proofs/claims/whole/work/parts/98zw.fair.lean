/-! THE FAIREST way to give tickets out: pure -/
/-- other holders -/
def Lsh (L : LT) (h : gF) : LT := (tSz L, tIn L, tDr L, tLv L, tTh L, h, tBl L, tLo L)
abbrev isT (L : LT) (u : Int) : Prop := (0 ≤ u ∧ u < tSz L) ∧ hasb (tIn L) u
/-- only those that are in go to others -/
def hS (L : LT) (h : gF) : Prop := (∀ u, ¬ isT L u → h u = tHo L u) ∧ ∀ u, isT L u → pH (h u)
theorem hS_id {L : LT} (hL : LTok L) : hS L (tHo L) := ⟨fun _ _ => rfl, fun u hu => (hL.t hu.1.1 (by have := hL.f; have := hu.1.2; omega)).2.1⟩
theorem Lsh_id (L : LT) : Lsh L (tHo L) = L := rfl
theorem Lsh_ho (L : LT) (h : gF) (t k : Int) : Lho (Lsh L h) t k = Lsh L (fu h t k) := rfl
theorem hS_fu {L : LT} {h : gF} (hs : hS L h) {t k : Int} (ht : isT L t) (hk : pH k) : hS L (fu h t k) := by
  refine ⟨fun u hu => ?_, fun u hu => ?_⟩
  · rw [fu_ne (fun z => hu (by rw [z]; exact ht))]; exact hs.1 u hu
  · by_cases w : u = t
    · rw [w, fu_eq]; exact hk
    · rw [fu_ne w]; exact hs.2 u hu
theorem Lsh.ok {L : LT} (hL : LTok L) {h : gF} (hs : hS L h) : LTok (Lsh L h) := by
  obtain ⟨a, b, c, d, e, f⟩ := hL
  refine ⟨a, b, c, d, fun u u0 u1 => ?_, f⟩
  obtain ⟨x, y, z⟩ := e u u0 u1
  refine ⟨x, ?_, z⟩
  show pH (h u)
  by_cases w : isT L u
  · exact hs.2 u w
  · rw [hs.1 u w]; exact y
/-- which among those in -/
noncomputable def rkT (L : LT) (u : Nat) : Nat := ctP (fun t => hasb (tIn L) t) u
theorem rkT_m {L : LT} {u v : Nat} (h : u ≤ v) : rkT L u ≤ rkT L v := by
  induction h with
  | refl => exact Nat.le_refl _
  | @step v _ ih =>
    refine Nat.le_trans ih ?_
    unfold rkT
    by_cases q : hasb (tIn L) (v : Int)
    · rw [ctP_t (p := fun t => hasb (tIn L) t) q]; omega
    · rw [ctP_f (p := fun t => hasb (tIn L) t) q]; exact Nat.le_refl _
theorem rkT_s {L : LT} {u : Nat} (h : hasb (tIn L) (u : Int)) : rkT L (u + 1) = rkT L u + 1 := ctP_t (p := fun t => hasb (tIn L) t) h
theorem rkT_n {L : LT} {u : Nat} (h : ¬ hasb (tIn L) (u : Int)) : rkT L (u + 1) = rkT L u := ctP_f (p := fun t => hasb (tIn L) t) h
theorem rkT_lt {L : LT} {u v : Nat} (h : hasb (tIn L) (u : Int)) (hv : u < v) : rkT L u < rkT L v := by
  have := rkT_m (L := L) (show u + 1 ≤ v from hv)
  rw [rkT_s h] at this
  omega
theorem rkT_inj {L : LT} {u v : Nat} (hu : hasb (tIn L) (u : Int)) (hv : hasb (tIn L) (v : Int)) (h : rkT L u = rkT L v) : u = v := by
  rcases Nat.lt_trichotomy u v with w | w | w
  · have := rkT_lt hu w; omega
  · exact w
  · have := rkT_lt hv w; omega
theorem rkT_ex {L : LT} {i : Nat} : ∀ n : Nat, i < rkT L n → ∃ u : Nat, u < n ∧ hasb (tIn L) (u : Int) ∧ rkT L u = i
  | 0, h => absurd h (Nat.not_lt_zero _)
  | n + 1, h => by
    by_cases q : hasb (tIn L) (n : Int)
    · rw [rkT_s q] at h
      by_cases w : i = rkT L n
      · exact ⟨n, by omega, q, w.symm⟩
      · obtain ⟨u, a, b, c⟩ := rkT_ex n (show i < rkT L n by omega)
        exact ⟨u, by omega, b, c⟩
    · rw [rkT_n q] at h
      obtain ⟨u, a, b, c⟩ := rkT_ex n h
      exact ⟨u, by omega, b, c⟩
noncomputable def mnT (L : LT) : Nat := rkT L (tSz L).toNat
theorem mnT_pI {L : LT} (hL : LTok L) : (mnT L : Int) = pI (tIn L) := by
  have g := hL.f
  unfold mnT rkT
  rw [ct_pcn g.2.1.1 g.2.1.2 _ (by omega)]
  unfold pI
  rw [pcn_top (n := 12) (m := (tSz L).toNat) (by omega) (fun i h1 h2 => by
    have := hL.top (t := (i : Int)) (by omega) (by omega)
    rw [hb_iff g.2.1.1 (by omega) (by omega) (by omega), Int.toNat_natCast] at this
    simpa using this)]
/-- the digits of a number, the foremost first -/
def dgt (P : Nat) : Nat → Nat → Nat → Nat
  | 0, _, _ => 0
  | j + 1, v, i => if i = j then v % P else dgt P j (v / P) i
theorem dgt_lt {P : Nat} (hP : 0 < P) : ∀ (j v i : Nat), dgt P j v i < P
  | 0, _, _ => hP
  | j + 1, v, i => by
    unfold dgt
    split
    · exact Nat.mod_lt _ hP
    · exact dgt_lt hP j _ i
theorem dgt_x {P j v k i : Nat} (hk : k < P) : dgt P (j + 1) (v * P + k) i = if i = j then k else dgt P j v i := by
  show (if i = j then (v * P + k) % P else dgt P j ((v * P + k) / P) i) = _
  rw [Nat.mul_comm v P, Nat.mul_add_mod, Nat.mod_eq_of_lt hk, Nat.mul_add_div (by omega), Nat.div_eq_of_lt hk, Nat.add_zero]
/-- the holders by a way -/
noncomputable def wyH (L : LT) (P w : Nat) : gF := fun u => @ite _ (isT L u) (Classical.propDecidable _) ((dgt P (mnT L) w (rkT L u.toNat) : Nat) : Int) (tHo L u)
theorem wyH_t {L : LT} {P w : Nat} {u : Int} (h : isT L u) : wyH L P w u = ((dgt P (mnT L) w (rkT L u.toNat) : Nat) : Int) := @if_pos _ (Classical.propDecidable _) h _ _ _
theorem wyH_f {L : LT} {P w : Nat} {u : Int} (h : ¬ isT L u) : wyH L P w u = tHo L u := @if_neg _ (Classical.propDecidable _) h _ _ _
theorem wyH_S {L : LT} {P w : Nat} (hP : 0 < P) (hP3 : P ≤ 3) : hS L (wyH L P w) := ⟨fun u hu => wyH_f hu, fun u hu => by
  rw [wyH_t hu]
  have := dgt_lt hP (mnT L) w (rkT L u.toNat)
  exact Or.inr ⟨by omega, by omega⟩⟩
noncomputable def wyL (L : LT) (P w : Nat) : LT := Lsh L (wyH L P w)
def mxK (f : Int → Int) : Nat → Int
  | 0 => f 0
  | k + 1 => imx (mxK f k) (f ((k + 1 : Nat) : Int))
noncomputable def fwW (ln : lz_L) (L : LT) (m : Int) (P : Nat) (w : Int) : Int := mxK (fun k => smA ln (wyL L P w.toNat) k m) (P - 1)
theorem mxK_bd {f : Int → Int} {b : Int} : ∀ k : Nat, (∀ j : Nat, j ≤ k → -b ≤ f (j : Int) ∧ f (j : Int) ≤ b) → -b ≤ mxK f k ∧ mxK f k ≤ b
  | 0, h => h 0 (Nat.le_refl _)
  | k + 1, h => by
    have ih := mxK_bd k (fun j hj => h j (by omega))
    have := h (k + 1) (Nat.le_refl _)
    show -b ≤ imx (mxK f k) (f ((k + 1 : Nat) : Int)) ∧ imx (mxK f k) (f ((k + 1 : Nat) : Int)) ≤ b
    unfold imx
    split <;> omega
theorem fwW_bd {ln : lz_L} {L : LT} {m : Int} {P : Nat} (hL : LTok L) (hP : 0 < P) (hP3 : P ≤ 3) (w : Int) : -4866048 ≤ fwW ln L m P w ∧ fwW ln L m P w ≤ 4866048 :=
  mxK_bd _ (fun j hj => smA_bd (Lsh.ok hL (wyH_S hP hP3)) (by omega))
theorem mxK_cg {f g : Int → Int} : ∀ {k : Nat}, (∀ j : Nat, j ≤ k → f (j : Int) = g (j : Int)) → mxK f k = mxK g k
  | 0, h => h 0 (Nat.le_refl _)
  | k + 1, h => by
    show imx (mxK f k) (f ((k + 1 : Nat) : Int)) = imx (mxK g k) (g ((k + 1 : Nat) : Int))
    rw [mxK_cg (fun j hj => h j (by omega)), h (k + 1) (Nat.le_refl _)]
/-- what one loses rests on one's own tickets alone -/
theorem smA_ow {ln : lz_L} {L : LT} {h h' : gF} {k m : Int} (hL : LTok L) (hh : ∀ u, isT L u → (h u = k ↔ h' u = k)) : smA ln (Lsh L h) k m = smA ln (Lsh L h') k m := by
  have g := hL.f
  unfold smA
  refine smF_cg (fun D hD => ?_)
  have hD' : D < 4096 := Nat.lt_of_lt_of_le hD (twN_bd hL).1
  by_cases hdw : dwP L m (D : Int)
  · have hdw1 : dwP (Lsh L h) m (D : Int) := hdw
    have hdw2 : dwP (Lsh L h') m (D : Int) := hdw
    rw [if_pos hdw1, if_pos hdw2]
    have hsu := dw_su hL hD' hdw
    have eh : hlL (Lsh L h) k = hlL (Lsh L h') k := by
      unfold hlL
      have : ctP (fun t => hasb (tIn L) t ∧ h t = k) (tSz L).toNat = ctP (fun t => hasb (tIn L) t ∧ h' t = k) (tSz L).toNat := ctP_cg (fun i hi => by
        constructor
        · rintro ⟨a, b⟩; exact ⟨a, (hh _ ⟨by omega, a⟩).mp b⟩
        · rintro ⟨a, b⟩; exact ⟨a, (hh _ ⟨by omega, a⟩).mpr b⟩)
      show ((ctP (fun t => hasb (tIn L) t ∧ h t = k) (tSz L).toNat : Nat) : Int) = ((ctP (fun t => hasb (tIn L) t ∧ h' t = k) (tSz L).toNat : Nat) : Int)
      rw [this]
    have key : ∀ i : Nat, i ≤ (tSz L).toNat → faS ln (Lsh L h) (hlL (Lsh L h') k) k (D : Int) i = faS ln (Lsh L h') (hlL (Lsh L h') k) k (D : Int) i := by
      intro i
      induction i with
      | zero => intro _; rfl
      | succ i ih =>
        intro hi
        have ih := ih (by omega)
        unfold faS
        rw [ih]
        by_cases w : hasb (D : Int) (i : Int)
        · rw [if_pos w, if_pos w]
          have hin := hsu.2 (i : Int) (by omega) (by omega) w
          have e := hh (i : Int) ⟨by omega, hin⟩
          unfold fa1
          show (if h (i : Int) = k ∧ _ then _ else _) = (if h' (i : Int) = k ∧ _ then _ else _)
          by_cases q : h (i : Int) = k
          · have q' := e.mp q
            simp only [q, q', true_and]
            rfl
          · have q' : ¬ h' (i : Int) = k := fun z => q (e.mpr z)
            simp only [q, q', false_and, if_false]
        · rw [if_neg w, if_neg w]
    unfold lsN lsS
    rw [eh, show (tSz (Lsh L h)) = tSz L from rfl, show (tSz (Lsh L h')) = tSz L from rfl, key _ (Nat.le_refl _)]
  · have hdw1 : ¬ dwP (Lsh L h) m (D : Int) := hdw
    have hdw2 : ¬ dwP (Lsh L h') m (D : Int) := hdw
    rw [if_neg hdw1, if_neg hdw2]
