/-! WHAT A RUN LEAVES ALONE: with references in G (closed under the memory's own), nothing outside G is written -/
def gV (G : Nat → Prop) : MV → Prop
  | .inr (.inr c) => G c
  | _ => True
def gS (G : Nat → Prop) (st : List MV) : Prop := ∀ v ∈ st, gV G v
def gL (G : Nat → Prop) (ls : List (Option MV)) : Prop := ∀ (j : Nat) (v : MV), ls[j]? = some (some v) → gV G v
theorem gS_c {G : Nat → Prop} {v : MV} {st : List MV} : gS G (v :: st) ↔ gV G v ∧ gS G st := List.forall_mem_cons
theorem gS_app {G : Nat → Prop} {a b : List MV} : gS G (a ++ b) ↔ gS G a ∧ gS G b := List.forall_mem_append
theorem gS_rev {G : Nat → Prop} {a : List MV} : gS G a.reverse ↔ gS G a := by unfold gS; simp
theorem gV_i {G : Nat → Prop} {x : Int} : gV G (.inl x) = True := rfl
theorem gV_l {G : Nat → Prop} {x : Int} : gV G (.inr (.inl x)) = True := rfl
theorem gV_r {G : Nat → Prop} {c : Nat} : gV G (.inr (.inr c)) = G c := rfl
def gC (G : Nat → Prop) (R : MR) : Prop := ∀ c j c', G c → R c j = some c' → G c'
def sameG (G : Nat → Prop) (I I' : ME) : Prop := ∀ c, ¬ G c → ∀ j, I' c j = I c j
theorem sameG_rf {G : Nat → Prop} {I : ME} : sameG G I I := fun _ _ _ => rfl
theorem sameG_tr {G : Nat → Prop} {I I' I2 : ME} (h : sameG G I I') (h2 : sameG G I' I2) : sameG G I I2 := fun c hc j => (h2 c hc j).trans (h c hc j)
theorem sameG_upd {G : Nat → Prop} {I : ME} {c : Nat} {i v : Int} (hc : G c) : sameG G I (upd_ I c i v) := fun c' hc' j => by
  unfold upd_
  rw [if_neg (fun q => hc' (by rw [q.1]; exact hc))]
theorem sameG_cpy {G : Nat → Prop} {I : ME} {c0 c1 : Nat} {sp dp n : Int} (hc : G c1) : sameG G I (cpyM I c0 sp c1 dp n) := fun c' hc' j => by
  unfold cpyM
  rw [if_neg (fun q => hc' (by rw [q.1]; exact hc))]
theorem gL_sto {G : Nat → Prop} {w : Nat} {ls : List (Option MV)} {i : Nat} {v : MV} {ls' : List (Option MV)} (h : stoL w ls i v ls') (hl : gL G ls) (hv : gV G v) : gL G ls' := fun j u hj => by
  rcases h.2.2 j u hj with ⟨-, rfl⟩ | ⟨-, -, q, -⟩
  · exact hv
  · exact hl j u q
def litE (E : IE) : Prop := match E with
  | (ins, _, _, y, _, _) => match ins with
    | .ldc _ => y = 0 ∨ 1000 ≤ y
    | .getstatic _ => y = 0 ∨ 1000 ≤ y
    | _ => True
set_option maxHeartbeats 8000000 in
theorem stpT_G {G : Nat → Prop} (h1000 : ∀ c, 1000 ≤ c → G c) {E : IE} {ls ls' : List (Option MV)} {st st' : List MV} {S S' : MS} {pc' : Nat} (hR : gC G S.2.1) (hl : gL G ls) (hs : gS G st) (hlit : litE E) (h : stpT E ls st S = some (pc', ls', st', S')) :
    gL G ls' ∧ gS G st' ∧ sameG G S.2.2 S'.2.2 := by
  obtain ⟨ins, nx, x, y, z, sw⟩ := E
  cases ins <;> simp only [stpT, stp] at h
  all_goals first
    | (cases h; done)
    | (cases h; exact ⟨hl, hs, sameG_rf⟩)
    | (cases h; exact ⟨hl, by simp only [gS_c, gV_i, gV_l, gV_r, true_and] at hs ⊢; exact hs, sameG_rf⟩)
    | (split at h <;> first | (cases h; done) | (cases h; exact ⟨hl, by simp only [gS_c, gV_i, gV_l, gV_r, true_and] at hs ⊢; exact hs, sameG_rf⟩))
    | (obtain ⟨_, mzg, h2⟩ := getL_some h; have mzq := hl _ _ mzg; split at h2 <;> first | (cases h2; done) | (cases h2; exact ⟨hl, by simp only [gS_c, gV_i, gV_l, gV_r, true_and] at hs mzq ⊢; first | exact hs | exact ⟨mzq, hs⟩, sameG_rf⟩))
    | (obtain ⟨_, mzg, h2⟩ := getL_some h; split at h2 <;> first | (cases h2; done) | (obtain ⟨_, h3, mzs⟩ := setL_some h2; cases h3; exact ⟨gL_sto mzs hl trivial, hs, sameG_rf⟩))
    | (split at h <;> first | (cases h; done) | (obtain ⟨_, h2, mzs⟩ := setL_some h; cases h2; exact ⟨gL_sto mzs hl (gS_c.mp hs).1, (gS_c.mp hs).2, sameG_rf⟩) | (obtain ⟨_, h2, mzs⟩ := setL2_some h; cases h2; exact ⟨gL_sto mzs hl (gS_c.mp hs).1, (gS_c.mp hs).2, sameG_rf⟩))
    | (split at h <;> first | (cases h; done) | (split at h <;> first | (cases h; done) | (cases h; exact ⟨hl, by simp only [gS_c, gV_i, gV_l, gV_r, true_and] at hs ⊢; exact hs, sameG_rf⟩)))
    | (split at h <;> first | (cases h; done) | (rcases brc_some h with ⟨-, h⟩ | ⟨-, h⟩ <;> cases h <;> exact ⟨hl, by simp only [gS_c, gV_i, gV_l, gV_r, true_and] at hs ⊢; exact hs, sameG_rf⟩))
    | (split at h <;> first | (cases h; done) | (obtain ⟨_, h2, -⟩ := swK_some h; cases h2; exact ⟨hl, (gS_c.mp hs).2, sameG_rf⟩))
    | (cases hq : Nat.beq y 0 <;> rw [hq] at h <;> cases h <;> exact ⟨hl, gS_c.mpr ⟨by first | trivial | exact h1000 _ (hlit.resolve_left (beqF hq)), hs⟩, sameG_rf⟩)
    | (split at h <;> first | (cases h; done) | (have h := c1_some h; cases h; exact ⟨hl, by simp only [gS_c, gV_i, gV_l, gV_r, true_and] at hs ⊢; first | exact hs.2 | exact ⟨hs.1, hs⟩, sameG_rf⟩) | (have h := c1_some (c1_some h); cases h; exact ⟨hl, by simp only [gS_c, gV_i, gV_l, gV_r, true_and] at hs ⊢; first | exact ⟨hs.1, hs.2.1, hs.1, hs.2.2⟩ | exact ⟨hs.1, hs.2.1, hs⟩, sameG_rf⟩) | (have h := c1_some (c1_some (c1_some h)); cases h; exact ⟨hl, by simp only [gS_c, gV_i, gV_l, gV_r, true_and] at hs ⊢; exact ⟨hs.1, hs.2.1, hs.2.2.1, hs.1, hs.2.2.2⟩, sameG_rf⟩) | (cases h; exact ⟨hl, by simp only [gS_c, gV_i, gV_l, gV_r, true_and] at hs ⊢; exact hs, sameG_rf⟩))
    | (split at h <;> first | (cases h; done) | (simp only [gS_c, gV_i, gV_l, gV_r, true_and] at hs; obtain ⟨_, _, _, -, h2⟩ := kdK_some h; obtain ⟨-, h3⟩ := bif_some h2; first | (cases h3; exact ⟨hl, hs.2, sameG_upd hs.1⟩) | (obtain ⟨-, h4⟩ := ite_some h3; cases h4; first | exact ⟨hl, hs.2, sameG_upd hs.1⟩ | exact ⟨hl, by simp only [gS_c, gV_i, gV_l, gV_r, true_and]; exact hs.2, sameG_rf⟩) | (rcases brc_some h3 with ⟨-, h4⟩ | ⟨-, h4⟩ <;> first | (cases h4; exact ⟨hl, hs.2, sameG_upd hs.1⟩) | (rcases brc_some h4 with ⟨-, h5⟩ | ⟨-, h5⟩ <;> cases h5 <;> exact ⟨hl, hs.2, sameG_upd hs.1⟩))))
    | (split at h <;> first | (cases h; done) | (obtain ⟨-, h2⟩ := bif_some h; obtain ⟨-, h3⟩ := ite_some h2; cases h3; exact ⟨hl, by simp only [gS_c, gV_i, gV_l, gV_r, true_and] at hs ⊢; exact hs.2, sameG_rf⟩))
    | skip
  · -- arraylength
    split at h
    · rename_i mzc _
      have hs2 := (gS_c.mp hs).2
      cases hq : Nat.blt mzc 1000 with
      | true =>
        rw [hq] at h
        dsimp only [cond_true] at h
        obtain ⟨_, _, _, -, h2⟩ := kdK_some h
        obtain ⟨-, h3⟩ := bif_some h2
        cases h3
        exact ⟨hl, gS_c.mpr ⟨trivial, hs2⟩, sameG_rf⟩
      | false =>
        rw [hq] at h
        dsimp only [cond_false] at h
        cases hq2 : Nat.beq mzc 1000 with
        | true => rw [hq2] at h; cases h; exact ⟨hl, gS_c.mpr ⟨trivial, hs2⟩, sameG_rf⟩
        | false =>
          rw [hq2] at h
          obtain ⟨-, h3⟩ := bif_some h
          cases h3
          exact ⟨hl, gS_c.mpr ⟨trivial, hs2⟩, sameG_rf⟩
    · cases h
  · -- getfield
    split at h
    · rename_i mzc _
      have hs1 : G mzc := (gS_c.mp hs).1
      have hs2 := (gS_c.mp hs).2
      cases hz : Nat.beq z 100 with
      | true =>
        rw [hz] at h
        dsimp only [cond_true] at h
        obtain ⟨hb, h2⟩ := bif_some h
        rw [Bool.and_eq_true] at hb
        have hb1 := ltB hb.1
        cases hy : Nat.beq y 3 <;> rw [hy] at h2 <;> cases h2
        · exact ⟨hl, gS_c.mpr ⟨trivial, hs2⟩, sameG_rf⟩
        · exact ⟨hl, gS_c.mpr ⟨h1000 _ (by omega), hs2⟩, sameG_rf⟩
      | false =>
        rw [hz] at h
        dsimp only [cond_false] at h
        obtain ⟨_, _, _, -, h2⟩ := kdK_some h
        obtain ⟨-, h3⟩ := bif_some h2
        split at h3
        · cases h3; exact ⟨hl, gS_c.mpr ⟨trivial, hs2⟩, sameG_rf⟩
        · cases h3; exact ⟨hl, gS_c.mpr ⟨trivial, hs2⟩, sameG_rf⟩
        · cases h3; exact ⟨hl, gS_c.mpr ⟨trivial, hs2⟩, sameG_rf⟩
        · split at h3
          · rename_i mzr
            cases h3
            exact ⟨hl, gS_c.mpr ⟨hR _ _ _ hs1 mzr, hs2⟩, sameG_rf⟩
          · cases h3
    · cases h
  · -- iaload
    split at h
    · rename_i mzi mzc _
      have hs2 := (gS_c.mp (gS_c.mp hs).2).2
      cases hq : Nat.blt mzc 1000 with
      | true =>
        rw [hq] at h
        dsimp only [cond_true] at h
        obtain ⟨_, _, _, -, h2⟩ := kdK_some h
        obtain ⟨-, h3⟩ := bif_some h2
        obtain ⟨-, h4⟩ := ite_some h3
        cases h4
        exact ⟨hl, gS_c.mpr ⟨trivial, hs2⟩, sameG_rf⟩
      | false =>
        rw [hq] at h
        dsimp only [cond_false] at h
        cases hq2 : Nat.beq mzc 1000 with
        | true =>
          rw [hq2] at h
          obtain ⟨-, h4⟩ := ite_some h
          cases h4
          exact ⟨hl, gS_c.mpr ⟨trivial, hs2⟩, sameG_rf⟩
        | false =>
          rw [hq2] at h
          obtain ⟨-, h3⟩ := bif_some h
          obtain ⟨-, h4⟩ := ite_some h3
          cases h4
          exact ⟨hl, gS_c.mpr ⟨trivial, hs2⟩, sameG_rf⟩
    · cases h
def litI (k pc : Nat) : Bool := match ITf k pc with
  | some (ins, _, _, y, _, _) => (match ins with
    | .ldc _ => Nat.beq y 0 || Nat.ble 1000 y
    | .getstatic _ => Nat.beq y 0 || Nat.ble 1000 y
    | _ => true)
  | none => true
def litB (k : Nat) : Bool := (List.range (ITL.getD k (0, fun _ => none)).1).all (litI k)
set_option maxRecDepth 100000 in
theorem lit_all : (List.range 312).all litB = true := by decide +kernel
set_option maxRecDepth 100000 in
theorem lit_E {k pc : Nat} {E : IE} (hE : ITf k pc = some E) : litE E := by
  have hpc := gT_lt hE
  have hk : k < 312 := by
    refine Nat.lt_of_not_le fun q => ?_
    have e1 : ITL.getD k (0, fun _ => none) = (0, fun _ => none) := by
      rw [List.getD_eq_getElem?_getD, List.getElem?_eq_none (by show 312 ≤ k; exact q)]
      rfl
    rw [e1] at hpc
    exact absurd hpc (Nat.not_lt_zero _)
  have h1 := List.all_eq_true.mp (List.all_eq_true.mp lit_all k (List.mem_range.mpr hk)) pc (List.mem_range.mpr hpc)
  unfold litI at h1
  rw [hE] at h1
  obtain ⟨ins, nx, x, y, z, sw⟩ := E
  unfold litE
  cases ins <;> first | trivial | (simp only [Bool.or_eq_true] at h1; exact h1.imp Nat.eq_of_beq_eq_true Nat.le_of_ble_eq_true)
theorem gC_upd {G : Nat → Prop} {R : MR} {c j w : Nat} (h : gC G R) (hw : G w) : gC G (updR R c j w) := fun c1 j1 c2 hc h2 => by
  unfold updR at h2
  split at h2
  · cases h2; exact hw
  · exact h _ _ _ hc h2
theorem run_G {G : Nat → Prop} (h1000 : ∀ c, 1000 ≤ c → G c) : ∀ (n d k pc : Nat) (ls : List (Option MV)) (st : List MV) (S : MS) (v : Option MV) (S' : MS), run n d k pc ls st S = some (v, S') → S.1 = 80 → gC G S.2.1 → gL G ls → gS G st →
    S'.1 = 80 ∧ gC G S'.2.1 ∧ sameG G S.2.2 S'.2.2 ∧ ∀ w, v = some w → gV G w
  | 0, d, k, pc, ls, st, S, v, S', h => by cases h
  | n + 1, d, k, pc, ls, st, S, v, S', h => fun h80 hR hl hs => by
    have ih := run_G h1000 n
    obtain ⟨⟨ins, nx, x, y, z, sw⟩, hit, hRI⟩ := run_inv h
    have hlit := lit_E hit
    unfold RIN at hRI
    dsimp only at hRI
    rcases hRI with ⟨-, h1, hv⟩ | ⟨-, d', as, rest, -, hst, -, -, hC⟩ | ⟨-, h1, h2⟩ | ⟨t, -, h1, st2, -, h2⟩ | ⟨-, j, -, w, c, st2, hst, -, -, h2⟩ | ⟨pc2, ls2, st2, S1, h1, h2⟩
    · subst h1
      refine ⟨h80, hR, sameG_rf, fun w hw => ?_⟩
      rcases hv with ⟨rfl, -⟩ | ⟨w', rfl, rfl, -⟩
      · cases hw
      · cases hw; exact (gS_c.mp hs).1
    · subst hst
      rw [gS_app, gS_rev] at hs
      rcases hC with ⟨-, -, h2⟩ | ⟨-, c0, sp, c1, dp, m, has, -, -, h2⟩ | ⟨-, w, -, h2⟩ | ⟨-, -, -, -, r, S1, h1, h2⟩
      · exact ih _ _ _ _ _ _ _ _ h2 h80 hR hl hs.2
      · have hc1 : G c1 := by
          have := hs.1
          rw [has] at this
          exact this (.inr (.inr c1)) (by simp)
        obtain ⟨a, b, c, e⟩ := ih _ _ _ _ _ _ _ _ h2 h80 hR hl hs.2
        exact ⟨a, b, sameG_tr (sameG_cpy hc1) c, e⟩
      · exact ih _ _ _ _ _ _ _ _ h2 h80 hR hl (gS_c.mpr ⟨trivial, hs.2⟩)
      · unfold runM at h1
        split at h1
        · cases h1
        · rename_i mzl mzh
          obtain ⟨l2, q1, -, -, q3⟩ := entL_some mzh
          cases q1
          obtain ⟨a, b, c, e⟩ := ih _ _ _ _ _ _ _ _ h1 h80 hR (fun j u hj => hs.1 u (q3 0 j u hj).1) (fun _ q => by cases q)
          have hs2 : gS G (r.toList ++ rest) := gS_app.mpr ⟨fun u hu => by
            cases r with
            | none => cases hu
            | some w => rw [List.mem_singleton.mp hu]; exact e w rfl, hs.2⟩
          obtain ⟨a2, b2, c2, e2⟩ := ih _ _ _ _ _ _ _ _ h2 a b hl hs2
          exact ⟨a2, b2, sameG_tr c c2, e2⟩
    · obtain ⟨-, -, q⟩ := isO_K h1
      omega
    · have q : S.1 < 80 := by
        cases t <;> first | (cases h1; done) | (obtain ⟨_, _, _, _, q⟩ := isA_K h1; exact q)
      omega
    · subst hst
      simp only [gS_c, gV_r] at hs
      have a := ih _ _ _ _ _ _ _ _ h2
      exact a h80 (gC_upd hR hs.1) hl hs.2.2
    · obtain ⟨e1, e2⟩ := stpT_S h1
      obtain ⟨a, b, c⟩ := stpT_G h1000 hR hl hs hlit h1
      obtain ⟨a2, b2, c2, d2⟩ := ih _ _ _ _ _ _ _ _ h2 (e1.trans h80) (by rw [e2]; exact hR) a b
      exact ⟨a2, b2, sameG_tr c c2, d2⟩
theorem runM_G {G : Nat → Prop} (h1000 : ∀ c, 1000 ≤ c → G c) {n d k : Nat} {as : List MV} {R : MR} {I : ME} {v : Option MV} {S' : MS} (h : runM n d k as (80, R, I) = some (v, S')) (hR : gC G R) (hs : gS G as) : sameG G I S'.2.2 := by
  unfold runM at h
  split at h
  · cases h
  · rename_i mzl mzh
    obtain ⟨l2, q1, -, -, q3⟩ := entL_some mzh
    cases q1
    exact (run_G h1000 _ _ _ _ _ _ _ _ _ h rfl hR (fun j u hj => hs u (q3 0 j u hj).1) (fun _ q => by cases q)).2.2.1
/-- the class's side; the model's side -/
def GC (c : Nat) : Prop := c < 53 ∨ 1000 ≤ c
def GM (c : Nat) : Prop := 53 ≤ c
theorem gC_C {R : MR} (h : okR R) : gC GC R := fun c j c' hc h2 => by
  obtain ⟨a, b⟩ := h.2 c j c' h2
  rcases hc with hc | hc
  · exact Or.inl (b.mp hc)
  · omega
theorem gC_M {R : MR} (h : okR R) : gC GM R := fun c j c' hc h2 => by
  obtain ⟨a, b⟩ := h.2 c j c' h2
  unfold GM at hc ⊢
  omega
/-- the class's methods leave the model's cells as they are -/
theorem EvM.keepC {d k : Nat} {as : List MV} {I : ME} {Q : Option MV → ME → Prop} (h : EvM d k as I Q) (hs : gS GC as) : EvM d k as I (fun v I' => Q v I' ∧ sameG GC I I') := fun R hR => by
  obtain ⟨n, v, I', h1, h2⟩ := h R hR
  exact ⟨n, v, I', h1, h2, runM_G (fun c hc => Or.inr hc) h1 (gC_C hR) hs⟩
/-- the model's methods leave the class's cells as they are -/
theorem EvM.keepM {d k : Nat} {as : List MV} {I : ME} {Q : Option MV → ME → Prop} (h : EvM d k as I Q) (hs : gS GM as) : EvM d k as I (fun v I' => Q v I' ∧ sameG GM I I') := fun R hR => by
  obtain ⟨n, v, I', h1, h2⟩ := h R hR
  exact ⟨n, v, I', h1, h2, runM_G (fun c hc => by unfold GM; omega) h1 (gC_M hR) hs⟩
