/-! WHAT A RUN LEAVES ALONE, closer: only cells below 80, and of those only what can be reached -/
set_option maxHeartbeats 8000000 in
theorem stpT_K {G : Nat → Prop} (h1000 : ∀ c, 1000 ≤ c → G c) {E : IE} {ls ls' : List (Option MV)} {st st' : List MV} {S S' : MS} {pc' : Nat} (hR : ∀ i, E.1 = .getfield i → ∀ j c c' n, E.2.2.2.1 = j + 3 → KDL[c]? = some (2, n, E.2.2.2.2.1) → G c → S.2.1 c j = some c' → G c') (hl : gL G ls) (hs : gS G st) (hlit : litE E) (h : stpT E ls st S = some (pc', ls', st', S')) :
    gL G ls' ∧ gS G st' ∧ sameG (fun c => G c ∧ c < 80) S.2.2 S'.2.2 := by
  obtain ⟨ins, nx, x, y, z, sw⟩ := E
  cases ins <;> simp only [stpT, stp] at h
  all_goals first
    | (cases h; done)
    | (cases h; exact ⟨hl, hs, sameG_rf⟩)
    | (cases h; exact ⟨hl, by simp only [gS_c, gV_i, gV_l, gV_r, true_and] at hs ⊢; exact hs, sameG_rf⟩)
    | (split at h <;> first | (cases h; done) | (cases h; exact ⟨hl, by simp only [gS_c, gV_i, gV_l, gV_r, true_and] at hs ⊢; exact hs, sameG_rf⟩))
    | (obtain ⟨_, mzg, h2⟩ := getL_some h; have mzq := hl _ _ mzg; split at h2 <;> first | (cases h2; done) | (cases h2; exact ⟨hl, by simp only [gS_c, gV_i, gV_l, gV_r, true_and] at hs mzq ⊢; first | exact hs | exact ⟨mzq, hs⟩, sameG_rf⟩))
    | (obtain ⟨_, mzg, h2⟩ := getL_some h; split at h2 <;> first | (cases h2; done) | (obtain ⟨_, h3, mzs⟩ := setL_some h2; cases h3; exact ⟨gL_sto mzs hl trivial, hs, sameG_rf⟩))
    | (split at h <;> first | (cases h; done) | (obtain ⟨_, h2, mzs⟩ := setL_some h; cases h2; exact ⟨gL_sto mzs hl (gS_c.mp hs).1, (gS_c.mp hs).2, sameG_rf⟩) | (obtain ⟨_, h2, mzs⟩ := setL2_some h; cases h2; exact ⟨gL_sto mzs hl (gS_c.mp hs).1, (gS_c.mp hs).2, sameG_rf⟩))
    | (split at h <;> first | (cases h; done) | (split at h <;> first | (cases h; done) | (cases h; exact ⟨hl, by simp only [gS_c, gV_i, gV_l, gV_r, true_and] at hs ⊢; exact hs, sameG_rf⟩)))
    | (split at h <;> first | (cases h; done) | (rcases brc_some h with ⟨-, h⟩ | ⟨-, h⟩ <;> cases h <;> exact ⟨hl, by simp only [gS_c, gV_i, gV_l, gV_r, true_and] at hs ⊢; exact hs, sameG_rf⟩))
    | (split at h <;> first | (cases h; done) | (obtain ⟨_, h2, -⟩ := swK_some h; cases h2; exact ⟨hl, (gS_c.mp hs).2, sameG_rf⟩))
    | (cases hq : Nat.beq y 0 <;> rw [hq] at h <;> cases h <;> exact ⟨hl, gS_c.mpr ⟨by first | trivial | exact h1000 _ (hlit.resolve_left (beqF hq)), hs⟩, sameG_rf⟩)
    | (split at h <;> first | (cases h; done) | (have h := c1_some h; cases h; exact ⟨hl, by simp only [gS_c, gV_i, gV_l, gV_r, true_and] at hs ⊢; first | exact hs.2 | exact ⟨hs.1, hs⟩, sameG_rf⟩) | (have h := c1_some (c1_some h); cases h; exact ⟨hl, by simp only [gS_c, gV_i, gV_l, gV_r, true_and] at hs ⊢; first | exact ⟨hs.1, hs.2.1, hs.1, hs.2.2⟩ | exact ⟨hs.1, hs.2.1, hs⟩, sameG_rf⟩) | (have h := c1_some (c1_some (c1_some h)); cases h; exact ⟨hl, by simp only [gS_c, gV_i, gV_l, gV_r, true_and] at hs ⊢; exact ⟨hs.1, hs.2.1, hs.2.2.1, hs.1, hs.2.2.2⟩, sameG_rf⟩) | (cases h; exact ⟨hl, by simp only [gS_c, gV_i, gV_l, gV_r, true_and] at hs ⊢; exact hs, sameG_rf⟩))
    | (split at h <;> first | (cases h; done) | (simp only [gS_c, gV_i, gV_l, gV_r, true_and] at hs; obtain ⟨_, _, _, mzk, h2⟩ := kdK_some h; obtain ⟨-, h3⟩ := bif_some h2; first | (cases h3; exact ⟨hl, hs.2, sameG_upd ⟨hs.1, KDL_lt mzk⟩⟩) | (obtain ⟨-, h4⟩ := ite_some h3; cases h4; first | exact ⟨hl, hs.2, sameG_upd ⟨hs.1, KDL_lt mzk⟩⟩ | exact ⟨hl, by simp only [gS_c, gV_i, gV_l, gV_r, true_and]; exact hs.2, sameG_rf⟩) | (rcases brc_some h3 with ⟨-, h4⟩ | ⟨-, h4⟩ <;> first | (cases h4; exact ⟨hl, hs.2, sameG_upd ⟨hs.1, KDL_lt mzk⟩⟩) | (rcases brc_some h4 with ⟨-, h5⟩ | ⟨-, h5⟩ <;> cases h5 <;> exact ⟨hl, hs.2, sameG_upd ⟨hs.1, KDL_lt mzk⟩⟩))))
    | (split at h <;> first | (cases h; done) | (obtain ⟨-, h2⟩ := bif_some h; obtain ⟨-, h3⟩ := ite_some h2; cases h3; exact ⟨hl, by simp only [gS_c, gV_i, gV_l, gV_r, true_and] at hs ⊢; exact hs.2, sameG_rf⟩))
    | skip
  · -- arraylength
    split at h
    · rename_i mzc _
      have hs2 := (gS_c.mp hs).2
      cases hq : Nat.blt mzc 1000 with
      | true =>
        rw [hq] at h
        dsimp only [cond_true] at h
        obtain ⟨_, _, _, -, h2⟩ := kdK_some h
        obtain ⟨-, h3⟩ := bif_some h2
        cases h3
        exact ⟨hl, gS_c.mpr ⟨trivial, hs2⟩, sameG_rf⟩
      | false =>
        rw [hq] at h
        dsimp only [cond_false] at h
        cases hq2 : Nat.beq mzc 1000 with
        | true => rw [hq2] at h; cases h; exact ⟨hl, gS_c.mpr ⟨trivial, hs2⟩, sameG_rf⟩
        | false =>
          rw [hq2] at h
          obtain ⟨-, h3⟩ := bif_some h
          cases h3
          exact ⟨hl, gS_c.mpr ⟨trivial, hs2⟩, sameG_rf⟩
    · cases h
  · -- getfield
    split at h
    · rename_i mzc _
      have hs1 : G mzc := (gS_c.mp hs).1
      have hs2 := (gS_c.mp hs).2
      cases hz : Nat.beq z 100 with
      | true =>
        rw [hz] at h
        dsimp only [cond_true] at h
        obtain ⟨hb, h2⟩ := bif_some h
        rw [Bool.and_eq_true] at hb
        have hb1 := ltB hb.1
        cases hy : Nat.beq y 3 <;> rw [hy] at h2 <;> cases h2
        · exact ⟨hl, gS_c.mpr ⟨trivial, hs2⟩, sameG_rf⟩
        · exact ⟨hl, gS_c.mpr ⟨h1000 _ (by omega), hs2⟩, sameG_rf⟩
      | false =>
        rw [hz] at h
        dsimp only [cond_false] at h
        obtain ⟨mza, mzn, mzz, mzk, h2⟩ := kdK_some h
        obtain ⟨mzb, h3⟩ := bif_some h2
        rw [Bool.and_eq_true] at mzb
        have mze1 := Nat.eq_of_beq_eq_true mzb.1
        have mze2 := Nat.eq_of_beq_eq_true mzb.2
        subst mze1
        subst mze2
        split at h3
        · cases h3; exact ⟨hl, gS_c.mpr ⟨trivial, hs2⟩, sameG_rf⟩
        · cases h3; exact ⟨hl, gS_c.mpr ⟨trivial, hs2⟩, sameG_rf⟩
        · cases h3; exact ⟨hl, gS_c.mpr ⟨trivial, hs2⟩, sameG_rf⟩
        · split at h3
          · rename_i mzr
            cases h3
            exact ⟨hl, gS_c.mpr ⟨hR _ rfl _ _ _ _ rfl mzk hs1 mzr, hs2⟩, sameG_rf⟩
          · cases h3
    · cases h
  · -- iaload
    split at h
    · rename_i mzi mzc _
      have hs2 := (gS_c.mp (gS_c.mp hs).2).2
      cases hq : Nat.blt mzc 1000 with
      | true =>
        rw [hq] at h
        dsimp only [cond_true] at h
        obtain ⟨_, _, _, -, h2⟩ := kdK_some h
        obtain ⟨-, h3⟩ := bif_some h2
        obtain ⟨-, h4⟩ := ite_some h3
        cases h4
        exact ⟨hl, gS_c.mpr ⟨trivial, hs2⟩, sameG_rf⟩
      | false =>
        rw [hq] at h
        dsimp only [cond_false] at h
        cases hq2 : Nat.beq mzc 1000 with
        | true =>
          rw [hq2] at h
          obtain ⟨-, h4⟩ := ite_some h
          cases h4
          exact ⟨hl, gS_c.mpr ⟨trivial, hs2⟩, sameG_rf⟩
        | false =>
          rw [hq2] at h
          obtain ⟨-, h3⟩ := bif_some h
          obtain ⟨-, h4⟩ := ite_some h3
          cases h4
          exact ⟨hl, gS_c.mpr ⟨trivial, hs2⟩, sameG_rf⟩
    · cases h
def invI (i : IE) : Prop := (∃ j, i.1 = .invokevirtual j) ∨ (∃ j, i.1 = .invokespecial j) ∨ ∃ j, i.1 = .invokestatic j
def stC (G : Nat → Prop) (A : Nat → Prop) (V : MR → Prop) (E : IE) : Prop :=
  (∀ R, V R → ∀ i, E.1 = .getfield i → ∀ j c c' n, E.2.2.2.1 = j + 3 → KDL[c]? = some (2, n, E.2.2.2.2.1) → G c → R c j = some c' → G c') ∧
  (invI E → E.2.2.2.1 ≤ 9002 → E.2.2.2.1 ≠ 9001 → E.2.2.2.1 ≠ 9002 → A E.2.2.2.1) ∧
  (∀ i, E.1 = .putfield i → ∀ j, E.2.2.2.1 = j + 3 → ∀ R c w, V R → V (updR R c j w))
theorem cpy_80 {c0 c1 : Nat} {sp dp m : Int} (h : cpyB c0 sp c1 dp m = true) : c1 < 80 := by
  unfold cpyB at h
  simp only [Bool.and_eq_true, Bool.or_eq_true] at h
  rcases h.1.1.1.1.1 with q | q
  · exact (isA_K q.2).elim fun _ a => a.elim fun _ b => b.2.2
  · exact (isA_K q.2).elim fun _ a => a.elim fun _ b => b.2.2
set_option maxHeartbeats 4000000 in
theorem run_K {G : Nat → Prop} (h1000 : ∀ c, 1000 ≤ c → G c) {A : Nat → Prop} {V : MR → Prop} (hA : ∀ k, A k → ∀ pc E, ITf k pc = some E → stC G A V E) : ∀ (n d k pc : Nat) (ls : List (Option MV)) (st : List MV) (S : MS) (v : Option MV) (S' : MS), A k → run n d k pc ls st S = some (v, S') → S.1 = 80 → V S.2.1 → gL G ls → gS G st →
    S'.1 = 80 ∧ V S'.2.1 ∧ sameG (fun c => G c ∧ c < 80) S.2.2 S'.2.2 ∧ ∀ w, v = some w → gV G w
  | 0, d, k, pc, ls, st, S, v, S', _, h => by cases h
  | n + 1, d, k, pc, ls, st, S, v, S', hk, h => fun h80 hR hl hs => by
    have ih := run_K h1000 hA n
    obtain ⟨⟨ins, nx, x, y, z, sw⟩, hit, hRI⟩ := run_inv h
    have hlit := lit_E hit
    obtain ⟨hA1, hA2, hA3⟩ := hA k hk pc _ hit
    unfold RIN at hRI
    dsimp only at hRI
    rcases hRI with ⟨-, h1, hv⟩ | ⟨hinv, d', as, rest, -, hst, -, -, hC⟩ | ⟨-, h1, h2⟩ | ⟨t, -, h1, st2, -, h2⟩ | ⟨⟨mzi, hput⟩, j, hyj, w, c, st2, hst, -, -, h2⟩ | ⟨pc2, ls2, st2, S1, h1, h2⟩
    · subst h1
      refine ⟨h80, hR, sameG_rf, fun w hw => ?_⟩
      rcases hv with ⟨rfl, -⟩ | ⟨w', rfl, rfl, -⟩
      · cases hw
      · cases hw; exact (gS_c.mp hs).1
    · subst hst
      rw [gS_app, gS_rev] at hs
      rcases hC with ⟨-, -, h2⟩ | ⟨-, c0, sp, c1, dp, m, has, hcb, -, h2⟩ | ⟨-, w, -, h2⟩ | ⟨-, hy1, hy2, hy3, r, S1, h1, h2⟩
      · exact ih _ _ _ _ _ _ _ _ hk h2 h80 hR hl hs.2
      · have hc1 : G c1 := by
          have := hs.1
          rw [has] at this
          exact this (.inr (.inr c1)) (by simp)
        obtain ⟨a, b, c, e⟩ := ih _ _ _ _ _ _ _ _ hk h2 h80 hR hl hs.2
        exact ⟨a, b, sameG_tr (sameG_cpy ⟨hc1, cpy_80 hcb⟩) c, e⟩
      · exact ih _ _ _ _ _ _ _ _ hk h2 h80 hR hl (gS_c.mpr ⟨trivial, hs.2⟩)
      · unfold runM at h1
        split at h1
        · cases h1
        · rename_i mzl mzh
          obtain ⟨l2, q1, -, -, q3⟩ := entL_some mzh
          cases q1
          obtain ⟨a, b, c, e⟩ := ih _ _ _ _ _ _ _ _ (hA2 hinv hy2 hy1 hy3) h1 h80 hR (fun j u hj => hs.1 u (q3 0 j u hj).1) (fun _ q => by cases q)
          have hs2 : gS G (r.toList ++ rest) := gS_app.mpr ⟨fun u hu => by
            cases r with
            | none => cases hu
            | some w => rw [List.mem_singleton.mp hu]; exact e w rfl, hs.2⟩
          obtain ⟨a2, b2, c2, e2⟩ := ih _ _ _ _ _ _ _ _ hk h2 a b hl hs2
          exact ⟨a2, b2, sameG_tr c c2, e2⟩
    · obtain ⟨-, -, q⟩ := isO_K h1
      omega
    · have q : S.1 < 80 := by
        cases t <;> first | (cases h1; done) | (obtain ⟨_, _, _, _, q⟩ := isA_K h1; exact q)
      omega
    · subst hst
      simp only [gS_c, gV_r] at hs
      have a := ih _ _ _ _ _ _ _ _ hk h2
      exact a h80 (hA3 _ hput _ hyj _ _ _ hR) hl hs.2.2
    · obtain ⟨e1, e2⟩ := stpT_S h1
      obtain ⟨a, b, c⟩ := stpT_K h1000 (hA1 _ hR) hl hs hlit h1
      obtain ⟨a2, b2, c2, d2⟩ := ih _ _ _ _ _ _ _ _ hk h2 (e1.trans h80) (by rw [e2]; exact hR) a b
      exact ⟨a2, b2, sameG_tr c c2, d2⟩
theorem runM_K {G : Nat → Prop} (h1000 : ∀ c, 1000 ≤ c → G c) {A : Nat → Prop} {V : MR → Prop} (hA : ∀ k, A k → ∀ pc E, ITf k pc = some E → stC G A V E) {n d k : Nat} {as : List MV} {R : MR} {I : ME} {v : Option MV} {S' : MS} (hk : A k) (h : runM n d k as (80, R, I) = some (v, S')) (hR : V R) (hs : gS G as) : sameG (fun c => G c ∧ c < 80) I S'.2.2 := by
  unfold runM at h
  split at h
  · cases h
  · rename_i mzl mzh
    obtain ⟨l2, q1, -, -, q3⟩ := entL_some mzh
    cases q1
    exact (run_K h1000 hA _ _ _ _ _ _ _ _ _ hk h rfl hR (fun j u hj => hs u (q3 0 j u hj).1) (fun _ q => by cases q)).2.2.1
/-- the script's cell is never written -/
theorem EvM.keepH {d k : Nat} {as : List MV} {I : ME} {Q : Option MV → ME → Prop} (h : EvM d k as I Q) : EvM d k as I (fun v I' => Q v I' ∧ I' 1000 = I 1000) := fun R hR => by
  obtain ⟨n, v, I', h1, h2⟩ := h R hR
  refine ⟨n, v, I', h1, h2, ?_⟩
  have a := runM_K (G := fun _ => True) (fun _ _ => trivial) (A := fun _ => True) (V := fun _ => True) (fun k _ pc E hE => ⟨fun _ _ _ _ _ _ _ _ _ _ _ _ => trivial, fun _ _ _ _ => trivial, fun _ _ _ _ _ _ _ _ => trivial⟩) trivial h1 trivial (fun u _ => by rcases u with u | u | u <;> trivial)
  funext j
  exact a 1000 (by omega) j
def G27 (c : Nat) : Bool := Nat.blt c 24 || Nat.blt 33 c
def A27 : List Nat := [1, 2, 3, 4, 5, 6, 7, 8, 9, 10, 11, 13, 14, 15, 16, 17, 20, 21, 22, 23, 24, 26, 27, 28, 29, 34, 35, 36, 37, 38, 39, 40, 41, 44, 45, 46, 47, 48, 50, 51, 52, 53, 54, 55, 56, 57, 58, 59, 60, 90, 91, 92, 93, 94, 95, 96, 97, 98, 99, 100, 101, 102, 104, 105, 106, 107, 108, 109, 110, 111, 112, 113, 114, 115, 130, 131, 132, 133, 134, 135, 140, 147, 148, 149, 157, 158, 159, 160, 161, 162, 163, 164, 165, 166, 167, 168, 169, 170, 171, 172, 173, 174, 175, 176, 177, 178, 179, 181, 183, 184, 185, 295, 299, 300, 301, 302, 303, 304, 305, 306, 307, 308, 309]
def ck27 (k pc : Nat) : Bool := match ITf k pc with
  | some (ins, _, _, y, z, _) => (match ins with
    | .getfield _ => Nat.blt y 3 || (List.range 80).all (fun c => (match KDL[c]? with | some (a, _, z') => !(Nat.beq a 2 && Nat.beq z' z) | none => true) || !(G27 c) || (RLL.getD c []).any (fun q => Nat.beq q.1 (y - 3) && G27 q.2))
    | .putfield _ => Nat.blt y 3
    | .invokevirtual _ => Nat.ble 9001 y || A27.any (fun a => Nat.beq a y)
    | .invokespecial _ => Nat.ble 9001 y || A27.any (fun a => Nat.beq a y)
    | .invokestatic _ => Nat.ble 9001 y || A27.any (fun a => Nat.beq a y)
    | _ => true)
  | none => true
def ckB27 (k : Nat) : Bool := (List.range (ITL.getD k (0, fun _ => none)).1).all (ck27 k)
set_option maxRecDepth 100000 in
theorem ck27_all : A27.all ckB27 = true := by decide +kernel
theorem any_beq {l : List Nat} {y : Nat} (h : l.any (fun a => Nat.beq a y) = true) : y ∈ l := by
  obtain ⟨a, h1, h2⟩ := List.any_eq_true.mp h
  rw [← Nat.eq_of_beq_eq_true h2]; exact h1
set_option maxRecDepth 100000 in
theorem st27 {k : Nat} (hk : k ∈ A27) {pc : Nat} {E : IE} (hE : ITf k pc = some E) : stC (fun c => G27 c = true) (fun k => k ∈ A27) okR E := by
  have hpc := gT_lt hE
  have h1 := List.all_eq_true.mp (List.all_eq_true.mp ck27_all k hk) pc (List.mem_range.mpr hpc)
  unfold ck27 at h1
  rw [hE] at h1
  obtain ⟨ins, nx, x, y, z, sw⟩ := E
  refine ⟨fun R hR i hi j c c' n hy hK hG hc => ?_, fun hi h2 h3 h4 => ?_, fun i hi j hy => ?_⟩
  · dsimp only at hi hy hK
    subst hi
    dsimp only at h1
    rw [Bool.or_eq_true] at h1
    rcases h1 with h1 | h1
    · have := ltB h1
      omega
    · have h5 := List.all_eq_true.mp h1 c (List.mem_range.mpr (KDL_lt hK))
      rw [hK] at h5
      simp only [Bool.or_eq_true] at h5
      rcases h5 with (h5 | h5) | h5
      · exfalso
        have e : Nat.beq z z = true := Nat.beq_refl z
        rw [e] at h5
        cases h5
      · rw [hG] at h5
        cases h5
      · obtain ⟨q, h6, h7⟩ := List.any_eq_true.mp h5
        rw [Bool.and_eq_true] at h7
        have h8 := Nat.eq_of_beq_eq_true h7.1
        have h9 := hR.1 c q h6
        have e : q.1 = j := by omega
        rw [e, hc] at h9
        cases h9
        exact h7.2
  · dsimp only at h2 h3 h4 ⊢
    rcases hi with ⟨i, hi⟩ | ⟨i, hi⟩ | ⟨i, hi⟩ <;> dsimp only at hi <;> subst hi <;> dsimp only at h1 <;> rw [Bool.or_eq_true] at h1
    all_goals
      rcases h1 with h1 | h1
      · have := Nat.le_of_ble_eq_true h1
        omega
      · exact any_beq h1
  · dsimp only at hi hy
    subst hi
    dsimp only at h1
    have := ltB h1
    omega
/-- the plans' own cells are not written by these -/
theorem EvM.keepP {d k : Nat} {as : List MV} {I : ME} {Q : Option MV → ME → Prop} (hk : k ∈ A27) (h : EvM d k as I Q) (hs : gS (fun c => G27 c = true) as) : EvM d k as I (fun v I' => Q v I' ∧ I' 27 = I 27) := fun R hR => by
  obtain ⟨n, v, I', h1, h2⟩ := h R hR
  refine ⟨n, v, I', h1, h2, ?_⟩
  have a := runM_K (G := fun c => G27 c = true) (fun c hc => by unfold G27; rw [Bool.or_eq_true]; exact Or.inr (Nat.ble_eq_true_of_le (by omega))) (A := fun k => k ∈ A27) (V := okR) (fun k hk pc E hE => st27 hk hE) hk h1 hR hs
  funext j
  exact a 27 (fun q => by have := q.1; cases this) j
