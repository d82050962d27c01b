/-- the references are as the constructors leave them -/
def okR (R : MR) : Prop := (∀ c, ∀ q ∈ RLL.getD c [], R c q.1 = some q.2) ∧ ∀ c j c', R c j = some c' → c < 80 ∧ (c < 53 ↔ c' < 53)
/-- from that place of that method the run comes to its end, and Q holds there -/
def Ev (d k pc : Nat) (ls : List (Option MV)) (st : List MV) (I : ME) (Q : Option MV → ME → Prop) : Prop :=
  ∀ R, okR R → ∃ (n : Nat) (v : Option MV) (I' : ME), run n d k pc ls st (80, R, I) = some (v, (80, R, I')) ∧ Q v I'
def EvM (d k : Nat) (as : List MV) (I : ME) (Q : Option MV → ME → Prop) : Prop :=
  ∀ R, okR R → ∃ (n : Nat) (v : Option MV) (I' : ME), runM n d k as (80, R, I) = some (v, (80, R, I')) ∧ Q v I'
def stpP (E : IE) (ls : List (Option MV)) (st : List MV) (I : ME) (K : Nat → List (Option MV) → List MV → ME → Prop) : Prop :=
  stp (α := Prop) False (fun i n a => (0 ≤ i ∧ i < n) ∧ a) (fun b a => ¬ b = 0 ∧ a) (fun v a => brc (v = 0) (Int.instDecidableEq v 0) a (brc (v = 1) (Int.instDecidableEq v 1) a False))
    (rlK False) (fun I c i K => K (I c i)) upd_ E ls st I K
def retP (rc : Nat) (v : MV) (a : Prop) : Prop := match rc, v with
  | 1, .inl _ => True ∧ a
  | 2, .inl b => brc (b = 0) (Int.instDecidableEq b 0) (True ∧ a) (brc (b = 1) (Int.instDecidableEq b 1) (True ∧ a) False)
  | 3, .inr (.inl _) => True ∧ a
  | 4, .inr (.inr _) => True ∧ a
  | 5, .inl b => (-128 ≤ b ∧ b ≤ 127) ∧ a
  | _, _ => False
def cpyP (c0 : Nat) (sp : Int) (c1 : Nat) (dp n : Int) (a : Prop) : Prop := kdK False c0 fun k0 n0 _ => kdK False c1 fun k1 n1 _ => bif Nat.beq k0 k1 && Nat.blt k0 2 then (0 ≤ sp ∧ 0 ≤ dp ∧ 0 ≤ n ∧ sp + n ≤ n0 ∧ dp + n ≤ n1) ∧ a else False
def retS (rc : Nat) (Q : Option MV → ME → Prop) (I : ME) (st : List MV) : Prop := match st with
  | [v] => retP rc v (Q (some v) I)
  | _ => False
def ret0 (rc : Nat) (st : List MV) (a : Prop) : Prop := match rc, st with
  | 0, [] => True ∧ a
  | _, _ => False
def cpyA (as : List MV) (F : Nat → Int → Nat → Int → Int → Prop) : Prop := match as with
  | [.inr (.inr c0), .inl sp, .inr (.inr c1), .inl dp, .inl m] => F c0 sp c1 dp m
  | _ => False
/-- the conditions that a run from a place puts, up to the places in 'cuts' -/
def go (d k : Nat) (T : Nat → Option IE) (rc : Nat) (cuts : List Nat) (Q : Option MV → ME → Prop) : Nat → Nat → List (Option MV) → List MV → ME → Prop
  | 0, _, _, _, _ => False
  | n + 1, pc, ls, st, I =>
    match T pc with
    | none => False
    | some (ins, nx, x, y, z, sw) => match ins with
      | .return_ => ret0 rc st (Q none I)
      | .ireturn | .lreturn | .areturn => retS rc Q I st
      | .invokevirtual _ | .invokespecial _ | .invokestatic _ => popN False z st [] fun as rest =>
          bif Nat.blt 8 (catS rest) then False else bif Nat.beq y 9001 then False
            else bif Nat.beq y 9002 then cpyA as (fun c0 sp c1 dp m => cpyP c0 sp c1 dp m (0 < d ∧ (bif elemN nx cuts then True ∧ Ev d k nx ls rest (cpyM I c0 sp c1 dp m) Q else go d k T rc cuts Q n nx ls rest (cpyM I c0 sp c1 dp m))))
            else bif Nat.blt 9002 y then primK False y as fun v => 0 < d ∧ (bif elemN nx cuts then True ∧ Ev d k nx ls (.inl v :: rest) I Q else go d k T rc cuts Q n nx ls (.inl v :: rest) I)
            else bif rcvB y as then 0 < d ∧ EvM (d - 1) y as I (fun v I' => match v with
              | none => bif elemN nx cuts then True ∧ Ev d k nx ls rest I' Q else go d k T rc cuts Q n nx ls rest I'
              | some w => bif elemN nx cuts then True ∧ Ev d k nx ls (w :: rest) I' Q else go d k T rc cuts Q n nx ls (w :: rest) I') else False
      | .new _ => False
      | .newarray _ => False
      | _ => stpP (ins, nx, x, y, z, sw) ls st I fun pc' ls' st' I' => bif elemN pc' cuts then True ∧ Ev d k pc' ls' st' I' Q else go d k T rc cuts Q n pc' ls' st' I' 
theorem run_intro {n d k pc : Nat} {ls : List (Option MV)} {st : List MV} {S : MS} {v : Option MV} {S' : MS} {E : IE} (hit : ITf k pc = some E) (h : RIN n d k ls st S v S' E) : run (n + 1) d k pc ls st S = some (v, S') := by
  obtain ⟨ins, nx, x, y, z, sw⟩ := E
  unfold RIN at h
  dsimp only at h
  rcases h with ⟨hr1, rfl, hr3⟩ | ⟨hins, d', as, rest, rfl, rfl, hlen, hcs, hC⟩ | ⟨⟨i, rfl⟩, h1, h2⟩ | ⟨t, rfl, h1, st2, rfl, h2⟩ | ⟨⟨i, rfl⟩, j, rfl, w, c0, st2, rfl, h1, h3, h2⟩ | ⟨pc2, ls2, st2, S1, h1, h2⟩
  · rcases hr3 with ⟨rfl, rfl, hr, rfl⟩ | ⟨w, rfl, rfl, hrb, hne⟩
    · unfold run
      rw [hit]
      dsimp only
      rw [hr]
      rfl
    · rcases hr1 with rfl | rfl | rfl | rfl
      · exact absurd rfl hne
      all_goals
        unfold run
        rw [hit]
        dsimp only
        rw [hrb]
        rfl
  · have hpop : ∀ (ys acc : List MV), popN (none : Option (List MV × List MV)) ys.length (ys ++ rest) acc (fun as rest => some (as, rest)) = some (ys.reverse ++ acc, rest) := by
      intro ys
      induction ys with
      | nil => intro acc; rfl
      | cons y ys ih =>
        intro acc
        show popN none ys.length (ys ++ rest) (y :: acc) _ = _
        rw [ih, List.reverse_cons, List.append_assoc]
        rfl
    have hp := hpop as.reverse []
    rw [List.append_nil, List.reverse_reverse, List.length_reverse, hlen] at hp
    have hcs2 : Nat.blt 8 (catS rest) = false := by
      cases hz : Nat.blt 8 (catS rest) with
      | false => rfl
      | true => have := ltB hz; omega
    rcases hins with ⟨i, rfl⟩ | ⟨i, rfl⟩ | ⟨i, rfl⟩
    all_goals
      unfold run
      rw [hit]
      dsimp only
      rw [hp]
      dsimp only
      rw [hcs2]
      dsimp only [cond_false]
      rcases hC with ⟨rfl, ⟨c0, rfl, hc0⟩, h2⟩ | ⟨rfl, c0, sp, c1, dp, mm, rfl, hcp, h80, h2⟩ | ⟨⟨hy, -⟩, w, hw, h2⟩ | ⟨hrc, g1, g2, g3, r, S1, h1, h2⟩
      · simp only [show Nat.beq 9001 9001 = true from rfl, cond_true]
        rw [show Nat.blt c0 1000 = true from Nat.ble_eq_true_of_le hc0]
        exact h2
      · simp only [show Nat.beq 9002 9001 = false from rfl, show Nat.beq 9002 9002 = true from rfl, cond_true, cond_false]
        rw [hcp, h80]
        rw [h80] at h2
        exact h2
      · rcases hw with ⟨a, rfl, rfl, rfl⟩ | ⟨a, b, rfl, rfl, rfl⟩ | ⟨a, b, rfl, rfl, rfl⟩ <;> exact h2
      · have e1 : Nat.beq y 9001 = false := by cases hz : Nat.beq y 9001 with | false => rfl | true => exact absurd (Nat.eq_of_beq_eq_true hz) g1
        have e2 : Nat.beq y 9002 = false := by cases hz : Nat.beq y 9002 with | false => rfl | true => exact absurd (Nat.eq_of_beq_eq_true hz) g3
        have e3 : Nat.blt 9002 y = false := by cases hz : Nat.blt 9002 y with | false => rfl | true => have := ltB hz; omega
        rw [e1, e2, e3, hrc]
        dsimp only [cond_false, cond_true]
        unfold runM at h1
        split at h1
        · cases h1
        · rw [h1]
          cases r with
          | none => exact h2
          | some w => exact h2
  · unfold run
    rw [hit]
    dsimp only
    rw [h1]
    exact h2
  · unfold run
    rw [hit]
    cases t
    case int =>
      have h1 : isA S.1 0 = true := h1
      dsimp only
      rw [h1, decide_eq_true (show lenA S.1 = lenA S.1 from rfl)]
      exact h2
    case long =>
      have h1 : isA S.1 1 = true := h1
      dsimp only
      rw [h1, decide_eq_true (show lenA S.1 = lenA S.1 from rfl)]
      exact h2
    all_goals cases h1
  · unfold run
    rw [hit]
    dsimp only
    rw [h1, show Nat.blt w 1000 = true from Nat.ble_eq_true_of_le h3]
    exact h2
  · unfold run
    rw [hit]
    cases ins
    case putfield i =>
      match y, h1 with
      | 0, h1 => dsimp only; rw [h1]; exact h2
      | 1, h1 => dsimp only; rw [h1]; exact h2
      | 2, h1 => dsimp only; rw [h1]; exact h2
      | j + 3, h1 =>
        exfalso
        simp only [stpT, stp] at h1
        cases h1
    all_goals first
      | (simp only [stpT, stp] at h1; cases h1; done)
      | (dsimp only; rw [h1]; exact h2)
theorem run_mono : ∀ (n d k pc : Nat) (ls : List (Option MV)) (st : List MV) (S : MS) (r : Option MV × MS), run n d k pc ls st S = some r → run (n + 1) d k pc ls st S = some r
  | 0, d, k, pc, ls, st, S, r, h => by cases h
  | n + 1, d, k, pc, ls, st, S, (v, S'), h => by
    obtain ⟨⟨ins, nx, x, y, z, sw⟩, hit, hR⟩ := run_inv h
    refine run_intro hit ?_
    unfold RIN at hR ⊢
    dsimp only at hR ⊢
    have ih := run_mono n
    rcases hR with h | ⟨hins, d', as, rest, hd, hst, hlen, hcs, hC⟩ | ⟨hi, h1, h2⟩ | ⟨t, ht, h1, st2, hst, h2⟩ | ⟨hi, j, hj, w, c0, st2, hst, h1, h3, h2⟩ | ⟨pc2, ls2, st2, S1, h1, h2⟩
    · exact Or.inl h
    · refine Or.inr (Or.inl ⟨hins, d', as, rest, hd, hst, hlen, hcs, ?_⟩)
      rcases hC with ⟨h1, h2, h3⟩ | ⟨h1, c0, sp, c1, dp, mm, h2, h3, h4, h5⟩ | ⟨h1, w, h2, h3⟩ | ⟨h1, h2, h3, h4, r, S1, h5, h6⟩
      · exact Or.inl ⟨h1, h2, ih _ _ _ _ _ _ _ h3⟩
      · exact Or.inr (Or.inl ⟨h1, c0, sp, c1, dp, mm, h2, h3, h4, ih _ _ _ _ _ _ _ h5⟩)
      · exact Or.inr (Or.inr (Or.inl ⟨h1, w, h2, ih _ _ _ _ _ _ _ h3⟩))
      · refine Or.inr (Or.inr (Or.inr ⟨h1, h2, h3, h4, r, S1, ?_, ih _ _ _ _ _ _ _ h6⟩))
        unfold runM at h5 ⊢
        split at h5
        · cases h5
        · exact ih _ _ _ _ _ _ _ h5
    · exact Or.inr (Or.inr (Or.inl ⟨hi, h1, ih _ _ _ _ _ _ _ h2⟩))
    · exact Or.inr (Or.inr (Or.inr (Or.inl ⟨t, ht, h1, st2, hst, ih _ _ _ _ _ _ _ h2⟩)))
    · exact Or.inr (Or.inr (Or.inr (Or.inr (Or.inl ⟨hi, j, hj, w, c0, st2, hst, h1, h3, ih _ _ _ _ _ _ _ h2⟩))))
    · exact Or.inr (Or.inr (Or.inr (Or.inr (Or.inr ⟨pc2, ls2, st2, S1, h1, ih _ _ _ _ _ _ _ h2⟩))))
theorem run_le {n n' d k pc : Nat} {ls : List (Option MV)} {st : List MV} {S : MS} {r : Option MV × MS} (hn : n ≤ n') (h : run n d k pc ls st S = some r) : run n' d k pc ls st S = some r := by
  induction hn with
  | refl => exact h
  | step _ ih => exact run_mono _ _ _ _ _ _ _ _ ih
theorem runM_le {n n' d k : Nat} {as : List MV} {S : MS} {r : Option MV × MS} (hn : n ≤ n') (h : runM n d k as S = some r) : runM n' d k as S = some r := by
  unfold runM at h ⊢
  split at h
  · cases h
  · exact run_le hn h
-- conditions
theorem getL_P {K : MV → Prop} : ∀ {ls : List (Option MV)} {i : Nat}, getL False ls i K → ∃ v, K v ∧ ∀ {β : Type} (K' : MV → Option β), getL none ls i K' = K' v
  | [], i, h => by cases i <;> cases h
  | h0 :: t, 0, h => by
    cases h0 with
    | none => cases h
    | some v => exact ⟨v, h, fun K' => rfl⟩
  | h0 :: t, i + 1, h => by
    obtain ⟨v, a, b⟩ := getL_P (ls := t) (i := i) h
    exact ⟨v, a, fun K' => b K'⟩
theorem setL_P {v : MV} : ∀ {ls : List (Option MV)} {i : Nat} {K : List (Option MV) → Prop}, setL False ls i v K → ∃ ls', K ls' ∧ ∀ {β : Type} (K' : List (Option MV) → Option β), setL none ls i v K' = K' ls'
  | [], i, K, h => by cases i <;> cases h
  | h0 :: t, 0, K, h => ⟨_, h, fun K' => rfl⟩
  | h0 :: t, i + 1, K, h => by
    unfold setL at h
    split at h
    · obtain ⟨t', a, b⟩ := setL_P (ls := t) h
      exact ⟨_, a, fun K' => b fun t' => K' (none :: t')⟩
    · rename_i hno
      obtain ⟨t', a, b⟩ := setL_P (ls := t) h
      refine ⟨_, a, fun K' => ?_⟩
      unfold setL
      split
      · exact (hno _ rfl rfl).elim
      · exact b fun t' => K' (h0 :: t')
theorem setL2_P {v : MV} : ∀ {ls : List (Option MV)} {i : Nat} {K : List (Option MV) → Prop}, setL2 False ls i v K → ∃ ls', K ls' ∧ ∀ {β : Type} (K' : List (Option MV) → Option β), setL2 none ls i v K' = K' ls'
  | [], i, K, h => by cases i <;> cases h
  | h0 :: t, 0, K, h => by
    cases t with
    | nil => cases h
    | cons h1 t => exact ⟨_, h, fun K' => rfl⟩
  | h0 :: t, i + 1, K, h => by
    unfold setL2 at h
    split at h
    · obtain ⟨t', a, b⟩ := setL2_P (ls := t) h
      exact ⟨_, a, fun K' => b fun t' => K' (none :: t')⟩
    · rename_i hno
      obtain ⟨t', a, b⟩ := setL2_P (ls := t) h
      refine ⟨_, a, fun K' => ?_⟩
      unfold setL2
      split
      · exact (hno _ rfl rfl).elim
      · exact b fun t' => K' (h0 :: t')
theorem kdK_P {K : Nat → Int → Nat → Prop} {c : Nat} (h : kdK False c K) : ∃ a n z, K a n z ∧ ∀ {β : Type} (K' : Nat → Int → Nat → Option β), kdK none c K' = K' a n z := by
  rw [kdK_eq] at h
  have key : ∀ (l : List (Nat × Nat × Nat)) (c : Nat), kdS False l c K → ∃ a n z, K a n z ∧ ∀ {β : Type} (K' : Nat → Int → Nat → Option β), kdS none l c K' = K' a n z := by
    intro l
    induction l with
    | nil => intro c h; cases c <;> cases h
    | cons q t ih =>
      obtain ⟨a, b, z⟩ := q
      intro c h
      cases c with
      | zero => exact ⟨_, _, _, h, fun K' => rfl⟩
      | succ c => exact ih c h
  obtain ⟨a, n, z, h1, h2⟩ := key _ _ h
  exact ⟨a, n, z, h1, fun K' => by rw [kdK_eq]; exact h2 K'⟩
theorem rlK_P {K : Nat → Prop} {c j : Nat} (h : rlK False c j K) : ∃ c', K c' ∧ ∀ R, okR R → R c j = some c' := by
  rw [rlK_eq] at h
  have key : ∀ (l : List (Nat × Nat)), rlF K False j l → ∃ c', (j, c') ∈ l ∧ K c' := by
    intro l
    induction l with
    | nil => intro h; cases h
    | cons q t ih =>
      obtain ⟨b, c⟩ := q
      intro h
      unfold rlF at h
      cases hz : Nat.beq j b with
      | true => rw [hz] at h; exact ⟨c, by rw [Nat.eq_of_beq_eq_true hz]; exact List.mem_cons_self, h⟩
      | false =>
        rw [hz] at h
        obtain ⟨c', a, b⟩ := ih h
        exact ⟨c', List.mem_cons_of_mem _ a, b⟩
  obtain ⟨c', h1, h2⟩ := key _ h
  exact ⟨c', h2, fun R hR => hR.1 c _ h1⟩
theorem brc_P {c : Prop} {h : Decidable c} {A B : Prop} (hh : brc c h A B) : (A ∧ ∀ {β : Type} (a b : Option β), brc c h a b = a) ∨ (B ∧ ∀ {β : Type} (a b : Option β), brc c h a b = b) := by
  unfold brc at hh ⊢
  cases h with
  | isTrue q => exact Or.inl ⟨hh, fun a b => rfl⟩
  | isFalse q => exact Or.inr ⟨hh, fun a b => rfl⟩
theorem brc_C {c : Prop} {h : Decidable c} {A B : Prop} (hh : brc c h A B) : (c ∧ A) ∨ (¬ c ∧ B) := by
  unfold brc at hh
  cases h with
  | isTrue q => exact Or.inl ⟨q, hh⟩
  | isFalse q => exact Or.inr ⟨q, hh⟩
theorem bif_P {b : Bool} {A : Prop} (hh : bif b then A else False) : b = true ∧ A := by
  cases b
  · cases hh
  · exact ⟨rfl, hh⟩
theorem swK_P {x : Int} {y : Nat} {K : Nat → Prop} : ∀ {sw : List (Int × Nat)}, swK x y K sw → ∃ t, K t ∧ ∀ {β : Type} (K' : Nat → Option β), swK x y K' sw = K' t
  | [], h => ⟨y, h, fun K' => rfl⟩
  | (i, t) :: sw, h => by
    rcases brc_P (show brc (x = i) (Int.instDecidableEq x i) (K t) (swK x y K sw) from h) with ⟨h1, h2⟩ | ⟨h1, h2⟩
    · exact ⟨t, h1, fun K' => h2 _ _⟩
    · obtain ⟨t', a, b⟩ := swK_P h1
      exact ⟨t', a, fun K' => (h2 _ _).trans (b K')⟩
theorem c1_P {v : MV} {A : Prop} (h : c1K False v A) : A ∧ ∀ {β : Type} (a : Option β), c1K none v a = a := by
  unfold c1K at h ⊢
  split at h
  · cases h
  · exact ⟨h, fun a => rfl⟩
theorem popN_P {K : List MV → List MV → Prop} : ∀ {z : Nat} {st acc : List MV}, popN False z st acc K → ∃ as rest, K (as ++ acc) rest ∧ st = as.reverse ++ rest ∧ as.length = z
  | 0, st, acc, h => ⟨[], st, h, rfl, rfl⟩
  | z + 1, [], acc, h => by cases h
  | z + 1, v :: st, acc, h => by
    obtain ⟨as, rest, h1, h2, h3⟩ := popN_P (z := z) (st := st) (acc := v :: acc) h
    exact ⟨as ++ [v], rest, by rw [List.append_assoc]; exact h1, by rw [h2]; simp, by simp [h3]⟩
theorem primK_P {y : Nat} {as : List MV} {K : Int → Prop} (h : primK False y as K) : ∃ w, ((∃ a, y = 9003 ∧ as = [.inl a] ∧ w = iab a) ∨ (∃ a b, y = 9004 ∧ as = [.inl a, .inl b] ∧ w = imx a b) ∨ (∃ a b, y = 9005 ∧ as = [.inl a, .inl b] ∧ w = imn a b)) ∧ K w := by
  unfold primK at h
  split at h
  · rename_i a
    obtain ⟨h1, h2⟩ := bif_P h
    exact ⟨_, Or.inl ⟨a, Nat.eq_of_beq_eq_true h1, rfl, rfl⟩, h2⟩
  · rename_i a b
    cases hy : Nat.beq y 9004 with
    | true => rw [hy] at h; exact ⟨_, Or.inr (Or.inl ⟨a, b, Nat.eq_of_beq_eq_true hy, rfl, rfl⟩), h⟩
    | false =>
      rw [hy] at h
      obtain ⟨h1, h2⟩ := bif_P h
      exact ⟨_, Or.inr (Or.inr ⟨a, b, Nat.eq_of_beq_eq_true h1, rfl, rfl⟩), h2⟩
  · cases h
set_option maxHeartbeats 8000000 in
theorem stpP_sound {E : IE} {ls : List (Option MV)} {st : List MV} {I : ME} {K : Nat → List (Option MV) → List MV → ME → Prop} (h : stpP E ls st I K) (R : MR) (hR : okR R) :
    ∃ pc' ls' st' I', stpT E ls st (80, R, I) = some (pc', ls', st', (80, R, I')) ∧ K pc' ls' st' I' := by
  obtain ⟨ins, nx, x, y, z, sw⟩ := E
  cases ins <;> simp only [stpP, stp] at h <;> simp only [stpT, stp]
  all_goals first
    | (cases h; done)
    | exact ⟨_, _, _, _, rfl, h⟩
    | (split at h <;> first | (cases h; done) | exact ⟨_, _, _, _, rfl, h⟩ | exact ⟨_, _, _, _, if_neg h.1, h.2⟩)
    | (obtain ⟨v, h1, h2⟩ := getL_P h; rw [h2]; split at h1 <;> first | (cases h1; done) | exact ⟨_, _, _, _, rfl, h1⟩)
    | (obtain ⟨v, h1, h2⟩ := getL_P h; rw [h2]; split at h1 <;> first | (cases h1; done) | (obtain ⟨l2, h3, h4⟩ := setL_P h1; exact ⟨_, _, _, _, h4 _, h3⟩))
    | (split at h <;> first | (cases h; done) | (obtain ⟨l2, h3, h4⟩ := setL_P h; exact ⟨_, _, _, _, h4 _, h3⟩) | (obtain ⟨l2, h3, h4⟩ := setL2_P h; exact ⟨_, _, _, _, h4 _, h3⟩))
    | (split at h <;> first | (cases h; done) | (rcases brc_P h with ⟨h1, h2⟩ | ⟨h1, h2⟩ <;> exact ⟨_, _, _, _, h2 _ _, h1⟩))
    | (split at h <;> first | (cases h; done) | (obtain ⟨t, h1, h2⟩ := swK_P h; exact ⟨_, _, _, _, h2 _, h1⟩))
    | (cases hq : Nat.beq y 0 <;> rw [hq] at h <;> exact ⟨_, _, _, _, rfl, h⟩)
    | (split at h <;> first | (cases h; done) | exact ⟨_, _, _, _, rfl, h⟩ | (obtain ⟨h1, h2⟩ := c1_P h; exact ⟨_, _, _, _, h2 _, h1⟩) | (obtain ⟨h1, h2⟩ := c1_P h; obtain ⟨h3, h4⟩ := c1_P h1; exact ⟨_, _, _, _, (h2 _).trans (h4 _), h3⟩) | (obtain ⟨h1, h2⟩ := c1_P h; obtain ⟨h3, h4⟩ := c1_P h1; obtain ⟨h5, h6⟩ := c1_P h3; exact ⟨_, _, _, _, (h2 _).trans ((h4 _).trans (h6 _)), h5⟩))
    | (split at h <;> first | (cases h; done) | (obtain ⟨a, n, z1, h1, h2⟩ := kdK_P h; rw [h2]; obtain ⟨h3, h4⟩ := bif_P h1; rw [h3]; first | exact ⟨_, _, _, _, rfl, h4⟩ | exact ⟨_, _, _, _, if_pos h4.1, h4.2⟩ | (rcases brc_P h4 with ⟨h5, h6⟩ | ⟨h5, h6⟩ <;> first | exact ⟨_, _, _, _, h6 _ _, h5⟩ | (rcases brc_P h5 with ⟨h7, h8⟩ | ⟨h7, h8⟩ <;> first | (cases h7; done) | exact ⟨_, _, _, _, (h6 _ _).trans (h8 _ _), h7⟩))))
    | (split at h <;> first | (cases h; done) | (obtain ⟨h1, h2⟩ := bif_P h; rw [h1]; exact ⟨_, _, _, _, if_pos h2.1, h2.2⟩))
    | skip
  · -- arraylength
    split at h
    · rename_i mzc _
      cases hq : Nat.blt mzc 1000 with
      | true =>
        rw [hq] at h
        dsimp only [cond_true] at h ⊢
        obtain ⟨a, n, z1, h1, h2⟩ := kdK_P h
        rw [h2]
        obtain ⟨h3, h4⟩ := bif_P h1
        rw [h3]
        exact ⟨_, _, _, _, rfl, h4⟩
      | false =>
        rw [hq] at h
        dsimp only [cond_false] at h ⊢
        cases hq2 : Nat.beq mzc 1000 with
        | true => rw [hq2] at h; exact ⟨_, _, _, _, rfl, h⟩
        | false =>
          rw [hq2] at h
          obtain ⟨h3, h4⟩ := bif_P h
          rw [h3]
          exact ⟨_, _, _, _, rfl, h4⟩
    · cases h
  · -- getfield
    split at h
    · rename_i mzc _
      cases hz : Nat.beq z 100 with
      | true =>
        rw [hz] at h
        dsimp only [cond_true] at h ⊢
        obtain ⟨h1, h2⟩ := bif_P h
        rw [h1]
        cases hy : Nat.beq y 3 <;> rw [hy] at h2 <;> exact ⟨_, _, _, _, rfl, h2⟩
      | false =>
        rw [hz] at h
        dsimp only [cond_false] at h ⊢
        obtain ⟨a, n, z1, h1, h2⟩ := kdK_P h
        rw [h2]
        obtain ⟨h3, h4⟩ := bif_P h1
        rw [h3]
        dsimp only [cond_true]
        match y, h4 with
        | 0, h4 => exact ⟨_, _, _, _, rfl, h4⟩
        | 1, h4 => exact ⟨_, _, _, _, rfl, h4⟩
        | 2, h4 => exact ⟨_, _, _, _, rfl, h4⟩
        | j + 3, h4 =>
          obtain ⟨c', h5, h6⟩ := rlK_P h4
          dsimp only
          rw [h6 R hR]
          exact ⟨_, _, _, _, rfl, h5⟩
    · cases h
  · -- iaload
    split at h
    · rename_i mzi mzc _
      cases hq : Nat.blt mzc 1000 with
      | true =>
        rw [hq] at h
        dsimp only [cond_true] at h ⊢
        obtain ⟨a, n, z1, h1, h2⟩ := kdK_P h
        rw [h2]
        obtain ⟨h3, h4⟩ := bif_P h1
        rw [h3]
        exact ⟨_, _, _, _, if_pos h4.1, h4.2⟩
      | false =>
        rw [hq] at h
        dsimp only [cond_false] at h ⊢
        cases hq2 : Nat.beq mzc 1000 with
        | true =>
          rw [hq2] at h
          exact ⟨_, _, _, _, if_pos h.1, h.2⟩
        | false =>
          rw [hq2] at h
          obtain ⟨h3, h4⟩ := bif_P h
          rw [h3]
          exact ⟨_, _, _, _, if_pos h4.1, h4.2⟩
    · cases h
theorem cpy_ok {c0 c1 : Nat} {sp dp m : Int} {A : Prop} (h : kdK False c0 fun k0 n0 _ => kdK False c1 fun k1 n1 _ => bif Nat.beq k0 k1 && Nat.blt k0 2 then (0 ≤ sp ∧ 0 ≤ dp ∧ 0 ≤ m ∧ sp + m ≤ n0 ∧ dp + m ≤ n1) ∧ A else False) : cpyB c0 sp c1 dp m = true ∧ A := by
  rw [kdK_eq] at h
  have key : ∀ (l : List (Nat × Nat × Nat)) (c : Nat) (K : Nat → Int → Nat → Prop), kdS False l c K → ∃ a n z, K a n z ∧ ∀ {α : Type} (b : α) (K' : Nat → Int → Nat → α), kdS b l c K' = K' a n z := by
    intro l
    induction l with
    | nil => intro c K h; cases c <;> cases h
    | cons q t ih =>
      obtain ⟨a, b, z⟩ := q
      intro c K h
      cases c with
      | zero => exact ⟨_, _, _, h, fun b K' => rfl⟩
      | succ c => exact ih c K h
  obtain ⟨a0, n0, z0, g1, g2⟩ := key _ _ _ h
  rw [kdK_eq] at g1
  obtain ⟨a1, n1, z1, g3, g4⟩ := key _ _ _ g1
  obtain ⟨g5, g6, g7⟩ := bif_P g3
  refine ⟨?_, g7⟩
  rw [Bool.and_eq_true] at g5
  have e1 := Nat.eq_of_beq_eq_true g5.1
  have e2 := ltB g5.2
  subst e1
  have i0 : ∀ t, isA c0 t = Nat.beq a0 t := fun t => by unfold isA; rw [kdK_eq, g2]
  have i1 : ∀ t, isA c1 t = Nat.beq a0 t := fun t => by unfold isA; rw [kdK_eq, g4]
  have l0 : lenA c0 = n0 := by unfold lenA; rw [kdK_eq, g2]
  have l1 : lenA c1 = n1 := by unfold lenA; rw [kdK_eq, g4]
  unfold cpyB
  rw [i0, i0, i1, i1, l0, l1]
  simp only [Bool.and_eq_true, Bool.or_eq_true, decide_eq_true_eq]
  refine ⟨⟨⟨⟨⟨?_, g6.1⟩, g6.2.1⟩, g6.2.2.1⟩, g6.2.2.2.1⟩, g6.2.2.2.2⟩
  match a0, e2 with
  | 0, _ => exact Or.inl ⟨rfl, rfl⟩
  | 1, _ => exact Or.inr ⟨rfl, rfl⟩
  | a + 2, e2 => omega
theorem cpyA_P {as : List MV} {F : Nat → Int → Nat → Int → Int → Prop} (h : cpyA as F) : ∃ c0 sp c1 dp m, as = [.inr (.inr c0), .inl sp, .inr (.inr c1), .inl dp, .inl m] ∧ F c0 sp c1 dp m := by
  unfold cpyA at h
  split at h
  · exact ⟨_, _, _, _, _, rfl, h⟩
  · cases h
theorem ret0_P {rc : Nat} {st : List MV} {a : Prop} (h : ret0 rc st a) : rc = 0 ∧ st = [] ∧ a := by
  unfold ret0 at h
  split at h
  · exact ⟨rfl, rfl, h.2⟩
  · cases h
theorem retS_P {rc : Nat} {Q : Option MV → ME → Prop} {I : ME} {st : List MV} (h : retS rc Q I st) : ∃ w, st = [w] ∧ retB rc w = true ∧ Q (some w) I := by
  unfold retS at h
  split at h
  · rename_i w
    refine ⟨w, rfl, ?_⟩
    unfold retP at h
    split at h
    · exact ⟨rfl, h.2⟩
    · rcases brc_C h with ⟨rfl, g⟩ | ⟨-, g⟩
      · exact ⟨rfl, g.2⟩
      · rcases brc_C g with ⟨rfl, g⟩ | ⟨-, g⟩
        · exact ⟨rfl, g.2⟩
        · cases g
    · exact ⟨rfl, h.2⟩
    · exact ⟨rfl, h.2⟩
    · refine ⟨?_, h.2⟩
      show (decide _ && decide _) = true
      rw [Bool.and_eq_true, decide_eq_true_eq, decide_eq_true_eq]
      exact h.1
    · cases h
  · cases h
theorem Ev.of_run {d k pc n : Nat} {ls : List (Option MV)} {st : List MV} {I : ME} {Q : Option MV → ME → Prop} {E : IE} (hit : ITf k pc = some E) (h : ∀ R, okR R → ∃ n v I', RIN n d k ls st (80, R, I) v (80, R, I') E ∧ Q v I') : Ev d k pc ls st I Q := by
  intro R hR
  obtain ⟨n, v, I', h1, h2⟩ := h R hR
  exact ⟨n + 1, v, I', run_intro hit h1, h2⟩
set_option maxHeartbeats 8000000 in
theorem go_sound {d k : Nat} {T : Nat → Option IE} {rc : Nat} {cuts : List Nat} {Q : Option MV → ME → Prop} (hT : ITf k = T) (hrc : retM k = rc) : ∀ (n pc : Nat) (ls : List (Option MV)) (st : List MV) (I : ME), go d k T rc cuts Q n pc ls st I → Ev d k pc ls st I Q
  | 0, pc, ls, st, I, h => by cases h
  | n + 1, pc, ls, st, I, h => by
    have ih := go_sound (d := d) hT hrc (cuts := cuts) (Q := Q) n
    have nxt : ∀ {pc' : Nat} {ls' : List (Option MV)} {st' : List MV} {I' : ME}, (bif elemN pc' cuts then True ∧ Ev d k pc' ls' st' I' Q else go d k T rc cuts Q n pc' ls' st' I') → Ev d k pc' ls' st' I' Q := by
      intro pc' ls' st' I' h
      cases hz : elemN pc' cuts with
      | true => rw [hz] at h; exact h.2
      | false => rw [hz] at h; exact ih _ _ _ _ h
    unfold go at h
    split at h
    · cases h
    rename_i ins nx x y z sw hit
    rw [← hT] at hit
    have step : stpP (ins, nx, x, y, z, sw) ls st I (fun pc' ls' st' I' => bif elemN pc' cuts then True ∧ Ev d k pc' ls' st' I' Q else go d k T rc cuts Q n pc' ls' st' I') → Ev d k pc ls st I Q := by
      intro h
      intro R hR
      obtain ⟨pc', ls', st', I', h1, h2⟩ := stpP_sound h R hR
      obtain ⟨m, v, I2, h3, h4⟩ := nxt h2 R hR
      refine ⟨m + 1, v, I2, run_intro hit ?_, h4⟩
      unfold RIN
      exact Or.inr (Or.inr (Or.inr (Or.inr (Or.inr ⟨_, _, _, _, h1, h3⟩))))
    have call : ((∃ i, ins = .invokevirtual i) ∨ (∃ i, ins = .invokespecial i) ∨ ∃ i, ins = .invokestatic i) → (popN False z st [] fun as rest =>
          bif Nat.blt 8 (catS rest) then False else bif Nat.beq y 9001 then False
            else bif Nat.beq y 9002 then cpyA as (fun c0 sp c1 dp m => cpyP c0 sp c1 dp m (0 < d ∧ (bif elemN nx cuts then True ∧ Ev d k nx ls rest (cpyM I c0 sp c1 dp m) Q else go d k T rc cuts Q n nx ls rest (cpyM I c0 sp c1 dp m))))
            else bif Nat.blt 9002 y then primK False y as fun v => 0 < d ∧ (bif elemN nx cuts then True ∧ Ev d k nx ls (.inl v :: rest) I Q else go d k T rc cuts Q n nx ls (.inl v :: rest) I)
            else bif rcvB y as then 0 < d ∧ EvM (d - 1) y as I (fun v I' => match v with
              | none => bif elemN nx cuts then True ∧ Ev d k nx ls rest I' Q else go d k T rc cuts Q n nx ls rest I'
              | some w => bif elemN nx cuts then True ∧ Ev d k nx ls (w :: rest) I' Q else go d k T rc cuts Q n nx ls (w :: rest) I') else False) → Ev d k pc ls st I Q := by
      intro hins h
      obtain ⟨as, rest, h1, rfl, h3⟩ := popN_P h
      rw [List.append_nil] at h1
      cases hcs : Nat.blt 8 (catS rest) with
      | true => rw [hcs] at h1; cases h1
      | false =>
        have hcs2 : catS rest ≤ 8 := Nat.not_lt.mp (fun q => by rw [show Nat.blt 8 (catS rest) = true from Nat.ble_eq_true_of_le q] at hcs; cases hcs)
        rw [hcs] at h1
        dsimp only [cond_false] at h1
        cases h9 : Nat.beq y 9001 with
        | true => rw [h9] at h1; cases h1
        | false =>
          rw [h9] at h1
          dsimp only [cond_false] at h1
          cases h10 : Nat.beq y 9002 with
          | true =>
            rw [h10] at h1
            dsimp only [cond_true] at h1
            obtain ⟨mz0, mzs, mz1, mzd, mzm, rfl, h1⟩ := cpyA_P h1
            · unfold cpyP at h1
              obtain ⟨hcp, hd, hn⟩ := cpy_ok h1
              intro R hR
              obtain ⟨m, v, I2, g3, g4⟩ := nxt hn R hR
              refine ⟨m + 1, v, I2, run_intro hit ?_, g4⟩
              unfold RIN
              exact Or.inr (Or.inl ⟨hins, d - 1, _, rest, by omega, rfl, h3, hcs2, Or.inr (Or.inl ⟨Nat.eq_of_beq_eq_true h10, mz0, mzs, mz1, mzd, mzm, rfl, hcp, rfl, g3⟩)⟩)
          | false =>
            rw [h10] at h1
            dsimp only [cond_false] at h1
            cases h11 : Nat.blt 9002 y with
            | true =>
              rw [h11] at h1
              dsimp only [cond_true] at h1
              obtain ⟨w, g1, hd, hn⟩ := primK_P h1
              intro R hR
              obtain ⟨m, v, I2, g3, g4⟩ := nxt hn R hR
              refine ⟨m + 1, v, I2, run_intro hit ?_, g4⟩
              unfold RIN
              exact Or.inr (Or.inl ⟨hins, d - 1, as, rest, by omega, rfl, h3, hcs2, Or.inr (Or.inr (Or.inl ⟨⟨ltB h11, w, g1⟩, w, g1, g3⟩))⟩)
            | false =>
              rw [h11] at h1
              dsimp only [cond_false] at h1
              obtain ⟨g1, hd, hM⟩ := bif_P h1
              intro R hR
              obtain ⟨m1, r, I1, g3, g4⟩ := hM R hR
              have hE : Ev d k nx ls (r.toList ++ rest) I1 Q := by
                cases r with
                | none => exact nxt g4
                | some w => exact nxt g4
              obtain ⟨m2, v, I2, g5, g6⟩ := hE R hR
              refine ⟨max m1 m2 + 1, v, I2, run_intro hit ?_, g6⟩
              unfold RIN
              exact Or.inr (Or.inl ⟨hins, d - 1, as, rest, by omega, rfl, h3, hcs2, Or.inr (Or.inr (Or.inr ⟨g1, beqF h9, Nat.not_lt.mp (fun q => by rw [show Nat.blt 9002 y = true from Nat.ble_eq_true_of_le q] at h11; cases h11), beqF h10, r, _, runM_le (Nat.le_max_left _ _) g3, run_le (Nat.le_max_right _ _) g5⟩))⟩)
    have ret : isRet ins → ins ≠ .return_ → retS rc Q I st → Ev d k pc ls st I Q := by
      intro hi hne h
      obtain ⟨w, rfl, hq1, hq2⟩ := retS_P h
      intro R hR
      refine ⟨1, some w, I, run_intro hit ?_, hq2⟩
      unfold RIN
      rw [← hrc] at hq1
      exact Or.inl ⟨hi, rfl, Or.inr ⟨w, rfl, rfl, hq1, hne⟩⟩
    cases ins
    case return_ =>
      obtain ⟨rfl, rfl, mzh⟩ := ret0_P h
      intro R hR
      refine ⟨1, none, I, run_intro hit ?_, mzh⟩
      unfold RIN
      exact Or.inl ⟨Or.inl rfl, rfl, Or.inl ⟨rfl, rfl, hrc, rfl⟩⟩
    case ireturn => exact ret (Or.inr (Or.inl rfl)) (fun q => by cases q) h
    case lreturn => exact ret (Or.inr (Or.inr (Or.inl rfl))) (fun q => by cases q) h
    case areturn => exact ret (Or.inr (Or.inr (Or.inr rfl))) (fun q => by cases q) h
    case invokevirtual i => exact call (Or.inl ⟨_, rfl⟩) h
    case invokespecial i => exact call (Or.inr (Or.inl ⟨_, rfl⟩)) h
    case invokestatic i => exact call (Or.inr (Or.inr ⟨_, rfl⟩)) h
    case new i => cases h
    case newarray i => cases h
    all_goals exact step h
/-- a call's conditions, from the method's own -/
theorem EvM.go {d k : Nat} {T : Nat → Option IE} {rc mx : Nat} {as : List MV} {ls : List (Option MV)} {I : ME} {Q : Option MV → ME → Prop} (cuts : List Nat) (hT : ITf k = T) (hrc : retM k = rc) (hmx : maxM k = mx) (hl : entL none mx as some = some ls) (h : go d k T rc cuts Q 4000 0 ls [] I) : EvM d k as I Q := by
  intro R hR
  obtain ⟨n, v, I', h1, h2⟩ := go_sound hT hrc _ _ _ _ _ h R hR
  refine ⟨n, v, I', ?_, h2⟩
  unfold runM
  rw [hmx, hl]
  exact h1
theorem Ev.go {d k pc : Nat} {T : Nat → Option IE} {rc : Nat} {ls : List (Option MV)} {st : List MV} {I : ME} {Q : Option MV → ME → Prop} (cuts : List Nat) (hT : ITf k = T) (hrc : retM k = rc) (h : go d k T rc cuts Q 4000 pc ls st I) : Ev d k pc ls st I Q := go_sound hT hrc _ _ _ _ _ h
theorem EvM.mono {d k : Nat} {as : List MV} {I : ME} {Q Q' : Option MV → ME → Prop} (h : EvM d k as I Q) (hq : ∀ v I', Q v I' → Q' v I') : EvM d k as I Q' := fun R hR => by
  obtain ⟨n, v, I', h1, h2⟩ := h R hR
  exact ⟨n, v, I', h1, hq _ _ h2⟩
theorem Ev.mono {d k pc : Nat} {ls : List (Option MV)} {st : List MV} {I : ME} {Q Q' : Option MV → ME → Prop} (h : Ev d k pc ls st I Q) (hq : ∀ v I', Q v I' → Q' v I') : Ev d k pc ls st I Q' := fun R hR => by
  obtain ⟨n, v, I', h1, h2⟩ := h R hR
  exact ⟨n, v, I', h1, hq _ _ h2⟩
theorem brI {c : Prop} {h : Decidable c} {A B : Prop} (a : c → A) (b : ¬ c → B) : brc c h A B := by
  unfold brc
  split
  · exact a (by assumption)
  · exact b (by assumption)
theorem brT {c : Prop} {h : Decidable c} {A B : Prop} (hc : c) (a : A) : brc c h A B := brI (fun _ => a) (fun q => absurd hc q)
theorem brF {c : Prop} {h : Decidable c} {A B : Prop} (hc : ¬ c) (b : B) : brc c h A B := brI (fun q => absurd q hc) (fun _ => b)
