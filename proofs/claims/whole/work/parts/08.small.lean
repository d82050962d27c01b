/-! the small machine alone: runs by their first instruction, and conditions that are enough for a run -/
theorem ltB {a b : Nat} (h : Nat.blt a b = true) : a < b := Nat.le_of_ble_eq_true h
theorem getL_some {β : Type} {K : MV → Option β} {r : β} : ∀ {ls : List (Option MV)} {i : Nat}, getL none ls i K = some r → ∃ v, ls[i]? = some (some v) ∧ K v = some r
  | [], i, h => by cases i <;> cases h
  | h0 :: t, 0, h => by
    cases h0 with
    | none => cases h
    | some v => exact ⟨v, rfl, h⟩
  | h0 :: t, i + 1, h => by
    obtain ⟨v, a, b⟩ := getL_some (ls := t) (i := i) h
    exact ⟨v, by simpa using a, b⟩
/-- what a store of a value leaves of the locals -/
def stoL (w : Nat) (ls : List (Option MV)) (i : Nat) (v : MV) (ls' : List (Option MV)) : Prop :=
  ls'.length = ls.length ∧ i + w < ls.length ∧ ∀ (j : Nat) (u : MV), ls'[j]? = some (some u) → (j = i ∧ u = v) ∨ (j ≠ i ∧ (w = 1 → j ≠ i + 1) ∧ ls[j]? = some (some u) ∧ ¬ (j + 1 = i ∧ ∃ x, u = .inr (.inl x)))
theorem setL_some {β : Type} {v : MV} {r : β} : ∀ {ls : List (Option MV)} {i : Nat} {K : List (Option MV) → Option β}, setL none ls i v K = some r → ∃ ls', K ls' = some r ∧ stoL 0 ls i v ls'
  | [], i, K, h => by cases i <;> cases h
  | h0 :: t, 0, K, h => by
    refine ⟨_, h, rfl, by simp, fun j u hj => ?_⟩
    cases j with
    | zero => left; simp at hj; exact ⟨rfl, hj.symm⟩
    | succ j => right; exact ⟨by omega, by omega, by simpa using hj, by omega⟩
  | h0 :: t, i + 1, K, h => by
    have key : ∀ (h1 : Option MV), (∀ u, h1 = some u → h0 = some u) → (i = 0 → ∀ x, h1 ≠ some (.inr (.inl x))) → setL none t i v (fun t' => K (h1 :: t')) = some r → ∃ ls', K ls' = some r ∧ stoL 0 (h0 :: t) (i + 1) v ls' := by
      intro h1 hk hl hh
      obtain ⟨t', a, b1, b2, b3⟩ := setL_some (ls := t) (i := i) hh
      refine ⟨_, a, by simp [b1], by simp; omega, fun j u hj => ?_⟩
      cases j with
      | zero =>
        right
        simp at hj
        refine ⟨by omega, by omega, by simp [hk u hj], ?_⟩
        rintro ⟨q1, x, rfl⟩
        exact hl (by omega) x hj
      | succ j =>
        have hj' : t'[j]? = some (some u) := by simpa using hj
        rcases b3 j u hj' with ⟨q1, q2⟩ | ⟨q1, -, q2, q3⟩
        · left; exact ⟨by omega, q2⟩
        · right; exact ⟨by omega, by omega, by simpa using q2, fun ⟨z1, z2⟩ => q3 ⟨by omega, z2⟩⟩
    unfold setL at h
    split at h
    · exact key none (fun u hu => by cases hu) (fun _ x hx => by cases hx) h
    · rename_i hno
      exact key h0 (fun u hu => hu) (fun hi x hx => hno _ hi hx) h
theorem setL2_some {β : Type} {v : MV} {r : β} : ∀ {ls : List (Option MV)} {i : Nat} {K : List (Option MV) → Option β}, setL2 none ls i v K = some r → ∃ ls', K ls' = some r ∧ stoL 1 ls i v ls'
  | [], i, K, h => by cases i <;> cases h
  | h0 :: t, 0, K, h => by
    cases t with
    | nil => cases h
    | cons h1 t =>
      refine ⟨_, h, rfl, by simp, fun j u hj => ?_⟩
      match j, hj with
      | 0, hj => left; simp at hj; exact ⟨rfl, hj.symm⟩
      | 1, hj => simp at hj
      | j + 2, hj => right; exact ⟨by omega, by omega, by simpa using hj, by omega⟩
  | h0 :: t, i + 1, K, h => by
    have key : ∀ (h1 : Option MV), (∀ u, h1 = some u → h0 = some u) → (i = 0 → ∀ x, h1 ≠ some (.inr (.inl x))) → setL2 none t i v (fun t' => K (h1 :: t')) = some r → ∃ ls', K ls' = some r ∧ stoL 1 (h0 :: t) (i + 1) v ls' := by
      intro h1 hk hl hh
      obtain ⟨t', a, b1, b2, b3⟩ := setL2_some (ls := t) (i := i) hh
      refine ⟨_, a, by simp [b1], by simp; omega, fun j u hj => ?_⟩
      cases j with
      | zero =>
        right
        simp at hj
        refine ⟨by omega, by omega, by simp [hk u hj], ?_⟩
        rintro ⟨q1, x, rfl⟩
        exact hl (by omega) x hj
      | succ j =>
        have hj' : t'[j]? = some (some u) := by simpa using hj
        rcases b3 j u hj' with ⟨q1, q2⟩ | ⟨q1, q4, q2, q3⟩
        · left; exact ⟨by omega, q2⟩
        · right; exact ⟨by omega, fun hw => by have := q4 hw; omega, by simpa using q2, fun ⟨z1, z2⟩ => q3 ⟨by omega, z2⟩⟩
    unfold setL2 at h
    split at h
    · exact key none (fun u hu => by cases hu) (fun _ x hx => by cases hx) h
    · rename_i hno
      exact key h0 (fun u hu => hu) (fun hi x hx => hno _ hi hx) h
theorem kdS_some {β : Type} {K : Nat → Int → Nat → Option β} {r : β} : ∀ {l : List (Nat × Nat × Nat)} {c : Nat}, kdS none l c K = some r → ∃ a b z, l[c]? = some (a, b, z) ∧ K a (Int.ofNat b) z = some r
  | [], c, h => by cases c <;> cases h
  | (a, b, z) :: t, 0, h => ⟨a, b, z, rfl, h⟩
  | q :: t, c + 1, h => by
    obtain ⟨a, b, z, h1, h2⟩ := kdS_some (l := t) (c := c) h
    exact ⟨a, b, z, by simpa using h1, h2⟩
theorem kdK_some {β : Type} {K : Nat → Int → Nat → Option β} {r : β} {c : Nat} (h : kdK none c K = some r) : ∃ a b z, KDL[c]? = some (a, b, z) ∧ K a (Int.ofNat b) z = some r := by
  rw [kdK_eq] at h
  exact kdS_some h
theorem KDL_lt {c : Nat} {q : Nat × Nat × Nat} (h : KDL[c]? = some q) : c < 80 := (List.getElem?_eq_some_iff.mp h).1
theorem brc_some {β : Type} {c : Prop} {h : Decidable c} {a b : Option β} {r : β} (hh : brc c h a b = some r) : (c ∧ a = some r) ∨ (¬ c ∧ b = some r) := by
  unfold brc at hh
  split at hh
  · rename_i q; exact Or.inl ⟨q, hh⟩
  · rename_i q; exact Or.inr ⟨q, hh⟩
theorem ite_some {β : Type} {c : Prop} [Decidable c] {a : Option β} {r : β} (hh : (if c then a else none) = some r) : c ∧ a = some r := by
  split at hh
  · rename_i q; exact ⟨q, hh⟩
  · cases hh
theorem bif_some {β : Type} {b : Bool} {a : Option β} {r : β} (hh : (bif b then a else none) = some r) : b = true ∧ a = some r := by
  cases b
  · cases hh
  · exact ⟨rfl, hh⟩
theorem swK_some {β : Type} {x : Int} {y : Nat} {K : Nat → Option β} {r : β} : ∀ {sw : List (Int × Nat)}, swK x y K sw = some r → ∃ t, K t = some r ∧ ((∃ i : Nat, sw[i]? = some (x, t) ∧ ∀ (j : Nat) (q : Int × Nat), j < i → sw[j]? = some q → x ≠ q.1) ∨ (t = y ∧ ∀ q ∈ sw, x ≠ q.1))
  | [], h => ⟨y, h, Or.inr ⟨rfl, fun q hq => by cases hq⟩⟩
  | (i, t) :: sw, h => by
    rcases brc_some (show brc (x = i) (Int.instDecidableEq x i) (K t) (swK x y K sw) = some r from h) with ⟨rfl, h7⟩ | ⟨hn, h⟩
    · exact ⟨t, h7, Or.inl ⟨0, rfl, fun j q hj => by omega⟩⟩
    · obtain ⟨t', h1, h2⟩ := swK_some h
      refine ⟨t', h1, ?_⟩
      rcases h2 with ⟨i', a, b⟩ | ⟨a, b⟩
      · refine Or.inl ⟨i' + 1, by simpa using a, fun j q hj hq => ?_⟩
        cases j with
        | zero => simp at hq; rw [← hq]; exact hn
        | succ j => exact b j q (by omega) (by simpa using hq)
      · refine Or.inr ⟨a, fun q hq => ?_⟩
        rcases List.mem_cons.mp hq with rfl | hq
        · exact hn
        · exact b q hq
theorem popN_some : ∀ {z : Nat} {st acc as rest : List MV}, popN none z st acc (fun as rest => some (as, rest)) = some (as, rest) → ∃ xs : List MV, as = xs ++ acc ∧ st = xs.reverse ++ rest ∧ xs.length = z
  | 0, st, acc, as, rest, h => by
    cases h
    exact ⟨[], rfl, rfl, rfl⟩
  | z + 1, [], acc, as, rest, h => by cases h
  | z + 1, v :: st, acc, as, rest, h => by
    obtain ⟨xs, h1, h2, h3⟩ := popN_some (z := z) (st := st) (acc := v :: acc) h
    exact ⟨xs ++ [v], by rw [h1]; simp, by rw [h2]; simp, by simp [h3]⟩
theorem isO_K {c z : Nat} (h : isO c z = true) : ∃ n, KDL[c]? = some (2, n, z) ∧ c < 80 := by
  unfold isO at h
  rw [kdK_eq] at h
  have key : ∀ (l : List (Nat × Nat × Nat)) (c : Nat), kdS false l c (fun kd _ ci => Nat.beq kd 2 && Nat.beq ci z) = true → ∃ n, l[c]? = some (2, n, z) := by
    intro l
    induction l with
    | nil => intro c h; cases c <;> cases h
    | cons q t ih =>
      obtain ⟨a, b, z'⟩ := q
      intro c h
      cases c with
      | zero =>
        have h : (Nat.beq a 2 && Nat.beq z' z) = true := h
        simp only [Bool.and_eq_true] at h
        have h1 := Nat.eq_of_beq_eq_true h.1
        have h2 := Nat.eq_of_beq_eq_true h.2
        subst h1; subst h2
        exact ⟨b, rfl⟩
      | succ c =>
        obtain ⟨n, hn⟩ := ih c h
        exact ⟨n, by simpa using hn⟩
  obtain ⟨n, hn⟩ := key _ _ h
  exact ⟨n, hn, KDL_lt hn⟩
theorem isA_K {c t : Nat} (h : isA c t = true) : ∃ n z, KDL[c]? = some (t, n, z) ∧ lenA c = Int.ofNat n ∧ c < 80 := by
  unfold isA at h
  rw [kdK_eq] at h
  have key : ∀ (l : List (Nat × Nat × Nat)) (c : Nat), kdS false l c (fun kd _ _ => Nat.beq kd t) = true → ∃ n z, l[c]? = some (t, n, z) ∧ kdS (0 : Int) l c (fun _ n _ => n) = Int.ofNat n := by
    intro l
    induction l with
    | nil => intro c h; cases c <;> cases h
    | cons q r ih =>
      obtain ⟨a, b, z'⟩ := q
      intro c h
      cases c with
      | zero =>
        have h1 := Nat.eq_of_beq_eq_true (show Nat.beq a t = true from h)
        subst h1
        exact ⟨b, z', rfl, rfl⟩
      | succ c =>
        obtain ⟨n, z, hn, h2⟩ := ih c h
        exact ⟨n, z, by simpa using hn, h2⟩
  obtain ⟨n, z, hn, h2⟩ := key _ _ h
  refine ⟨n, z, hn, ?_, KDL_lt hn⟩
  unfold lenA
  rw [kdK_eq]
  exact h2
/-! a run, by its first instruction -/
def retI (ins : Instr) (rc : Nat) : Bool := match ins with
  | .return_ => Nat.beq rc 0
  | .ireturn => Nat.beq rc 1 || Nat.beq rc 2 || Nat.beq rc 5
  | .lreturn => Nat.beq rc 3
  | .areturn => Nat.beq rc 4
  | _ => false
def isRet (ins : Instr) : Prop := ins = .return_ ∨ ins = .ireturn ∨ ins = .lreturn ∨ ins = .areturn
def RIN (n d k : Nat) (ls : List (Option MV)) (st : List MV) (S : MS) (v : Option MV) (S' : MS) (E : IE) : Prop := match E with
  | (ins, nx, x, y, z, sw) =>
    (isRet ins ∧ S' = S ∧ ((v = none ∧ st = [] ∧ retM k = 0 ∧ ins = .return_) ∨ ∃ w, v = some w ∧ st = [w] ∧ retB (retM k) w = true ∧ ins ≠ .return_)) ∨
    (((∃ i, ins = .invokevirtual i) ∨ (∃ i, ins = .invokespecial i) ∨ ∃ i, ins = .invokestatic i) ∧ ∃ (d' : Nat) (as rest : List MV), d = d' + 1 ∧ st = as.reverse ++ rest ∧ as.length = z ∧ catS rest ≤ 8 ∧
      ((y = 9001 ∧ (∃ c, as = [.inr (.inr c)] ∧ c < 1000) ∧ run n d k nx ls rest S = some (v, S')) ∨
       (y = 9002 ∧ ∃ (c0 : Nat) (sp : Int) (c1 : Nat) (dp m : Int), as = [.inr (.inr c0), .inl sp, .inr (.inr c1), .inl dp, .inl m] ∧ cpyB c0 sp c1 dp m = true ∧ S.1 = 80 ∧ run n d k nx ls rest (S.1, S.2.1, cpyM S.2.2 c0 sp c1 dp m) = some (v, S')) ∨
       (9002 < y ∧ ∃ w, (∃ a, y = 9003 ∧ as = [.inl a] ∧ w = iab a) ∨ (∃ a b, y = 9004 ∧ as = [.inl a, .inl b] ∧ w = imx a b) ∨ (∃ a b, y = 9005 ∧ as = [.inl a, .inl b] ∧ w = imn a b)) ∧ (∃ w, ((∃ a, y = 9003 ∧ as = [.inl a] ∧ w = iab a) ∨ (∃ a b, y = 9004 ∧ as = [.inl a, .inl b] ∧ w = imx a b) ∨ (∃ a b, y = 9005 ∧ as = [.inl a, .inl b] ∧ w = imn a b)) ∧ run n d k nx ls (.inl w :: rest) S = some (v, S')) ∨
       (rcvB y as = true ∧ y ≠ 9001 ∧ y ≤ 9002 ∧ y ≠ 9002 ∧ ∃ (r : Option MV) (S1 : MS), runM n d' y as S = some (r, S1) ∧ run n d k nx ls (r.toList ++ rest) S1 = some (v, S')))) ∨
    ((∃ i, ins = .new i) ∧ isO S.1 z = true ∧ run n d k nx ls (.inr (.inr S.1) :: st) (S.1 + 1, S.2) = some (v, S')) ∨
    (∃ t, ins = .newarray t ∧ (match t with
            | .int => isA S.1 0
            | .long => isA S.1 1
            | _ => false) = true ∧ ∃ st', st = .inl (lenA S.1) :: st' ∧ run n d k nx ls (.inr (.inr S.1) :: st') (S.1 + 1, S.2) = some (v, S')) ∨
    ((∃ i, ins = .putfield i) ∧ ∃ j, y = j + 3 ∧ ∃ (w c : Nat) (st' : List MV), st = .inr (.inr w) :: .inr (.inr c) :: st' ∧ isO c z = true ∧ w < 1000 ∧ run n d k nx ls st' (S.1, updR S.2.1 c j w, S.2.2) = some (v, S')) ∨
    (∃ pc' ls' st' S1, stpT (ins, nx, x, y, z, sw) ls st S = some (pc', ls', st', S1) ∧ run n d k pc' ls' st' S1 = some (v, S'))
theorem prim_some {y : Nat} {as : List MV} {β : Type} {K : Int → Option β} {r : β} (h : primK none y as K = some r) : ∃ w, ((∃ a, y = 9003 ∧ as = [.inl a] ∧ w = iab a) ∨ (∃ a b, y = 9004 ∧ as = [.inl a, .inl b] ∧ w = imx a b) ∨ (∃ a b, y = 9005 ∧ as = [.inl a, .inl b] ∧ w = imn a b)) ∧ K w = some r := by
  unfold primK at h
  split at h
  · rename_i a
    obtain ⟨h1, h2⟩ := bif_some h
    exact ⟨_, Or.inl ⟨a, Nat.eq_of_beq_eq_true h1, rfl, rfl⟩, h2⟩
  · rename_i a b
    cases hy : Nat.beq y 9004 with
    | true => rw [hy] at h; exact ⟨_, Or.inr (Or.inl ⟨a, b, Nat.eq_of_beq_eq_true hy, rfl, rfl⟩), h⟩
    | false =>
      rw [hy] at h
      obtain ⟨h1, h2⟩ := bif_some h
      exact ⟨_, Or.inr (Or.inr ⟨a, b, Nat.eq_of_beq_eq_true h1, rfl, rfl⟩), h2⟩
  · cases h
theorem beqF {a b : Nat} (h : Nat.beq a b = false) : a ≠ b := fun q => by rw [q, Nat.beq_refl] at h; cases h
theorem run_call {n d k nx x y z : Nat} {ls : List (Option MV)} {st : List MV} {S : MS} {v : Option MV} {S' : MS} (h : (match d with
        | 0 => none
        | d' + 1 => match popN none z st [] (fun as rest => some (as, rest)) with
          | none => none
          | some (as, rest) => bif Nat.blt 8 (catS rest) then none else bif Nat.beq y 9001 then (match as with
              | [.inr (.inr c)] => bif Nat.blt c 1000 then run n (d' + 1) k nx ls rest S else none
              | _ => none)
            else bif Nat.beq y 9002 then (match as with
              | [.inr (.inr c0), .inl sp, .inr (.inr c1), .inl dp, .inl m] => bif cpyB c0 sp c1 dp m && Nat.beq S.1 80 then run n (d' + 1) k nx ls rest (S.1, S.2.1, cpyM S.2.2 c0 sp c1 dp m) else none
              | _ => none)
            else bif Nat.blt 9002 y then primK none y as fun v => run n (d' + 1) k nx ls (.inl v :: rest) S
            else bif rcvB y as then (match entL none (maxM y) as some with
              | none => none
              | some ls' => match run n d' y 0 ls' [] S with
                | none => none
                | some (none, S') => run n (d' + 1) k nx ls rest S'
                | some (some v, S') => run n (d' + 1) k nx ls (v :: rest) S')
            else none) = some (v, S')) : ∃ (d' : Nat) (as rest : List MV), d = d' + 1 ∧ st = as.reverse ++ rest ∧ as.length = z ∧ catS rest ≤ 8 ∧
      ((y = 9001 ∧ (∃ c, as = [.inr (.inr c)] ∧ c < 1000) ∧ run n d k nx ls rest S = some (v, S')) ∨
       (y = 9002 ∧ ∃ (c0 : Nat) (sp : Int) (c1 : Nat) (dp m : Int), as = [.inr (.inr c0), .inl sp, .inr (.inr c1), .inl dp, .inl m] ∧ cpyB c0 sp c1 dp m = true ∧ S.1 = 80 ∧ run n d k nx ls rest (S.1, S.2.1, cpyM S.2.2 c0 sp c1 dp m) = some (v, S')) ∨
       (9002 < y ∧ ∃ w, (∃ a, y = 9003 ∧ as = [.inl a] ∧ w = iab a) ∨ (∃ a b, y = 9004 ∧ as = [.inl a, .inl b] ∧ w = imx a b) ∨ (∃ a b, y = 9005 ∧ as = [.inl a, .inl b] ∧ w = imn a b)) ∧ (∃ w, ((∃ a, y = 9003 ∧ as = [.inl a] ∧ w = iab a) ∨ (∃ a b, y = 9004 ∧ as = [.inl a, .inl b] ∧ w = imx a b) ∨ (∃ a b, y = 9005 ∧ as = [.inl a, .inl b] ∧ w = imn a b)) ∧ run n d k nx ls (.inl w :: rest) S = some (v, S')) ∨
       (rcvB y as = true ∧ y ≠ 9001 ∧ y ≤ 9002 ∧ y ≠ 9002 ∧ ∃ (r : Option MV) (S1 : MS), runM n d' y as S = some (r, S1) ∧ run n d k nx ls (r.toList ++ rest) S1 = some (v, S'))) := by
  cases d with
  | zero => cases h
  | succ d' =>
    dsimp only at h
    split at h
    · cases h
    · rename_i as rest hp
      obtain ⟨xs, h1, h2, h3⟩ := popN_some hp
      rw [List.append_nil] at h1
      subst h1
      cases hb : Nat.blt 8 (catS rest) with
      | true => rw [hb] at h; cases h
      | false =>
        have hcs : catS rest ≤ 8 := Nat.not_lt.mp (fun q => by rw [show Nat.blt 8 (catS rest) = true from Nat.ble_eq_true_of_le q] at hb; cases hb)
        rw [hb] at h
        refine ⟨d', as, rest, rfl, h2, h3, hcs, ?_⟩
        cases h9 : Nat.beq y 9001 with
        | true =>
          rw [h9] at h
          dsimp only [cond_true, cond_false] at h
          split at h
          · rename_i mzc
            obtain ⟨g1, g2⟩ := bif_some h
            exact Or.inl ⟨Nat.eq_of_beq_eq_true h9, ⟨mzc, rfl, ltB g1⟩, g2⟩
          · cases h
        | false =>
          rw [h9] at h
          dsimp only [cond_true, cond_false] at h
          right
          cases h10 : Nat.beq y 9002 with
          | true =>
            rw [h10] at h
            dsimp only [cond_true, cond_false] at h
            split at h
            · rename_i mz0 mzs mz1 mzd mzm
              obtain ⟨g1, g2⟩ := bif_some h
              rw [Bool.and_eq_true] at g1
              exact Or.inl ⟨Nat.eq_of_beq_eq_true h10, mz0, mzs, mz1, mzd, mzm, rfl, g1.1, Nat.eq_of_beq_eq_true g1.2, g2⟩
            · cases h
          | false =>
            rw [h10] at h
            dsimp only [cond_true, cond_false] at h
            right
            cases h11 : Nat.blt 9002 y with
            | true =>
              rw [h11] at h
              dsimp only [cond_true] at h
              obtain ⟨w, g1, g2⟩ := prim_some h
              exact Or.inl ⟨⟨ltB h11, w, g1⟩, w, g1, g2⟩
            | false =>
              rw [h11] at h
              dsimp only [cond_true, cond_false] at h
              obtain ⟨g1, g2⟩ := bif_some h
              right
              refine ⟨g1, beqF h9, Nat.not_lt.mp (fun q => by rw [show Nat.blt 9002 y = true from Nat.ble_eq_true_of_le q] at h11; cases h11), beqF h10, ?_⟩
              unfold runM
              split at g2
              · cases g2
              · rename_i mzl he
                rw [he]
                dsimp only
                split at g2
                · cases g2
                · rename_i S1 hr
                  exact ⟨none, S1, hr, g2⟩
                · rename_i w S1 hr
                  exact ⟨some w, S1, hr, g2⟩
set_option maxHeartbeats 4000000 in
theorem run_inv {n d k pc : Nat} {ls : List (Option MV)} {st : List MV} {S : MS} {v : Option MV} {S' : MS} (h : run (n + 1) d k pc ls st S = some (v, S')) : ∃ E, ITf k pc = some E ∧ RIN n d k ls st S v S' E := by
  unfold run at h
  split at h
  · cases h
  · rename_i ins nx x y z sw hE
    refine ⟨_, hE, ?_⟩
    unfold RIN
    dsimp only
    split at h
    · split at h
      · rename_i hr
        cases h
        exact Or.inl ⟨Or.inl rfl, rfl, Or.inl ⟨rfl, rfl, hr, rfl⟩⟩
      · cases h
    · split at h
      · obtain ⟨g1, g2⟩ := bif_some h
        cases g2
        exact Or.inl ⟨Or.inr (Or.inl rfl), rfl, Or.inr ⟨_, rfl, rfl, g1, fun q => by cases q⟩⟩
      · cases h
    · split at h
      · obtain ⟨g1, g2⟩ := bif_some h
        cases g2
        exact Or.inl ⟨Or.inr (Or.inr (Or.inl rfl)), rfl, Or.inr ⟨_, rfl, rfl, g1, fun q => by cases q⟩⟩
      · cases h
    · split at h
      · obtain ⟨g1, g2⟩ := bif_some h
        cases g2
        exact Or.inl ⟨Or.inr (Or.inr (Or.inr rfl)), rfl, Or.inr ⟨_, rfl, rfl, g1, fun q => by cases q⟩⟩
      · cases h
    · exact Or.inr (Or.inl ⟨Or.inl ⟨_, rfl⟩, run_call (x := 0) h⟩)
    · exact Or.inr (Or.inl ⟨Or.inr (Or.inl ⟨_, rfl⟩), run_call (x := 0) h⟩)
    · exact Or.inr (Or.inl ⟨Or.inr (Or.inr ⟨_, rfl⟩), run_call (x := 0) h⟩)
    · obtain ⟨g1, g2⟩ := bif_some h
      exact Or.inr (Or.inr (Or.inl ⟨⟨_, rfl⟩, g1, g2⟩))
    · rename_i t
      split at h
      · rename_i m0 st2
        obtain ⟨g1, g2⟩ := bif_some h
        rw [Bool.and_eq_true, decide_eq_true_eq] at g1
        refine Or.inr (Or.inr (Or.inr (Or.inl ⟨t, rfl, g1.1, st2, by rw [g1.2], g2⟩)))
      · cases h
    · split at h
      · rename_i j
        split at h
        · obtain ⟨g1, g2⟩ := bif_some h
          rw [Bool.and_eq_true] at g1
          exact Or.inr (Or.inr (Or.inr (Or.inr (Or.inl ⟨⟨_, rfl⟩, j, rfl, _, _, _, rfl, g1.1, ltB g1.2, g2⟩))))
        · cases h
      · split at h
        · cases h
        · rename_i hs
          exact Or.inr (Or.inr (Or.inr (Or.inr (Or.inr ⟨_, _, _, _, hs, h⟩))))
    · split at h
      · cases h
      · rename_i hs
        exact Or.inr (Or.inr (Or.inr (Or.inr (Or.inr ⟨_, _, _, _, hs, h⟩))))
theorem c1_some {v : MV} {β : Type} {a : Option β} {r : β} (h : c1K none v a = some r) : a = some r := by
  unfold c1K at h
  split at h
  · cases h
  · exact h
set_option maxHeartbeats 4000000 in
theorem stpT_S {E : IE} {ls ls' : List (Option MV)} {st st' : List MV} {S S' : MS} {pc' : Nat} (h : stpT E ls st S = some (pc', ls', st', S')) : S'.1 = S.1 ∧ S'.2.1 = S.2.1 := by
  obtain ⟨ins, nx, x, y, z, sw⟩ := E
  cases ins <;> simp only [stpT, stp] at h
  all_goals first
    | (cases h; done)
    | (cases h; exact ⟨rfl, rfl⟩)
    | (split at h <;> first | (cases h; done) | (cases h; exact ⟨rfl, rfl⟩))
    | (obtain ⟨_, -, h2⟩ := getL_some h; split at h2 <;> first | (cases h2; done) | (cases h2; exact ⟨rfl, rfl⟩))
    | (obtain ⟨_, -, h2⟩ := getL_some h; split at h2 <;> first | (cases h2; done) | (obtain ⟨_, h3, -⟩ := setL_some h2; cases h3; exact ⟨rfl, rfl⟩))
    | (split at h <;> first | (cases h; done) | (obtain ⟨_, h2, -⟩ := setL_some h; cases h2; exact ⟨rfl, rfl⟩) | (obtain ⟨_, h2, -⟩ := setL2_some h; cases h2; exact ⟨rfl, rfl⟩))
    | (split at h <;> first | (cases h; done) | (split at h <;> first | (cases h; done) | (cases h; exact ⟨rfl, rfl⟩)))
    | (split at h <;> first | (cases h; done) | (rcases brc_some h with ⟨-, h⟩ | ⟨-, h⟩ <;> cases h <;> exact ⟨rfl, rfl⟩))
    | (split at h <;> first | (cases h; done) | (obtain ⟨_, h2, -⟩ := swK_some h; cases h2; exact ⟨rfl, rfl⟩))
    | (cases hq : Nat.beq y 0 <;> rw [hq] at h <;> cases h <;> exact ⟨rfl, rfl⟩)
    | (split at h <;> first | (cases h; done) | (have h := c1_some h; cases h; exact ⟨rfl, rfl⟩) | (have h := c1_some (c1_some h); cases h; exact ⟨rfl, rfl⟩) | (have h := c1_some (c1_some (c1_some h)); cases h; exact ⟨rfl, rfl⟩) | (cases h; exact ⟨rfl, rfl⟩))
    | (split at h <;> first | (cases h; done) | (obtain ⟨_, _, _, -, h2⟩ := kdK_some h; obtain ⟨-, h3⟩ := bif_some h2; first | (cases h3; exact ⟨rfl, rfl⟩) | (obtain ⟨-, h4⟩ := ite_some h3; cases h4; exact ⟨rfl, rfl⟩) | (rcases brc_some h3 with ⟨-, h4⟩ | ⟨-, h4⟩ <;> first | (cases h4; exact ⟨rfl, rfl⟩) | (rcases brc_some h4 with ⟨-, h5⟩ | ⟨-, h5⟩ <;> cases h5 <;> exact ⟨rfl, rfl⟩))))
    | (split at h <;> first | (cases h; done) | (obtain ⟨-, h2⟩ := bif_some h; obtain ⟨-, h3⟩ := ite_some h2; cases h3; exact ⟨rfl, rfl⟩))
    | skip
  · -- arraylength
    split at h
    · rename_i mzc _
      cases hq : Nat.blt mzc 1000 with
      | true =>
        rw [hq] at h
        dsimp only [cond_true] at h
        obtain ⟨_, _, _, -, h2⟩ := kdK_some h
        obtain ⟨-, h3⟩ := bif_some h2
        cases h3
        exact ⟨rfl, rfl⟩
      | false =>
        rw [hq] at h
        dsimp only [cond_false] at h
        cases hq2 : Nat.beq mzc 1000 with
        | true => rw [hq2] at h; cases h; exact ⟨rfl, rfl⟩
        | false =>
          rw [hq2] at h
          obtain ⟨-, h3⟩ := bif_some h
          cases h3
          exact ⟨rfl, rfl⟩
    · cases h
  · -- getfield
    split at h
    · rename_i mzc _
      cases hz : Nat.beq z 100 with
      | true =>
        rw [hz] at h
        dsimp only [cond_true] at h
        obtain ⟨-, h2⟩ := bif_some h
        cases hy : Nat.beq y 3 <;> rw [hy] at h2 <;> cases h2 <;> exact ⟨rfl, rfl⟩
      | false =>
        rw [hz] at h
        dsimp only [cond_false] at h
        obtain ⟨_, _, _, -, h2⟩ := kdK_some h
        obtain ⟨-, h3⟩ := bif_some h2
        split at h3
        · cases h3; exact ⟨rfl, rfl⟩
        · cases h3; exact ⟨rfl, rfl⟩
        · cases h3; exact ⟨rfl, rfl⟩
        · split at h3
          · cases h3; exact ⟨rfl, rfl⟩
          · cases h3
    · cases h
  · -- iaload
    split at h
    · rename_i mzi mzc _
      cases hq : Nat.blt mzc 1000 with
      | true =>
        rw [hq] at h
        dsimp only [cond_true] at h
        obtain ⟨_, _, _, -, h2⟩ := kdK_some h
        obtain ⟨-, h3⟩ := bif_some h2
        obtain ⟨-, h4⟩ := ite_some h3
        cases h4
        exact ⟨rfl, rfl⟩
      | false =>
        rw [hq] at h
        dsimp only [cond_false] at h
        cases hq2 : Nat.beq mzc 1000 with
        | true =>
          rw [hq2] at h
          obtain ⟨-, h4⟩ := ite_some h
          cases h4
          exact ⟨rfl, rfl⟩
        | false =>
          rw [hq2] at h
          obtain ⟨-, h3⟩ := bif_some h
          obtain ⟨-, h4⟩ := ite_some h3
          cases h4
          exact ⟨rfl, rfl⟩
    · cases h
/-- cells only come -/
theorem run_cnt : ∀ (n d k pc : Nat) (ls : List (Option MV)) (st : List MV) (S : MS) (v : Option MV) (S' : MS), run n d k pc ls st S = some (v, S') → S.1 ≤ S'.1 ∧ (S.1 ≤ 80 → S'.1 ≤ 80)
  | 0, d, k, pc, ls, st, S, v, S', h => by cases h
  | n + 1, d, k, pc, ls, st, S, v, S', h => by
    have ih := run_cnt n
    obtain ⟨⟨ins, nx, x, y, z, sw⟩, -, hR⟩ := run_inv h
    unfold RIN at hR
    dsimp only at hR
    rcases hR with ⟨-, h1, -⟩ | ⟨-, d', as, rest, -, -, -, -, hC⟩ | ⟨-, h1, h2⟩ | ⟨t, -, h1, st2, -, h2⟩ | ⟨-, j, -, w, c, st2, -, -, -, h2⟩ | ⟨pc2, ls2, st2, S1, h1, h2⟩
    · subst h1; exact ⟨Nat.le_refl _, id⟩
    · rcases hC with ⟨-, -, h2⟩ | ⟨-, c0, sp, c1, dp, m, -, -, -, h2⟩ | ⟨-, w, -, h2⟩ | ⟨-, -, -, -, r, S1, h1, h2⟩
      · exact ih _ _ _ _ _ _ _ _ h2
      · have a := ih _ _ _ _ _ _ _ _ h2
        exact a
      · exact ih _ _ _ _ _ _ _ _ h2
      · unfold runM at h1
        split at h1
        · cases h1
        · have a1 := ih _ _ _ _ _ _ _ _ h1
          have a2 := ih _ _ _ _ _ _ _ _ h2
          exact ⟨Nat.le_trans a1.1 a2.1, fun q => a2.2 (a1.2 q)⟩
    · obtain ⟨-, -, h80⟩ := isO_K h1
      have a := ih _ _ _ _ _ _ _ _ h2
      have a1 : S.1 + 1 ≤ S'.1 := a.1
      exact ⟨by omega, fun _ => a.2 (by show S.1 + 1 ≤ 80; omega)⟩
    · have h80 : S.1 < 80 := by
        cases t <;> first | (cases h1; done) | (obtain ⟨_, _, _, _, q⟩ := isA_K h1; exact q)
      have a := ih _ _ _ _ _ _ _ _ h2
      have a1 : S.1 + 1 ≤ S'.1 := a.1
      exact ⟨by omega, fun _ => a.2 (by show S.1 + 1 ≤ 80; omega)⟩
    · have a := ih _ _ _ _ _ _ _ _ h2
      exact a
    · have a := ih _ _ _ _ _ _ _ _ h2
      have e1 := (stpT_S h1).1
      rw [e1] at a
      exact a
theorem runM_cnt {n d k : Nat} {as : List MV} {S : MS} {v : Option MV} {S' : MS} (h : runM n d k as S = some (v, S')) : S.1 ≤ S'.1 ∧ (S.1 ≤ 80 → S'.1 ≤ 80) := by
  unfold runM at h
  split at h
  · cases h
  · exact run_cnt _ _ _ _ _ _ _ _ _ h
