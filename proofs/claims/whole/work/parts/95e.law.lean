/-! THE LAW'S TEXT: how it is read, and what its steps come to -/
abbrev lz_R : Type := Bool × Nat × List Int
def lz_by (b : Nat → Int) (n a : Nat) : Int := bif Nat.blt a n then b a else 0
def lz_dig (c : Int) : Bool := decide (48 ≤ c) && decide (c ≤ 57)
def lz_num (b : Nat → Int) (n : Nat) : Nat → Nat → Int → Nat × Int
  | 0, a, v => (a, v)
  | k + 1, a, v => bif lz_dig (lz_by b n a) then lz_num b n k (a + 1) (v * 10 + lz_by b n a - 48) else (a, v)
def lz_nm (c : Int) : Int := if c = 118 then 0 else if c = 110 then 1 else if c = 103 then 2 else if c = 116 then 3 else if c = 107 then 4 else if c = 100 then 5 else -1
def lz_sg (j : Nat) (c : Int) : Bool := match j with
  | 0 => decide (c = 42) || decide (c = 47) || decide (c = 37)
  | 1 => decide (c = 43) || decide (c = 45)
  | 2 => decide (c = 60) || decide (c = 61) || decide (c = 62)
  | 3 => decide (c = 38)
  | _ => decide (c = 124)
def lz_lp (b : Nat → Int) (n : Nat) (f : Nat → lz_R) (j : Nat) : Nat → Nat → List Int → lz_R
  | 0, a, c => (true, a, c)
  | m + 1, a, c => bif lz_sg j (lz_by b n a) then (match f (a + 1) with
      | (true, a', c') => lz_lp b n f j m a' (c ++ c' ++ [-(lz_by b n a)])
      | (false, a', _) => (false, a', [])) else (true, a, c)
/-- how often a level may go on -/
def lz_mx (n j : Nat) : Nat := bif Nat.beq j 2 then 1 else n
def lz_ch (b : Nat → Int) (n : Nat) (f : Nat → lz_R) : Nat → Nat → lz_R
  | 0, a => f a
  | j + 1, a => match lz_ch b n f j a with
    | (true, a', c) => lz_lp b n (lz_ch b n f j) j (lz_mx n j) a' c
    | (false, a', _) => (false, a', [])
def lz_o1 (b : Nat → Int) (n : Nat) (a : Nat) (r : lz_R) : lz_R := match r with
  | (true, a', c') => bif decide (lz_by b n a' = 41) then (true, a' + 1, c') else (false, a', [])
  | (false, a', _) => (false, a', [])
def lz_o2 (c : Int) (r : lz_R) : lz_R := match r with
  | (true, a', c') => (true, a', c' ++ [bif decide (c = 33) then -33 else -126])
  | (false, a', _) => (false, a', [])
def lz_ob (b : Nat → Int) (n a : Nat) (r : lz_R) : lz_R :=
  bif lz_dig (lz_by b n a) then (true, (lz_num b n 4 a 0).1, [(lz_num b n 4 a 0).2])
  else bif decide (0 ≤ lz_nm (lz_by b n a)) then (true, a + 1, [-1 - lz_nm (lz_by b n a)]) else r
def lz_op (b : Nat → Int) (n : Nat) : Nat → Nat → lz_R
  | 0, a => lz_ob b n a (false, a, [])
  | k + 1, a => lz_ob b n a (bif decide (lz_by b n a = 40) then lz_o1 b n a (lz_ch b n (lz_op b n k) 5 (a + 1))
      else bif decide (lz_by b n a = 33) || decide (lz_by b n a = 45) then lz_o2 (lz_by b n a) (lz_op b n k (a + 1)) else (false, a, []))
def lz_E (b : Nat → Int) (n : Nat) (a : Nat) : lz_R := lz_ch b n (lz_op b n 6) 5 a
abbrev lz_L : Type := List (List Int × List Int)
def lz_ln (b : Nat → Int) (n a : Nat) : Bool × Nat × (List Int × List Int) := match lz_E b n a with
  | (true, a', c) => bif decide (lz_by b n a' = 63) then (match lz_E b n (a' + 1) with
      | (true, a2, c2) => (true, a2, (c, c2))
      | (false, a2, _) => (false, a2, ([], []))) else (true, a', ([], c))
  | (false, a', _) => (false, a', ([], []))
def lz_tx (b : Nat → Int) (n : Nat) : Nat → Nat → lz_L → Bool × Nat × lz_L
  | 0, a, _ => (false, a, [])
  | m + 1, a, L => match lz_ln b n a with
    | (true, a', l) => bif decide (lz_by b n a' = 59) then lz_tx b n m (a' + 1) (L ++ [l]) else bif Nat.beq a' n then (true, a', L ++ [l]) else (false, a', [])
    | (false, a', _) => (false, a', [])
/-- a text read: well or not, the place, its lines -/
def lz_T (b : Nat → Int) (n : Nat) : Bool × Nat × lz_L := lz_tx b n (n + 1) 0 []
-- steps
def lz_jn (s a b : Int) : Int :=
  if s = 124 then (if a = 0 ∧ b = 0 then 0 else 1) else if s = 38 then (if a = 0 ∨ b = 0 then 0 else 1)
  else if s = 60 then (if a < b then 1 else 0) else if s = 61 then (if a = b then 1 else 0) else if s = 62 then (if b < a then 1 else 0)
  else if s = 43 then iad a b else if s = 45 then isb a b else if s = 42 then iml a b
  else if s = 47 then (if b = 0 then 0 else idv a b) else (if b = 0 then 0 else irm a b)
def lz_s1 (nm : Int → Int) (c : Int) (st : List Int) : List Int :=
  if -6 ≤ c then (if st.length < 64 then (if 0 ≤ c then c else nm (-1 - c)) :: st else st)
  else if c = -33 ∨ c = -126 then (match st with
    | a :: r => (if c = -126 then ing a else if a = 0 then 1 else 0) :: r
    | [] => [])
  else (match st with
    | b :: a :: r => lz_jn (ing c) a b :: r
    | r => r)
def lz_ex (nm : Int → Int) : List Int → List Int → List Int
  | [], st => st
  | c :: cs, st => lz_ex nm cs (lz_s1 nm c st)
theorem lz_ex_app (nm : Int → Int) : ∀ (c c' st : List Int), lz_ex nm (c ++ c') st = lz_ex nm c' (lz_ex nm c st)
  | [], _, _ => rfl
  | x :: c, c', st => lz_ex_app nm c c' (lz_s1 nm x st)
def lz_v (nm : Int → Int) (c : List Int) : Int := (lz_ex nm c []).headD 0
/-- the steps leave v on top of any stack that has room -/
def lz_V (nm : Int → Int) (c : List Int) (v : Int) (D : Nat) : Prop := ∀ st : List Int, st.length + D ≤ 64 → lz_ex nm c st = v :: st
theorem lz_V.mono {nm : Int → Int} {c : List Int} {v : Int} {D D' : Nat} (h : lz_V nm c v D) (hD : D ≤ D') : lz_V nm c v D' := fun st hs => h st (by omega)
theorem lz_V.v {nm : Int → Int} {c : List Int} {v : Int} {D : Nat} (h : lz_V nm c v D) (hD : D ≤ 64) : lz_v nm c = v := by
  unfold lz_v
  rw [h [] (by show 0 + D ≤ 64; omega)]
  rfl
theorem lz_V_push {nm : Int → Int} {c : Int} (h : -6 ≤ c) : lz_V nm [c] (if 0 ≤ c then c else nm (-1 - c)) 1 := fun st hs => by
  show lz_s1 nm c st = _
  unfold lz_s1
  rw [if_pos h, if_pos (by omega)]
theorem lz_V_un {nm : Int → Int} {c : List Int} {v : Int} {D : Nat} {s : Int} (h : lz_V nm c v D) (hs : s = -33 ∨ s = -126) : lz_V nm (c ++ [s]) (if s = -126 then ing v else if v = 0 then 1 else 0) D := fun st hst => by
  rw [lz_ex_app, h st hst]
  show lz_s1 nm s (v :: st) = _
  unfold lz_s1
  rw [if_neg (by omega), if_pos hs]
theorem lz_V_bin {nm : Int → Int} {c c' : List Int} {v w : Int} {D D' : Nat} {s : Int} (h : lz_V nm c v D) (h' : lz_V nm c' w D') (hD : D' + 1 ≤ D) (hs : 6 < s ∧ s ≤ 125 ∧ s ≠ 33) : lz_V nm (c ++ c' ++ [-s]) (lz_jn s v w) D := fun st hst => by
  rw [lz_ex_app, lz_ex_app, h st hst, h' (v :: st) (by rw [List.length_cons]; omega)]
  show lz_s1 nm (-s) (w :: v :: st) = _
  unfold lz_s1
  rw [if_neg (by omega), if_neg (by omega)]
  show lz_jn (ing (-s)) v w :: st = _
  rw [ing_e (by omega), Int.neg_neg]
/-- a law's loss: the first line without a condition, or whose condition isn't 0 -/
def lz_val (nm : Int → Int) : lz_L → Int
  | [] => 0
  | (c, e) :: r => if c = [] ∨ lz_v nm c ≠ 0 then lz_v nm e else lz_val nm r
def lz_nms (v n g t k d : Int) : Int → Int := fun j => if j = 0 then v else if j = 1 then n else if j = 2 then g else if j = 3 then t else if j = 4 then k else d
def lz_cl (x : Int) : Int := imx (-99) (imn 99 x)
/-- what a drawn ticket costs: loves, lines, one, thing, held, lost, drawn -/
def lz_loss (ln : lz_L) (lv : Int → Int) (k th n g d : Int) : Int := lz_cl (lz_val (lz_nms (lv (8 * k + th)) n g th k d) ln)
theorem lz_cl_bd (x : Int) : -99 ≤ lz_cl x ∧ lz_cl x ≤ 99 := by
  unfold lz_cl imx imn
  split <;> split <;> omega
theorem lz_by_lt {b : Nat → Int} {n a : Nat} (h : lz_by b n a ≠ 0) : a < n := by
  unfold lz_by at h
  cases hq : Nat.blt a n with
  | true => exact ltB hq
  | false => rw [hq] at h; exact absurd rfl h
theorem lz_dig_nz {c : Int} (h : lz_dig c = true) : 48 ≤ c ∧ c ≤ 57 := by
  unfold lz_dig at h
  rw [Bool.and_eq_true, decide_eq_true_eq, decide_eq_true_eq] at h
  exact h
theorem lz_sg_nz {j : Nat} {c : Int} (h : lz_sg j c = true) : 6 < c ∧ c ≤ 125 ∧ c ≠ 33 := by
  unfold lz_sg at h
  split at h <;> simp only [Bool.or_eq_true, decide_eq_true_eq] at h <;> omega
theorem lz_nm_nz {c : Int} (h : 0 ≤ lz_nm c) : c ≠ 0 ∧ lz_nm c ≤ 5 := by
  unfold lz_nm at h ⊢
  repeat' split at h
  all_goals (constructor <;> (first | omega | skip))
  all_goals (repeat' split) <;> omega
def lz_P (n a : Nat) (r : lz_R) : Prop := a ≤ r.2.1 ∧ r.2.1 ≤ n ∧ (r.1 = true → a < r.2.1 ∧ r.2.2.length + a ≤ r.2.1 ∧ r.2.2 ≠ [])
theorem lz_num_bd {b : Nat → Int} {n : Nat} : ∀ (k a : Nat) (v : Int), a ≤ n → a ≤ (lz_num b n k a v).1 ∧ (lz_num b n k a v).1 ≤ n
  | 0, a, v, h => ⟨Nat.le_refl a, h⟩
  | k + 1, a, v, h => by
    unfold lz_num
    cases hd : lz_dig (lz_by b n a) with
    | false => exact ⟨Nat.le_refl a, h⟩
    | true =>
      have h1 := lz_dig_nz hd
      have h2 := lz_by_lt (b := b) (n := n) (a := a) (by omega)
      have h3 := lz_num_bd (b := b) k (a + 1) (v * 10 + lz_by b n a - 48) h2
      exact ⟨by have := h3.1; show a ≤ (lz_num b n k (a + 1) _).1; omega, h3.2⟩
theorem lz_lp_P {b : Nat → Int} {n : Nat} {f : Nat → lz_R} {j : Nat} (hf : ∀ a, a ≤ n → lz_P n a (f a)) : ∀ (m a a0 : Nat) (c : List Int), a ≤ n → a0 < a → c.length + a0 ≤ a → c ≠ [] → lz_P n a0 (lz_lp b n f j m a c)
  | 0, a, a0, c, h, h0, h1, h2 => ⟨by show a0 ≤ a; omega, h, fun _ => ⟨h0, h1, h2⟩⟩
  | m + 1, a, a0, c, h, h0, h1, h2 => by
    unfold lz_lp
    cases hs : lz_sg j (lz_by b n a) with
    | false => exact ⟨by show a0 ≤ a; omega, h, fun _ => ⟨h0, h1, h2⟩⟩
    | true =>
      have hz := lz_sg_nz hs
      have hlt := lz_by_lt (b := b) (n := n) (a := a) (by omega)
      have hp := hf (a + 1) (by omega)
      show lz_P n a0 (match f (a + 1) with
      | (true, a', c') => lz_lp b n f j m a' (c ++ c' ++ [-(lz_by b n a)])
      | (false, a', _) => (false, a', []))
      revert hp
      match f (a + 1) with
      | (true, a', c') =>
        intro hp
        obtain ⟨p1, p2, p3⟩ := hp
        obtain ⟨p3, p4, p5⟩ := p3 rfl
        refine lz_lp_P hf m a' a0 _ p2 ?_ ?_ (by simp)
        · have : a + 1 < a' := p3; omega
        · have : c'.length + (a + 1) ≤ a' := p4
          simp only [List.length_append, List.length_cons, List.length_nil]
          omega
      | (false, a', c') =>
        intro hp
        exact ⟨by have := hp.1; show a0 ≤ a'; have : a + 1 ≤ a' := hp.1; omega, hp.2.1, fun q => by cases q⟩
theorem lz_ch_P {b : Nat → Int} {n : Nat} {f : Nat → lz_R} (hf : ∀ a, a ≤ n → lz_P n a (f a)) : ∀ (j a : Nat), a ≤ n → lz_P n a (lz_ch b n f j a)
  | 0, a, h => hf a h
  | j + 1, a, h => by
    have ih := lz_ch_P (b := b) hf j
    have hp := ih a h
    show lz_P n a (match lz_ch b n f j a with
    | (true, a', c) => lz_lp b n (lz_ch b n f j) j (lz_mx n j) a' c
    | (false, a', _) => (false, a', []))
    revert hp
    match lz_ch b n f j a with
    | (true, a', c) =>
      intro hp
      obtain ⟨p1, p2, p3⟩ := hp
      obtain ⟨p3, p4, p5⟩ := p3 rfl
      exact lz_lp_P ih _ a' a c p2 p3 p4 p5
    | (false, a', c) =>
      intro hp
      exact ⟨hp.1, hp.2.1, fun q => by cases q⟩
theorem lz_ob_P {b : Nat → Int} {n a : Nat} {r : lz_R} (ha : a ≤ n) (h : lz_P n a r) : lz_P n a (lz_ob b n a r) := by
  unfold lz_ob
  cases hd : lz_dig (lz_by b n a) with
  | true =>
    have h1 := lz_dig_nz hd
    have h2 := lz_by_lt (b := b) (n := n) (a := a) (by omega)
    have e : lz_num b n 4 a 0 = lz_num b n 3 (a + 1) (0 * 10 + lz_by b n a - 48) := by
      show (bif lz_dig (lz_by b n a) then _ else _) = _
      rw [hd]; rfl
    have h3 := lz_num_bd (b := b) (n := n) 3 (a + 1) (0 * 10 + lz_by b n a - 48) h2
    rw [← e] at h3
    refine ⟨by show a ≤ (lz_num b n 4 a 0).1; omega, h3.2, fun _ => ⟨?_, ?_, by simp⟩⟩
    · show a < (lz_num b n 4 a 0).1; omega
    · show 1 + a ≤ (lz_num b n 4 a 0).1; omega
  | false =>
    cases hn : decide (0 ≤ lz_nm (lz_by b n a)) with
    | true =>
      have h1 := lz_nm_nz (of_decide_eq_true hn)
      have h2 := lz_by_lt h1.1
      exact ⟨Nat.le_succ a, h2, fun _ => ⟨Nat.lt_succ_self a, by show 1 + a ≤ a + 1; omega, by simp⟩⟩
    | false => exact h
theorem lz_op_P {b : Nat → Int} {n : Nat} : ∀ (k a : Nat), a ≤ n → lz_P n a (lz_op b n k a)
  | 0, a, h => lz_ob_P h ⟨Nat.le_refl a, h, fun q => by cases q⟩
  | k + 1, a, h => by
    have ih := lz_op_P (b := b) (n := n) k
    refine lz_ob_P h ?_
    cases h4 : decide (lz_by b n a = 40) with
    | true =>
      have hlt := lz_by_lt (b := b) (n := n) (a := a) (by rw [of_decide_eq_true h4]; decide)
      have hp := lz_ch_P (b := b) ih 5 (a + 1) hlt
      show lz_P n a (lz_o1 b n a (lz_ch b n (lz_op b n k) 5 (a + 1)))
      revert hp
      match lz_ch b n (lz_op b n k) 5 (a + 1) with
      | (true, a', c') =>
        intro hp
        obtain ⟨p1, p2, p3⟩ := hp
        obtain ⟨p3, p4, p5⟩ := p3 rfl
        have p3 : a + 1 < a' := p3
        have p4 : c'.length + (a + 1) ≤ a' := p4
        show lz_P n a (bif decide (lz_by b n a' = 41) then (true, a' + 1, c') else (false, a', []))
        cases h5 : decide (lz_by b n a' = 41) with
        | true =>
          have hl2 := lz_by_lt (b := b) (n := n) (a := a') (by rw [of_decide_eq_true h5]; decide)
          exact ⟨by show a ≤ a' + 1; omega, hl2, fun _ => ⟨by show a < a' + 1; omega, by show c'.length + a ≤ a' + 1; omega, p5⟩⟩
        | false => exact ⟨by show a ≤ a'; omega, p2, fun q => by cases q⟩
      | (false, a', c') =>
        intro hp
        exact ⟨by have : a + 1 ≤ a' := hp.1; show a ≤ a'; omega, hp.2.1, fun q => by cases q⟩
    | false =>
      cases h5 : (decide (lz_by b n a = 33) || decide (lz_by b n a = 45)) with
      | true =>
        have hlt := lz_by_lt (b := b) (n := n) (a := a) (by
          simp only [Bool.or_eq_true, decide_eq_true_eq] at h5
          omega)
        have hp := ih (a + 1) hlt
        show lz_P n a (lz_o2 (lz_by b n a) (lz_op b n k (a + 1)))
        revert hp
        match lz_op b n k (a + 1) with
        | (true, a', c') =>
          intro hp
          obtain ⟨p1, p2, p3⟩ := hp
          obtain ⟨p3, p4, p5⟩ := p3 rfl
          have p3 : a + 1 < a' := p3
          have p4 : c'.length + (a + 1) ≤ a' := p4
          refine ⟨by show a ≤ a'; omega, p2, fun _ => ⟨by show a < a'; omega, ?_, by show c' ++ [_] ≠ []; simp⟩⟩
          show (c' ++ [_]).length + a ≤ a'
          simp only [List.length_append, List.length_cons, List.length_nil]
          omega
        | (false, a', c') =>
          intro hp
          exact ⟨by have : a + 1 ≤ a' := hp.1; show a ≤ a'; omega, hp.2.1, fun q => by cases q⟩
      | false => exact ⟨Nat.le_refl a, h, fun q => by cases q⟩
theorem lz_E_P {b : Nat → Int} {n a : Nat} (h : a ≤ n) : lz_P n a (lz_E b n a) := lz_ch_P (fun a h => lz_op_P 6 a h) 5 a h
