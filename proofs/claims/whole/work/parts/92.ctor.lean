/-! THE CONSTRUCTORS, run -/
def wrs : List (Nat × Int × Int) → ME → ME
  | [], I => I
  | (c, i, v) :: t, I => wrs t (upd_ I c i v)
def rws : List (Nat × Nat × Nat) → MR → MR
  | [], R => R
  | (c, i, v) :: t, R => rws t (updR R c i v)
def wA : List (Nat × Int × Int) := [(2, 0, 10), (2, 1, 10), (2, 2, 10), (2, 3, 10), (2, 4, 10), (2, 5, 10), (2, 6, 10), (2, 7, 10), (2, 8, 10), (2, 9, 10), (2, 10, 10), (2, 11, 10), (2, 12, 10), (2, 13, 10), (2, 14, 10), (2, 15, 10), (2, 16, 10), (2, 17, 10), (2, 18, 10), (2, 19, 10), (2, 20, 10), (2, 21, 10), (2, 22, 10), (2, 23, 10), (2, 24, 10), (2, 25, 10), (2, 26, 10), (2, 27, 10), (2, 28, 10), (2, 29, 10), (2, 30, 10), (2, 31, 10), (2, 32, 10), (2, 33, 10), (2, 34, 10), (2, 35, 10), (2, 36, 10), (2, 37, 10), (2, 38, 10), (2, 39, 10), (2, 40, 10), (2, 41, 10), (2, 42, 10), (2, 43, 10), (2, 44, 10), (2, 45, 10), (2, 46, 10), (2, 47, 10), (7, 4, 1), (8, 0, (-1)), (9, 0, 0), (7, 5, 1), (10, 0, 1)]
def wB : List (Nat × Int × Int) := [(76, 0, (-1)), (76, 1, (-1)), (76, 2, (-1)), (76, 3, (-1)), (76, 4, (-1)), (76, 5, (-1)), (53, 13, (-1)), (54, 0, 10), (54, 1, 10), (54, 2, 10), (54, 3, 10), (54, 4, 10), (54, 5, 10), (54, 6, 10), (54, 7, 10), (54, 8, 10), (54, 9, 10), (54, 10, 10), (54, 11, 10), (54, 12, 10), (54, 13, 10), (54, 14, 10), (54, 15, 10), (54, 16, 10), (54, 17, 10), (54, 18, 10), (54, 19, 10), (54, 20, 10), (54, 21, 10), (54, 22, 10), (54, 23, 10), (54, 24, 10), (54, 25, 10), (54, 26, 10), (54, 27, 10), (54, 28, 10), (54, 29, 10), (54, 30, 10), (54, 31, 10), (54, 32, 10), (54, 33, 10), (54, 34, 10), (54, 35, 10), (54, 36, 10), (54, 37, 10), (54, 38, 10), (54, 39, 10), (54, 40, 10), (54, 41, 10), (54, 42, 10), (54, 43, 10), (54, 44, 10), (54, 45, 10), (54, 46, 10), (54, 47, 10)]
def rA : List (Nat × Nat × Nat) := [(1, 0, 2), (1, 1, 3), (1, 2, 4), (1, 3, 5), (1, 4, 6), (0, 0, 1), (7, 1, 8), (7, 2, 9), (7, 3, 10), (7, 6, 11), (7, 7, 12), (7, 8, 13), (7, 0, 1), (0, 1, 7), (14, 1, 15), (14, 0, 7), (0, 2, 14), (16, 2, 17), (16, 3, 18), (16, 4, 19), (16, 0, 1), (16, 1, 7), (0, 3, 16), (20, 2, 21), (20, 3, 22), (20, 4, 23), (20, 0, 1), (20, 1, 7), (0, 4, 20), (24, 3, 25), (24, 4, 26), (24, 5, 27), (24, 6, 28), (24, 7, 29), (24, 8, 30), (24, 9, 31), (24, 10, 32), (24, 11, 33), (24, 0, 1), (24, 1, 16), (24, 2, 20), (0, 5, 24), (34, 2, 35), (34, 7, 36), (34, 8, 37), (34, 9, 38), (34, 0, 1), (34, 1, 16), (0, 6, 34), (39, 1, 40), (39, 2, 41), (39, 3, 42), (39, 4, 43), (39, 0, 1), (0, 7, 39), (44, 0, 45), (44, 1, 46), (0, 8, 44), (47, 0, 48), (47, 1, 49), (47, 2, 50), (47, 3, 51), (47, 4, 52), (0, 9, 47)]
def rB : List (Nat × Nat × Nat) := [(53, 0, 54), (53, 1, 55), (53, 2, 56), (53, 3, 57), (53, 9, 58), (53, 10, 59), (53, 12, 60), (53, 19, 61), (53, 22, 62), (53, 23, 63), (53, 24, 64), (53, 25, 65), (53, 27, 66), (53, 28, 67), (53, 30, 68), (53, 35, 69), (53, 40, 70), (53, 41, 71), (53, 42, 72), (53, 43, 73), (53, 45, 74), (53, 46, 75), (53, 50, 76), (53, 51, 77), (53, 52, 78), (53, 53, 79)]
set_option maxRecDepth 100000 in
set_option maxHeartbeats 16000000 in
theorem ctorA (f : Int → Int) : runM 2000 799 129 [.inr (.inr 0)] (1, rS, iS f) = some (none, (53, rws rA rS, wrs wA (iS f))) := rfl
set_option maxRecDepth 100000 in
set_option maxHeartbeats 16000000 in
theorem ctorB (R : MR) (I : ME) : runM 2000 799 190 [.inr (.inr 53)] (54, R, I) = some (none, (80, rws rB R, wrs wB I)) := rfl
def R1 : MR := rws rB (rws rA rS)
def I1 (f : Int → Int) : ME := wrs wB (wrs wA (iS f))
set_option maxRecDepth 100000 in
theorem okR1' : ∀ c, c < 80 → ∀ q ∈ RLL.getD c [], R1 c q.1 = some q.2 := by decide +kernel
theorem rws_mem {c j c' : Nat} : ∀ {L : List (Nat × Nat × Nat)} {R : MR}, rws L R c j = some c' → (c, j, c') ∈ L ∨ R c j = some c'
  | [], R, h => Or.inr h
  | (a, b, d) :: t, R, h => by
    rcases rws_mem (L := t) h with q | q
    · exact Or.inl (List.mem_cons_of_mem _ q)
    · unfold updR at q
      split at q
      · rename_i mzq
        cases q
        rw [mzq.1, mzq.2]
        exact Or.inl List.mem_cons_self
      · exact Or.inr q
theorem rAB : ∀ q ∈ rA ++ rB, q.1 < 80 ∧ (q.1 < 53 ↔ q.2.2 < 53) := by decide +kernel
theorem okR1 : okR R1 := by
  refine ⟨fun c q hq => ?_, fun c j c' h => ?_⟩
  · by_cases h : c < 80
    · exact okR1' c h q hq
    · rw [List.getD_eq_getElem?_getD, List.getElem?_eq_none (by show 80 ≤ c; omega)] at hq
      cases hq
  · rcases rws_mem h with q | q
    · exact rAB _ (List.mem_append_right _ q)
    · rcases rws_mem q with q | q
      · exact rAB _ (List.mem_append_left _ q)
      · cases q
theorem mz_run_le {n d k pc : Nat} {ls : List (Option MV)} {st : List MV} {S : MS} {r : Option MV × MS} (h : run n d k pc ls st S = some r) : ∀ j, run (n + j) d k pc ls st S = some r
  | 0 => h
  | j + 1 => run_mono _ _ _ _ _ _ _ _ (mz_run_le h j)
theorem mz_runM_le {n d k : Nat} {as : List MV} {S : MS} {r : Option MV × MS} (h : runM n d k as S = some r) (j : Nat) : runM (n + j) d k as S = some r := by
  unfold runM at h ⊢
  split
  · rename_i hq; rw [hq] at h; cases h
  · rename_i hq; rw [hq] at h; exact mz_run_le h j
/-- what's left: the law from its loop on -/
theorem law_from {f : Int → Int} {n0 : Nat} {v : Option MV} {S' : MS} (h18 : run n0 800 311 18 [some (.inr (.inr 1000)), some (.inr (.inr 0)), some (.inr (.inr 53)), some (.inl 0)] [] (80, R1, I1 f) = some (v, S')) :
    ∃ n, run n 800 311 0 [some (.inr (.inr 1000)), none, none, none] [] (0, rS, iS f) = some (v, S') := by
  have st : ∀ {n pc pc' : Nat} {E : IE} {ls ls' : List (Option MV)} {sk sk' : List MV} {S S1 : MS}, ITf 311 pc = some E → stpT E ls sk S = some (pc', ls', sk', S1) → run n 800 311 pc' ls' sk' S1 = some (v, S') → run (n + 1) 800 311 pc ls sk S = some (v, S') := by
    intro n pc pc' E ls ls' sk sk' S S1 h1 h2 h3
    refine run_intro h1 ?_
    obtain ⟨ins, nx, x, y, z, sw⟩ := E
    exact Or.inr (Or.inr (Or.inr (Or.inr (Or.inr ⟨_, _, _, _, h2, h3⟩))))
  have h17 := st (pc := 17) (ls := [some (.inr (.inr 1000)), some (.inr (.inr 0)), some (.inr (.inr 53)), none]) (sk := [.inl 0]) (S := (80, R1, I1 f)) rfl rfl h18
  have h16 := st (pc := 16) (ls := [some (.inr (.inr 1000)), some (.inr (.inr 0)), some (.inr (.inr 53)), none]) (sk := []) (S := (80, R1, I1 f)) rfl rfl h17
  have h15 := st (pc := 15) (ls := [some (.inr (.inr 1000)), some (.inr (.inr 0)), none, none]) (sk := [.inr (.inr 53)]) (S := (80, R1, I1 f)) rfl rfl h16
  have h12 : run (2000 + (n0 + 1 + 1 + 1) + 1) 800 311 12 [some (.inr (.inr 1000)), some (.inr (.inr 0)), none, none] [.inr (.inr 53), .inr (.inr 53)] (54, rws rA rS, wrs wA (iS f)) = some (v, S') := by
    refine run_intro rfl (Or.inr (Or.inl ⟨Or.inr (Or.inl ⟨_, rfl⟩), 799, [.inr (.inr 53)], [.inr (.inr 53)], rfl, rfl, rfl, by decide, Or.inr (Or.inr (Or.inr ⟨rfl, by decide, by decide, by decide, none, _, mz_runM_le (ctorB _ _) _, ?_⟩))⟩))
    have := mz_run_le h15 2000
    rw [Nat.add_comm] at this
    exact this
  have h11 := st (pc := 11) (ls := [some (.inr (.inr 1000)), some (.inr (.inr 0)), none, none]) (sk := [.inr (.inr 53)]) (S := (54, rws rA rS, wrs wA (iS f))) rfl rfl h12
  have h8 : run (2000 + (n0 + 1 + 1 + 1) + 1 + 1 + 1) 800 311 8 [some (.inr (.inr 1000)), some (.inr (.inr 0)), none, none] [] (53, rws rA rS, wrs wA (iS f)) = some (v, S') :=
    run_intro rfl (Or.inr (Or.inr (Or.inl ⟨⟨_, rfl⟩, rfl, h11⟩)))
  have h7 := st (pc := 7) (ls := [some (.inr (.inr 1000)), none, none, none]) (sk := [.inr (.inr 0)]) (S := (53, rws rA rS, wrs wA (iS f))) rfl rfl h8
  have h4 : run (2000 + (2000 + (n0 + 1 + 1 + 1) + 1 + 1 + 1 + 1) + 1) 800 311 4 [some (.inr (.inr 1000)), none, none, none] [.inr (.inr 0), .inr (.inr 0)] (1, rS, iS f) = some (v, S') := by
    refine run_intro rfl (Or.inr (Or.inl ⟨Or.inr (Or.inl ⟨_, rfl⟩), 799, [.inr (.inr 0)], [.inr (.inr 0)], rfl, rfl, rfl, by decide, Or.inr (Or.inr (Or.inr ⟨rfl, by decide, by decide, by decide, none, _, mz_runM_le (ctorA _) _, ?_⟩))⟩))
    have := mz_run_le h7 2000
    rw [Nat.add_comm] at this
    exact this
  have h3 := st (pc := 3) (ls := [some (.inr (.inr 1000)), none, none, none]) (sk := [.inr (.inr 0)]) (S := (1, rS, iS f)) rfl rfl h4
  exact ⟨_, run_intro (pc := 0) rfl (Or.inr (Or.inr (Or.inl ⟨⟨_, rfl⟩, rfl, h3⟩)))⟩
/-- the law, from its loop on, of every script -/
def LawEv : Prop := ∀ f : Int → Int, 0 ≤ f (-1) → f (-1) ≤ 3072 → (∀ j, IR (f j)) → Ev 800 311 18 [some (.inr (.inr 1000)), some (.inr (.inr 0)), some (.inr (.inr 53)), some (.inl 0)] [] (I1 f) (fun v _ => v = some (.inl 1))
theorem mz_whole (hLaw : LawEv) {p : Program} {e : Env} {s : State} {m : MethodId} {below : List Frame} {meth : Method} {c : Code} (l : Launch) {b L : Nat} {xs : Nat → Int32} (hL : L ≤ 3072) (C0 : lw_At p s m meth c b L xs) (hnm : meth.name = x.name) : W p l e room_1 s m #[Value.ref b] below meth c s.heap [] 0 0 (lw_Z below #[Value.ref b] s) (entryFrame m ([Value.ref b] : List Value).toArray 4) := by
  have eL : xF L xs (-1) = (L : Int) := by unfold xF; rw [if_pos (by decide)]
  obtain ⟨n0, v, I', h1, h2⟩ := hLaw (xF L xs) (by rw [eL]; omega) (by rw [eL]; omega) (xF_ir hL xs) R1 okR1
  subst h2
  obtain ⟨n, h⟩ := law_from h1
  exact mz_start l hL C0 hnm (S' := (80, R1, I')) (Nat.le_refl 80) h
