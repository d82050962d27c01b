/-! TICKETS FROM A ROW -/
def adC (I : ME) (t k : Int) : ME := upd_ (upd_ (upd_ (upd_ (upd_ I 3 (I 1 5) t) 4 (I 1 5) k) 5 (I 1 5) 0) 1 6 (iro (I 1 6) (isl 1 (I 1 5)))) 1 5 (iad (I 1 5) 1)
def adM (I : ME) (t k : Int) : ME := upd_ (upd_ (upd_ (upd_ (upd_ I 54 (48 + 3 * I 53 6) t) 54 (48 + 3 * I 53 6 + 1) k) 54 (48 + 3 * I 53 6 + 2) 0) 53 7 (iro (I 53 7) (isl 1 (I 53 6)))) 53 6 (I 53 6 + 1)
theorem adC_5 {I : ME} {t k : Int} (h : 0 ≤ I 1 5) (h2 : I 1 5 < 12) : adC I t k 1 5 = I 1 5 + 1 := by
  unfold adC; rw [up_eq, iad_e (by omega)]
theorem adC_F (I : ME) (t k : Int) : Fr [1, 3, 4, 5] I (adC I t k) := by
  unfold adC
  repeat' first | exact Fr.rfl' | refine fr_up ?_ (by decide)
theorem adM_6 (I : ME) (t k : Int) : adM I t k 53 6 = I 53 6 + 1 := by
  unfold adM; rw [up_eq]
theorem adM_F (I : ME) (t k : Int) : Fr [53, 54] I (adM I t k) := by
  unfold adM
  repeat' first | exact Fr.rfl' | refine fr_up ?_ (by decide)
theorem CI.add {ln : lz_L} {c : Int} {I : ME} {t k : Int} (h : CI ln c I) (hz : I 1 5 < 12) (ht : pT t) (hk : pH k) : CI ln c (adC I t k) := by
  obtain ⟨a, b, g, d, f, r, l, u, v⟩ := h
  have hi : iad (I 1 5) 1 = I 1 5 + 1 := iad_e (by have := a.1; omega)
  unfold CI adC
  simp (disch := omega) only [up_c, up_g, fu_eq, fu_ne]
  exact ⟨cA_add a hz ht hk, b, cC_sz g (by omega), cD_sz d (by omega), f, r, l, u, v⟩
theorem MR_.add {ln : lz_L} {C I : ME} {t k : Int} (h : MR_ ln C I) (h0 : 0 ≤ C 1 5) (hz : C 1 5 < 12) : MR_ ln (adC C t k) (adM I t k) := by
  obtain ⟨a, b, g, d, f, r, l⟩ := h
  unfold MR_ adC adM
  simp (disch := omega) only [up_c, up_g, fu_eq, fu_ne]
  exact ⟨mA_add a h0 hz, b, g, d, f, r, l⟩
def tkT (o : Option (Int × Int × Int)) : List (Option MV) := match o with
  | none => [none, none, none, none]
  | some q => [some (lg q.1), none, some (nt q.2.1), some (nt q.2.2)]
def tkF (s i n c : Int) (o : Option (Int × Int × Int)) : List (Option MV) := some (rf 0) :: some (nt s) :: some (nt i) :: some (nt n) :: some (nt c) :: tkT o
def gdC (J : ME) (s i c : Int) : Prop := 0 ≤ i + 2 * c ∧ i + 2 * c + 2 ≤ J 51 s ∧ pT (J 52 (60 * s + (i + 2 * c))) ∧ pH (J 52 (60 * s + (i + 2 * c + 1))) ∧ J 1 5 < 12
theorem x131_go {d : Nat} {s i n c : Int} {o : Option (Int × Int × Int)} {J : ME} {Q : Option MV → ME → Prop} (hd : 5 ≤ d) (hs : pP s) (h2 : J 48 s = 2) (hlen : ∀ s, rwC J s → J 51 s ≤ 60) (hi0 : -2147483648 ≤ i) (hi : i ≤ 2147483647) (hn : n ≤ 12) (c0 : 0 ≤ c) (cn : c ≤ n)
    (hz : 0 ≤ J 1 5) (hz2 : J 1 5 ≤ 12) (hby : ∀ x, 0 ≤ x → x < 60 → -128 ≤ J 52 (60 * s + x) ∧ J 52 (60 * s + x) ≤ 127)
    (k1 : c = n → Q (some (nt n)) J) (k2 : c < n → ¬ gdC J s i c → Q (some (nt c)) J) (k3 : c < n → gdC J s i c → ∀ o', Ev d 131 50 (tkF s i n (c + 1) o') [] (adC J (J 52 (60 * s + (i + 2 * c))) (J 52 (60 * s + (i + 2 * c + 1)))) Q) : Ev d 131 50 (tkF s i n c o) [] J Q := by
  have hl60 := hlen s ⟨hs, h2⟩
  have hb1 : 0 ≤ i + 2 * c → i + 2 * c < 60 → _ := fun a b => hby (i + 2 * c) a b
  have hb2 : 0 ≤ i + 2 * c + 1 → i + 2 * c + 1 < 60 → _ := fun a b => hby (i + 2 * c + 1) a b
  cases o
  all_goals
    refine Ev.go [50] (T := T_131) rfl rfl ?_
    conv => whnf
    refine brI (fun _ => ?_) (fun _ => ?_) <;> conv => whnf
    · simp (disch := omega) only [lml_e, lad_e]
      refine ⟨by omega, x96 (by omega) (by omega) (by omega) (fun p => ?_) (fun p => ?_)⟩ <;> conv => whnf
      · refine ⟨by omega, x99 (by omega) (by omega) hlen (fun q => ?_) (fun q => by exfalso; omega)⟩
        conv => whnf
        simp (disch := omega) only [lad_e]
        refine ⟨by omega, x99 (by omega) (by omega) hlen (fun q => ?_) (fun q => by exfalso; omega)⟩
        conv => whnf
        rw [show s * 60 + (i + 2 * c) = 60 * s + (i + 2 * c) by omega, show s * 60 + (i + 2 * c + 1) = 60 * s + (i + 2 * c + 1) by omega]
        have hb1 := hb1 (by omega) (by omega)
        have hb2 := hb2 (by omega) (by omega)
        simp (disch := omega) only [l2i_e]
        refine ⟨by omega, x130 (by omega) hz (fun r => ?_) (fun r => ?_) (fun r => ?_)⟩ <;> conv => whnf
        · exact ⟨trivial, k2 (by omega) (by unfold gdC; omega)⟩
        · exact ⟨trivial, k2 (by omega) (by unfold gdC; omega)⟩
        · refine brI (fun _ => by exfalso; omega) (fun _ => ?_)
          conv => whnf
          refine ⟨trivial, Ev.to ?_ rfl (k3 (by omega) (by unfold gdC; omega) (some (i + 2 * c, J 52 (60 * s + (i + 2 * c)), J 52 (60 * s + (i + 2 * c + 1)))))⟩
          rw [iad_e (by omega)]
          rfl
      · exact ⟨trivial, k2 (by omega) (by unfold gdC; omega)⟩
    · refine ⟨trivial, k1 (by omega)⟩
def tkN (I : ME) (s i : Int) : Nat → ME
  | 0 => I
  | c + 1 => adC (tkN I s i c) (I 52 (60 * s + (i + 2 * (c : Int)))) (I 52 (60 * s + (i + 2 * (c : Int) + 1)))
def tkL (I : ME) (J : ME) (s i : Int) : Nat → ME
  | 0 => I
  | c + 1 => adM (tkL I J s i c) (J 52 (60 * s + (i + 2 * (c : Int)))) (J 52 (60 * s + (i + 2 * (c : Int) + 1)))
theorem tkN_F (I : ME) (s i : Int) : ∀ c, Fr [1, 3, 4, 5] I (tkN I s i c)
  | 0 => Fr.rfl'
  | c + 1 => (tkN_F I s i c).tr (adC_F _ _ _)
theorem tkL_F (I J : ME) (s i : Int) : ∀ c, Fr [53, 54] I (tkL I J s i c)
  | 0 => Fr.rfl'
  | c + 1 => (tkL_F I J s i c).tr (adM_F _ _ _)
theorem tkN_5 {I : ME} {s i : Int} (h0 : 0 ≤ I 1 5) : ∀ c : Nat, I 1 5 + c ≤ 12 → tkN I s i c 1 5 = I 1 5 + c
  | 0, _ => by show I 1 5 = _; omega
  | c + 1, h => by
    have ih := tkN_5 (s := s) (i := i) h0 c (by omega)
    show adC (tkN I s i c) _ _ 1 5 = _
    rw [adC_5 (by omega) (by omega), ih]; omega
theorem tkL_6 (I J : ME) (s i : Int) : ∀ c : Nat, tkL I J s i c 53 6 = I 53 6 + c
  | 0 => by show I 53 6 = _; omega
  | c + 1 => by
    have ih := tkL_6 I J s i c
    show adM (tkL I J s i c) _ _ 53 6 = _
    rw [adM_6, ih]; omega
/-- so many come: each that comes is so, and the next one isn't -/
def tkH (I : ME) (s i n : Int) (m : Nat) : Prop := (m : Int) ≤ n ∧ (∀ c : Nat, c < m → gdC (tkN I s i c) s i c) ∧ ((m : Int) = n ∨ ¬ gdC (tkN I s i m) s i m)
theorem tkH_ex (I : ME) (s i n : Int) (hn : 0 ≤ n) : ∃ m, tkH I s i n m := by
  have key : ∀ j m : Nat, (m : Int) + j = n → (∀ c : Nat, c < m → gdC (tkN I s i c) s i c) → ∃ m, tkH I s i n m := by
    intro j
    induction j with
    | zero => intro m hm h; exact ⟨m, by omega, h, Or.inl (by omega)⟩
    | succ j ih =>
      intro m hm h
      by_cases hg : gdC (tkN I s i m) s i m
      · exact ih (m + 1) (by omega) (fun c hc => by
          by_cases hq : c = m
          · rw [hq]; exact hg
          · exact h c (by omega))
      · exact ⟨m, by omega, h, Or.inr hg⟩
  exact key n.toNat 0 (by omega) (fun c hc => by omega)
theorem x131 {d : Nat} {s i n : Int} {I : ME} {Q : Option MV → ME → Prop} (hd : 6 ≤ d) (hi0 : -2147483648 ≤ i) (hi : i ≤ 2147483647) (hz : 0 ≤ I 1 5) (hz2 : I 1 5 ≤ 12) (hlen : ∀ s, rwC I s → I 51 s ≤ 60)
    (hby : pP s → I 48 s = 2 → I 50 s = 0 → ∀ x, 0 ≤ x → x < 60 → -128 ≤ I 52 (60 * s + x) ∧ I 52 (60 * s + x) ≤ 127)
    (h0 : ¬ (pP s ∧ 1 ≤ n ∧ n ≤ 12) → Q (some (nt (-1))) I) (h1 : (pP s ∧ 1 ≤ n ∧ n ≤ 12) → I 48 s = 0 → Q (some (nt 0)) I) (h2 : (pP s ∧ 1 ≤ n ∧ n ≤ 12) → I 48 s ≠ 0 → ¬ (I 48 s = 2 ∧ I 50 s = 0) → Q (some (nt (-12))) I)
    (h3 : (pP s ∧ 1 ≤ n ∧ n ≤ 12) → I 48 s = 2 → I 50 s = 0 → ∀ m, tkH I s i n m → Q (some (nt (m : Int))) (tkN I s i m)) : EvM d 131 [rf 0, nt s, nt i, nt n] I Q := by
  have loop : (pP s ∧ 1 ≤ n ∧ n ≤ 12) → I 48 s = 2 → I 50 s = 0 → ∀ m, tkH I s i n m → ∀ j c : Nat, c + j = m → ∀ o, Ev d 131 50 (tkF s i n c o) [] (tkN I s i c) Q := by
    intro hp g2 g0 m hm j
    have hQ := h3 hp g2 g0 m hm
    obtain ⟨mn, hg, he⟩ := hm
    have hF : ∀ c : Nat, ∀ c', c' ≠ 1 → c' ≠ 3 → c' ≠ 4 → c' ≠ 5 → tkN I s i c c' = I c' := fun c c' a1 a2 a3 a4 => tkN_F I s i c c' (by simp; omega)
    have hz5 : ∀ c : Nat, c ≤ m → tkN I s i c 1 5 = I 1 5 + c ∧ I 1 5 + c ≤ 12 := by
      intro c
      induction c with
      | zero => intro _; exact ⟨tkN_5 hz 0 (by omega), by omega⟩
      | succ c ih =>
        intro hc
        have := ih (by omega)
        have g := (hg c (by omega)).2.2.2.2
        exact ⟨tkN_5 hz (c + 1) (by omega), by omega⟩
    induction j with
    | zero =>
      intro c hc o
      have hcm : c = m := by omega
      have h5 := hz5 c (by omega)
      refine x131_go (by omega) hp.1 (by rw [hF c 48 (by decide) (by decide) (by decide) (by decide)]; exact g2) (by unfold rwC; rw [hF c 48 (by decide) (by decide) (by decide) (by decide), hF c 51 (by decide) (by decide) (by decide) (by decide)]; exact hlen) hi0 hi hp.2.2 (by omega) (by omega) (by omega) (by omega) (by rw [hF c 52 (by decide) (by decide) (by decide) (by decide)]; exact hby hp.1 g2 g0) (fun e => ?_) (fun _ _ => ?_) (fun a b => ?_)
      · rw [← e, hcm]; exact hQ
      · rw [hcm]; exact hQ
      · exfalso
        subst hcm
        rcases he with e | e
        · omega
        · exact e b
    | succ j ih =>
      intro c hc o
      have h5 := hz5 c (by omega)
      refine x131_go (by omega) hp.1 (by rw [hF c 48 (by decide) (by decide) (by decide) (by decide)]; exact g2) (by unfold rwC; rw [hF c 48 (by decide) (by decide) (by decide) (by decide), hF c 51 (by decide) (by decide) (by decide) (by decide)]; exact hlen) hi0 hi hp.2.2 (by omega) (by omega) (by omega) (by omega) (by rw [hF c 52 (by decide) (by decide) (by decide) (by decide)]; exact hby hp.1 g2 g0) (fun e => by exfalso; omega) (fun _ b => absurd (hg c (by omega)) b) (fun a b o' => ?_)
      have := ih (c + 1) (by omega) o'
      rw [hF c 52 (by decide) (by decide) (by decide) (by decide)]
      exact this
  refine EvM.go [50] (T := T_131) rfl rfl rfl rfl ?_
  conv => whnf
  repeat' first
    | (refine brI (fun _ => ?_) (fun _ => ?_) <;> conv => whnf)
    | (refine ⟨by omega, x179 (fun _ => ?_) (fun _ => ?_)⟩ <;> conv => whnf)
    | (refine ⟨by omega, x90 (by omega) (fun _ => ?_) (fun _ => ?_)⟩ <;> conv => whnf)
    | (refine ⟨by omega, x92 (by omega) (fun _ => ?_) (fun _ => ?_)⟩ <;> conv => whnf)
    | fail
  all_goals first
    | exact ⟨trivial, h0 (by omega)⟩
    | exact ⟨trivial, h1 (by omega) (by omega)⟩
    | exact ⟨trivial, h2 (by omega) (by omega) (by omega)⟩
    | skip
  obtain ⟨m, hm⟩ := tkH_ex I s i n (by omega)
  exact ⟨trivial, loop (by omega) (by omega) (by omega) m hm m 0 (by omega) none⟩
