/-! THE CLASS'S LAW: its steps run, losses laid by -/
theorem x32 {d : Nat} {s a b : Int} {I : ME} {Q : Option MV → ME → Prop} (h : Q (some (nt (lz_jn s a b))) I) : EvM d 32 [nt s, nt a, nt b] I Q := by
  unfold lz_jn at h
  refine EvM.go [] (T := T_32) rfl rfl rfl rfl ?_
  conv => whnf
  repeat' first
    | (refine nzI (by assumption) ?_; conv => whnf)
    | (refine brI (fun _ => ?_) (fun _ => ?_) <;> conv => whnf)
    | fail
  all_goals
    refine ⟨trivial, ?_⟩
    first
      | (rw [if_pos (by omega), if_pos (by omega)] at h; exact h)
      | (rw [if_pos (by omega), if_neg (by omega)] at h; exact h)
      | (rw [if_neg (by omega), if_pos (by omega), if_pos (by omega)] at h; exact h)
      | (rw [if_neg (by omega), if_pos (by omega), if_neg (by omega)] at h; exact h)
      | (rw [if_neg (by omega), if_neg (by omega), if_pos (by omega), if_pos (by omega)] at h; exact h)
      | (rw [if_neg (by omega), if_neg (by omega), if_pos (by omega), if_neg (by omega)] at h; exact h)
      | (rw [if_neg (by omega), if_neg (by omega), if_neg (by omega), if_pos (by omega), if_pos (by omega)] at h; exact h)
      | (rw [if_neg (by omega), if_neg (by omega), if_neg (by omega), if_pos (by omega), if_neg (by omega)] at h; exact h)
      | (rw [if_neg (by omega), if_neg (by omega), if_neg (by omega), if_neg (by omega), if_pos (by omega), if_pos (by omega)] at h; exact h)
      | (rw [if_neg (by omega), if_neg (by omega), if_neg (by omega), if_neg (by omega), if_pos (by omega), if_neg (by omega)] at h; exact h)
      | (rw [if_neg (by omega), if_neg (by omega), if_neg (by omega), if_neg (by omega), if_neg (by omega), if_pos (by omega)] at h; exact h)
      | (rw [if_neg (by omega), if_neg (by omega), if_neg (by omega), if_neg (by omega), if_neg (by omega), if_neg (by omega), if_pos (by omega)] at h; exact h)
      | (rw [if_neg (by omega), if_neg (by omega), if_neg (by omega), if_neg (by omega), if_neg (by omega), if_neg (by omega), if_neg (by omega), if_pos (by omega)] at h; exact h)
      | (rw [if_neg (by omega), if_neg (by omega), if_neg (by omega), if_neg (by omega), if_neg (by omega), if_neg (by omega), if_neg (by omega), if_neg (by omega), if_pos (by omega), if_pos (by omega)] at h; exact h)
      | (rw [if_neg (by omega), if_neg (by omega), if_neg (by omega), if_neg (by omega), if_neg (by omega), if_neg (by omega), if_neg (by omega), if_neg (by omega), if_pos (by omega), if_neg (by omega)] at h; exact h)
      | (rw [if_neg (by omega), if_neg (by omega), if_neg (by omega), if_neg (by omega), if_neg (by omega), if_neg (by omega), if_neg (by omega), if_neg (by omega), if_neg (by omega), if_pos (by omega)] at h; exact h)
      | (rw [if_neg (by omega), if_neg (by omega), if_neg (by omega), if_neg (by omega), if_neg (by omega), if_neg (by omega), if_neg (by omega), if_neg (by omega), if_neg (by omega), if_neg (by omega)] at h; exact h)
/-- a stack as it lies in a row -/
def skM (f : gF) : List Int → Prop
  | [] => True
  | a :: r => f (r.length : Int) = a ∧ skM f r
theorem skM_cg {f g : gF} : ∀ {st : List Int}, (∀ i, 0 ≤ i → i < (st.length : Int) → f i = g i) → skM f st → skM g st
  | [], _, _ => trivial
  | a :: r, h, hs => ⟨by rw [← h (r.length : Int) (by omega) (by rw [List.length_cons]; omega)]; exact hs.1, skM_cg (fun i i0 i1 => h i i0 (by rw [List.length_cons]; omega)) hs.2⟩
theorem lz_s1_len {nm : Int → Int} {c : Int} {st : List Int} (h : st.length ≤ 64) : (lz_s1 nm c st).length ≤ 64 := by
  unfold lz_s1
  split
  · split
    · rw [List.length_cons]; omega
    · exact h
  · split
    · split
      · exact h
      · decide
    · split
      · simp only [List.length_cons] at h ⊢; omega
      · exact h
theorem fr_tr {L : List Nat} {I J : ME} {c : Nat} {i v : Int} (h : Fr L I J) (hc : c ∈ L) : Fr L I (upd_ J c i v) := fr_up h hc
theorem x31 {d : Nat} {a b : Int} {I : ME} {Q : Option MV → ME → Prop} (hd : 2 ≤ d) (L : List Int) (ha : 0 ≤ a) (hb : b = a + L.length) (hb2 : b ≤ I 7 4) (hb3 : b ≤ 120) (hL : ∀ i : Nat, i < L.length → some (I 8 (a + i)) = L[i]?)
    (h : ∀ J, Fr [12] I J → Q (some (nt (lz_v (I 11) L))) J) : EvM d 31 [rf 7, nt a, nt b] I Q := by
  have key : ∀ (R : List Int) (i : Int) (st : List Int) (J : ME) (t : Option Int), 0 ≤ i → i + R.length = b → (∀ k : Nat, k < R.length → some (I 8 (i + k)) = R[k]?) → st.length ≤ 64 → skM (J 12) st → Fr [12] I J → (∀ J, Fr [12] I J → Q (some (nt ((lz_ex (I 11) R st).headD 0))) J) → Ev d 31 5 [some (rf 7), some (nt a), some (nt b), some (nt (st.length : Int)), some (nt i), t.map nt] [] J Q := by
    intro R
    induction R with
    | nil =>
      intro i st J t i0 hi hR hst hsk hF hQ
      have hi : i = b := by simpa using hi
      refine Ev.go [] (T := T_31) rfl rfl ?_
      cases t
      all_goals
        conv => whnf
        refine brI (fun _ => by exfalso; omega) (fun _ => ?_)
        conv => whnf
        cases st with
        | nil =>
          exact ⟨trivial, hQ J hF⟩
        | cons v r =>
          refine brI (fun _ => ?_) (fun p => by exfalso; rw [List.length_cons] at p; omega)
          conv => whnf
          have e : isb ((v :: r).length : Int) 1 = (r.length : Int) := by rw [List.length_cons] at hst ⊢; rw [isb_e (by omega)]; omega
          rw [e]
          rw [List.length_cons] at hst
          refine anI (by omega) ?_
          conv => whnf
          rw [hsk.1]
          exact ⟨trivial, hQ J hF⟩
    | cons c R ih =>
      intro i st J t i0 hi hR hst hsk hF hQ
      rw [List.length_cons] at hi
      have e7 : J 7 = I 7 := hF 7 (by decide)
      have e8 : J 8 i = c := by
        have := hR 0 (by rw [List.length_cons]; omega)
        rw [show i + ((0 : Nat) : Int) = i by omega] at this
        rw [hF 8 (by decide)]
        simpa using this
      have e11 : J 11 = I 11 := hF 11 (by decide)
      have next : ∀ (J' : ME) (t' : Option Int), Fr [12] I J' → skM (J' 12) (lz_s1 (I 11) c st) → Ev d 31 5 [some (rf 7), some (nt a), some (nt b), some (nt ((lz_s1 (I 11) c st).length : Int)), some (nt (i + 1)), t'.map nt] [] J' Q := fun J' t' hF' hsk' => by
        refine ih (i + 1) (lz_s1 (I 11) c st) J' t' (by omega) (by omega) (fun k hk => ?_) (lz_s1_len hst) hsk' hF' hQ
        have := hR (k + 1) (by rw [List.length_cons]; omega)
        rw [show i + 1 + (k : Int) = i + ((k + 1 : Nat) : Int) by omega, this]
        rfl
      have stp : lz_s1 (I 11) c st = lz_s1 (I 11) c st := rfl
      conv at stp => rhs; unfold lz_s1
      refine Ev.go [5] (T := T_31) rfl rfl ?_
      cases t
      all_goals
        conv => whnf
        refine brI (fun _ => ?_) (fun _ => by exfalso; omega)
        conv => whnf
        rw [e7]
        refine brI (fun _ => ?_) (fun _ => by exfalso; omega)
        conv => whnf
        refine anI (by omega) ?_
        conv => whnf
        rw [e8]
        refine brI (fun c1 => ?_) (fun c1 => ?_) <;> conv => whnf
        · -- below the names
          rw [if_neg (by omega)] at stp
          have un : c = -33 ∨ c = -126 → 0 < (st.length : Int) ∨ ¬ 0 < (st.length : Int) := fun _ => Classical.em _
          refine brI (fun c2 => ?_) (fun c2 => ?_) <;> conv => whnf
          · -- !
            rw [if_pos (Or.inl c2)] at stp
            cases st with
            | nil =>
              refine ⟨trivial, Ev.to ?_ rfl (next J (some c) hF (by rw [stp]; exact trivial))⟩
              rw [stp, iad_e (by omega)]; rfl
            | cons v r =>
              rw [List.length_cons] at hst
              refine brI (fun _ => ?_) (fun p => by exfalso; rw [List.length_cons] at p; omega)
              conv => whnf
              have e : isb ((v :: r).length : Int) 1 = (r.length : Int) := by rw [List.length_cons]; rw [isb_e (by omega)]; omega
              refine brI (fun c3 => by exfalso; omega) (fun c3 => ?_)
              conv => whnf
              rw [e]
              refine anI (by omega) ?_
              conv => whnf
              rw [hsk.1]
              have stp : lz_s1 (I 11) c (v :: r) = (if v = 0 then 1 else 0) :: r := by rw [stp]; simp only [if_neg c3]
              refine brI (fun v0 => ?_) (fun v0 => ?_) <;> conv => whnf
              all_goals
                refine anI (by omega) ?_
                conv => whnf
              · rw [if_pos v0] at stp
                refine ⟨trivial, Ev.to ?_ rfl (next (upd_ J 12 (r.length : Int) 1) (some c) (fr_up hF (by decide)) (by rw [stp]; exact ⟨up_eq _ _ _ _, skM_cg (fun x x0 x1 => by rw [up_ne (by omega)]) hsk.2⟩))⟩
                rw [stp, iad_e (by omega)]; rfl
              · rw [if_neg v0] at stp
                refine ⟨trivial, Ev.to ?_ rfl (next (upd_ J 12 (r.length : Int) 0) (some c) (fr_up hF (by decide)) (by rw [stp]; exact ⟨up_eq _ _ _ _, skM_cg (fun x x0 x1 => by rw [up_ne (by omega)]) hsk.2⟩))⟩
                rw [stp, iad_e (by omega)]; rfl
          · refine brI (fun c3 => ?_) (fun c3 => ?_) <;> conv => whnf
            · -- a minus ahead
              rw [if_pos (Or.inr c3)] at stp
              cases st with
              | nil =>
                refine ⟨trivial, Ev.to ?_ rfl (next J (some c) hF (by rw [stp]; exact trivial))⟩
                rw [stp, iad_e (by omega)]; rfl
              | cons v r =>
                rw [List.length_cons] at hst
                refine brI (fun _ => ?_) (fun p => by exfalso; rw [List.length_cons] at p; omega)
                conv => whnf
                have e : isb ((v :: r).length : Int) 1 = (r.length : Int) := by rw [List.length_cons]; rw [isb_e (by omega)]; omega
                refine brI (fun _ => ?_) (fun q => absurd c3 q)
                conv => whnf
                rw [e]
                refine anI (by omega) ?_
                conv => whnf
                refine anI (by omega) ?_
                conv => whnf
                rw [hsk.1]
                have stp : lz_s1 (I 11) c (v :: r) = ing v :: r := by rw [stp]; simp only [if_pos c3]
                refine ⟨trivial, Ev.to ?_ rfl (next (upd_ J 12 (r.length : Int) (ing v)) (some c) (fr_up hF (by decide)) (by rw [stp]; exact ⟨up_eq _ _ _ _, skM_cg (fun x x0 x1 => by rw [up_ne (by omega)]) hsk.2⟩))⟩
                rw [stp, iad_e (by omega)]; rfl
            · -- a sign between two
              rw [if_neg (by omega)] at stp
              match st, hst, hsk, stp, next with
              | [], hst, hsk, stp, next =>
                refine ⟨trivial, Ev.to ?_ rfl (next J (some c) hF (by rw [stp]; exact trivial))⟩
                rw [stp, iad_e (by omega)]; rfl
              | [v], hst, hsk, stp, next =>
                refine ⟨trivial, Ev.to ?_ rfl (next J (some c) hF (by rw [stp]; exact hsk))⟩
                rw [stp, iad_e (by omega)]; rfl
              | v :: w :: r, hst, hsk, stp, next =>
                rw [List.length_cons, List.length_cons] at hst
                have e0 : ((v :: w :: r).length : Int) = r.length + 2 := by rw [List.length_cons, List.length_cons]; omega
                refine brI (fun _ => ?_) (fun p => by exfalso; rw [e0] at p; omega)
                conv => whnf
                have e : iad ((v :: w :: r).length : Int) (-1) = (r.length : Int) + 1 := by rw [e0, iad_e (by omega)]; omega
                rw [e]
                have e2 : isb ((r.length : Int) + 1) 1 = r.length := by rw [isb_e (by omega)]; omega
                rw [e2]
                refine anI (by omega) ?_
                conv => whnf
                refine anI (by omega) ?_
                conv => whnf
                have h1 : J 12 ((r.length : Int) + 1) = v := by
                  have := hsk.1
                  rw [List.length_cons] at this
                  exact this
                rw [h1, hsk.2.1]
                refine ⟨by omega, x32 ?_⟩
                conv => whnf
                refine anI (by omega) ?_
                conv => whnf
                refine ⟨trivial, Ev.to ?_ rfl (next (upd_ J 12 (r.length : Int) (lz_jn (ing c) w v)) (some c) (fr_up hF (by decide)) (by rw [stp]; exact ⟨up_eq _ _ _ _, skM_cg (fun x x0 x1 => by rw [up_ne (by omega)]) hsk.2.2⟩))⟩
                rw [stp, iad_e (by omega)]; rfl
        · -- a number, or a name
          rw [if_pos (by omega)] at stp
          refine brI (fun c2 => ?_) (fun c2 => ?_) <;> conv => whnf
          · rw [if_pos (by omega)] at stp
            have e3 : iad (st.length : Int) 1 = ((st.length + 1 : Nat) : Int) := by rw [iad_e (by omega)]; rfl
            refine brI (fun c4 => ?_) (fun c4 => ?_) <;> conv => whnf
            · rw [if_neg (by omega)] at stp
              have e2 : isb (-1) c = -1 - c := isb_e (by omega)
              rw [e2]
              refine anI (by omega) ?_
              conv => whnf
              refine anI (by omega) ?_
              conv => whnf
              rw [e11]
              refine ⟨trivial, Ev.to ?_ rfl (next (upd_ J 12 (st.length : Int) (I 11 (-1 - c))) (some c) (fr_up hF (by decide)) (by rw [stp]; exact ⟨up_eq _ _ _ _, skM_cg (fun x x0 x1 => by rw [up_ne (by omega)]) hsk⟩))⟩
              rw [stp, iad_e (a := i) (by omega), e3, List.length_cons]; rfl
            · rw [if_pos (by omega)] at stp
              refine anI (by omega) ?_
              conv => whnf
              refine ⟨trivial, Ev.to ?_ rfl (next (upd_ J 12 (st.length : Int) c) (some c) (fr_up hF (by decide)) (by rw [stp]; exact ⟨up_eq _ _ _ _, skM_cg (fun x x0 x1 => by rw [up_ne (by omega)]) hsk⟩))⟩
              rw [stp, iad_e (a := i) (by omega), e3, List.length_cons]; rfl
          · rw [if_neg (by omega)] at stp
            refine ⟨trivial, Ev.to ?_ rfl (next J (some c) hF (by rw [stp]; exact hsk))⟩
            rw [stp, iad_e (by omega)]; rfl
  refine EvM.go [5] (T := T_31) rfl rfl rfl rfl ?_
  conv => whnf
  exact ⟨trivial, key L a [] I none ha hb.symm hL (by decide) trivial Fr.rfl' h⟩
