/-! THE MODEL'S LAW: a whole text -/
def cnL (nm : Int → Int) (L : lz_L) : Prop := ∃ q ∈ L, q.1 = [] ∨ lz_v nm q.1 ≠ 0
theorem lz_val_no {nm : Int → Int} : ∀ {L : lz_L}, ¬ cnL nm L → lz_val nm L = 0
  | [], _ => rfl
  | (c, e) :: r, h => by
    show (if c = [] ∨ lz_v nm c ≠ 0 then lz_v nm e else lz_val nm r) = 0
    rw [if_neg (fun q => h ⟨(c, e), List.mem_cons_self, q⟩)]
    exact lz_val_no (fun ⟨q, hq, hc⟩ => h ⟨q, List.mem_cons_of_mem _ hq, hc⟩)
theorem lz_val_app {nm : Int → Int} (l : List Int × List Int) : ∀ {L : lz_L}, (cnL nm L → lz_val nm (L ++ [l]) = lz_val nm L) ∧ (¬ cnL nm L → lz_val nm (L ++ [l]) = if l.1 = [] ∨ lz_v nm l.1 ≠ 0 then lz_v nm l.2 else 0)
  | [] => ⟨fun ⟨q, hq, _⟩ => (by cases hq), fun _ => rfl⟩
  | (c, e) :: r => by
    obtain ⟨i1, i2⟩ := lz_val_app (nm := nm) l (L := r)
    have e1 : lz_val nm ((c, e) :: r ++ [l]) = if c = [] ∨ lz_v nm c ≠ 0 then lz_v nm e else lz_val nm (r ++ [l]) := rfl
    have e2 : lz_val nm ((c, e) :: r) = if c = [] ∨ lz_v nm c ≠ 0 then lz_v nm e else lz_val nm r := rfl
    rw [e1, e2]
    constructor
    · rintro ⟨q, hq, hc⟩
      by_cases h : c = [] ∨ lz_v nm c ≠ 0
      · rw [if_pos h, if_pos h]
      · rw [if_neg h, if_neg h]
        refine i1 ⟨q, ?_, hc⟩
        rcases List.mem_cons.mp hq with rfl | hq
        · exact absurd hc h
        · exact hq
    · intro h
      rw [if_neg (fun q => h ⟨(c, e), List.mem_cons_self, q⟩)]
      exact i2 (fun ⟨q, hq, hc⟩ => h ⟨q, List.mem_cons_of_mem _ hq, hc⟩)
theorem cnL_app {nm : Int → Int} {L : lz_L} {l : List Int × List Int} : cnL nm (L ++ [l]) ↔ cnL nm L ∨ (l.1 = [] ∨ lz_v nm l.1 ≠ 0) := by
  constructor
  · rintro ⟨q, hq, hc⟩
    rcases List.mem_append.mp hq with hq | hq
    · exact Or.inl ⟨q, hq, hc⟩
    · rw [List.mem_singleton.mp hq] at hc; exact Or.inr hc
  · rintro (⟨q, hq, hc⟩ | hc)
    · exact ⟨q, List.mem_append_left _ hq, hc⟩
    · exact ⟨l, by simp, hc⟩
def wfM (I J : ME) : Prop := (∀ j, j < 14 ∨ 18 < j → J 53 j = I 53 j) ∧ Fr [53] I J
def txP (I : ME) (r : Bool × Nat × lz_L) (v : Int) (J : ME) : Prop := wfM I J ∧ (r.1 = true → J 53 17 = -1 ∧ v = lz_val (I 61) r.2.2) ∧ (r.1 = false → J 53 17 = (r.2.1 : Int))
def wkT (o : Option (Int × Int)) : List (Option MV) := match o with
  | none => [none, none]
  | some q => [some (nt q.1), some (nt q.2)]
set_option maxHeartbeats 4000000 in
theorem m220 {d n : Nat} {fr : Int} {b : Nat → Int} {I : ME} {Q : Option MV → ME → Prop} (hd : 60 ≤ d) (hb : (fr < 0 ∧ ∀ j : Nat, j < n → I 59 (j : Int) = b j) ∨ (fr = 0 ∧ ∀ j : Nat, j < n → I 60 (j : Int) = b j)) (hn : n ≤ 120) (h : ∀ v J, txP I (lz_T b n) v J → Q (some (nt v)) J) : EvM d 220 [rf 53, nt fr, nt (n : Int)] I Q := by
  have hE : evC (d - 1) 213 b n (lz_E b n) 36 0 := (law_C 6 (by decide)).2 (d - 1) (by omega)
  have w1 : ∀ {I0 J : ME}, wfM I I0 → evF I0 J → wfM I J := fun hI0 hJ => ⟨fun j hj => by rw [hJ.1 j (by omega) (by omega) (by omega)]; exact hI0.1 j hj, hI0.2.tr hJ.2⟩
  have finOK : ∀ (I0 J : ME) (gv gs mo : Int) (t : Option (Int × Int)) (L : lz_L), wfM I I0 → evF I0 J → evA b n I0 → evS J n 0 → lz_T b n = (true, n, L) → gs = lz_val (I 61) L → Ev d 220 107 (some (rf 53) :: some (nt fr) :: some (nt (n : Int)) :: some (nt gv) :: some (nt gs) :: some (nt mo) :: wkT t) [] J Q := by
    intro I0 J gv gs mo t L hI0 hF hA hS hT hg
    have e16 : J 53 16 = (n : Int) := (hA.mv hF).2.1
    refine Ev.go [] (T := T_220) rfl rfl ?_
    cases t
    all_goals
      conv => whnf
      rw [hS.2.1]
      conv => whnf
      rw [e16, hS.1]
      refine brI (fun q => by exfalso; omega) (fun q => ?_)
      conv => whnf
      exact ⟨trivial, h gs J ⟨w1 hI0 hF, fun _ => ⟨hS.2.1, by rw [hT]; exact hg⟩, fun z => by rw [hT] at z; cases z⟩⟩
  have finBad : ∀ (I0 J : ME) (gv gs mo : Int) (t : Option (Int × Int)) (a : Nat) (L : lz_L), wfM I I0 → evF I0 J → evA b n I0 → evS J a 0 → a < n → lz_T b n = (false, a, L) → Ev d 220 107 (some (rf 53) :: some (nt fr) :: some (nt (n : Int)) :: some (nt gv) :: some (nt gs) :: some (nt mo) :: wkT t) [] J Q := by
    intro I0 J gv gs mo t a L hI0 hF hA hS ha hT
    have e16 : J 53 16 = (n : Int) := (hA.mv hF).2.1
    refine Ev.go [] (T := T_220) rfl rfl ?_
    cases t
    all_goals
      conv => whnf
      rw [hS.2.1]
      conv => whnf
      rw [e16, hS.1]
      refine brI (fun q => ?_) (fun q => by exfalso; omega)
      conv => whnf
      refine ⟨by omega, m211 (fun _ => ?_) (fun z => by exfalso; rw [hS.2.1] at z; omega)⟩
      conv => whnf
      exact ⟨trivial, h 0 _ ⟨w1 hI0 (hF.up (Or.inr (Or.inl rfl))), fun z => (by rw [hT] at z; cases z), fun _ => by rw [up_eq, hT]; exact hS.1⟩⟩
  have finF : ∀ (I0 J : ME) (gv gs mo : Int) (t : Option (Int × Int)) (a : Nat) (L : lz_L), wfM I I0 → evF I0 J → J 53 17 = (a : Int) → lz_T b n = (false, a, L) → Ev d 220 107 (some (rf 53) :: some (nt fr) :: some (nt (n : Int)) :: some (nt gv) :: some (nt gs) :: some (nt mo) :: wkT t) [] J Q := by
    intro I0 J gv gs mo t a L hI0 hF ha hT
    refine Ev.go [] (T := T_220) rfl rfl ?_
    cases t
    all_goals
      conv => whnf
      refine brI (fun q => by exfalso; omega) (fun q => ?_)
      conv => whnf
      exact ⟨trivial, h gs J ⟨w1 hI0 hF, fun z => (by rw [hT] at z; cases z), fun _ => by rw [hT]; exact ha⟩⟩
  -- at a fault, from behind an expression on
  have flt : ∀ (I0 J : ME) (gv gs mo v hh : Int) (a : Nat) (L : lz_L), wfM I I0 → evF I0 J → J 53 17 = (a : Int) → lz_T b n = (false, a, L) → Ev d 220 74 [some (rf 53), some (nt fr), some (nt (n : Int)), some (nt gv), some (nt gs), some (nt mo), some (nt v), some (nt hh)] [] J Q := by
    intro I0 J gv gs mo v hh a L hI0 hF ha hT
    refine Ev.go [107] (T := T_220) rfl rfl ?_
    conv => whnf
    refine brI (fun q => by exfalso; omega) (fun q => ?_)
    conv => whnf
    refine ⟨by omega, m212x (by omega) ?_⟩
    conv => whnf
    exact ⟨trivial, finF I0 J gv gs 0 (some (v, hh)) a L hI0 hF ha hT⟩
  have loop : ∀ (I0 : ME), wfM I I0 → evA b n I0 → ∀ (m a : Nat) (L : lz_L) (gv gs : Int) (t : Option (Int × Int)) (J : ME), evF I0 J → evS J a 0 → a ≤ n → n + 1 ≤ m + a → lz_tx b n m a L = lz_T b n → (gv = 0 ∨ gv = 1) → (gv = 1 ↔ cnL (I 61) L) → gs = lz_val (I 61) L → Ev d 220 33 (some (rf 53) :: some (nt fr) :: some (nt (n : Int)) :: some (nt gv) :: some (nt gs) :: some (nt 1) :: wkT t) [] J Q := by
    intro I0 hI0 hA m
    have e61 : I0 61 = I 61 := hI0.2 61 (by decide)
    induction m with
    | zero => intro a L gv gs t J hF hS ha hm; exfalso; omega
    | succ m ih =>
      intro a L gv gs t J hF hS ha hm hT hg0 hg1 hgs
      have eT : lz_tx b n (m + 1) a L = (match lz_ln b n a with
        | (true, a', l) => bif decide (lz_by b n a' = 59) then lz_tx b n m (a' + 1) (L ++ [l]) else bif Nat.beq a' n then (true, a', L ++ [l]) else (false, a', [])
        | (false, a', _) => (false, a', [])) := rfl
      have eL : lz_ln b n a = (match lz_E b n a with
        | (true, a', c) => bif decide (lz_by b n a' = 63) then (match lz_E b n (a' + 1) with
            | (true, a2, c2) => (true, a2, (c, c2))
            | (false, a2, _) => (false, a2, ([], []))) else (true, a', ([], c))
        | (false, a', _) => (false, a', ([], []))) := rfl
      -- behind a line that is well
      have al : ∀ (J2 : ME) (a' : Nat) (l : List Int × List Int) (v hh : Int), a < a' → a' ≤ n → evF I0 J2 → evS J2 a' 0 → lz_V (I 61) l.2 v 36 → (hh = 0 ∨ hh = 1) → (hh = 1 ↔ (l.1 = [] ∨ lz_v (I 61) l.1 ≠ 0)) → lz_ln b n a = (true, a', l) → Ev d 220 74 [some (rf 53), some (nt fr), some (nt (n : Int)), some (nt gv), some (nt gs), some (nt 1), some (nt v), some (nt hh)] [] J2 Q := by
        intro J2 a' l v hh haa ha' hF2 hS2 hV hh0 hh1 hln
        rw [eT, hln] at hT
        have hlv : lz_v (I 61) l.2 = v := hV.v (by decide)
        -- the rest, by what is given then
        have rest : ∀ gv2 gs2 : Int, (gv2 = 0 ∨ gv2 = 1) → (gv2 = 1 ↔ cnL (I 61) (L ++ [l])) → gs2 = lz_val (I 61) (L ++ [l]) → Ev d 220 96 [some (rf 53), some (nt fr), some (nt (n : Int)), some (nt gv2), some (nt gs2), some (nt 1), some (nt v), some (nt hh)] [] J2 Q := by
          intro gv2 gs2 k0 k1 k2
          refine Ev.go [33, 107] (T := T_220) rfl rfl ?_
          conv => whnf
          refine ⟨by omega, m212 (by omega) (hA.mv hF2) hS2 (fun q => ?_) (fun q => ?_) (by omega)⟩ <;> conv => whnf
          · have hlt := lz_by_lt (b := b) (n := n) (a := a') (by omega)
            refine ⟨trivial, ih (a' + 1) (L ++ [l]) gv2 gs2 (some (v, hh)) _ (hF2.up (Or.inl rfl)) ⟨up_eq _ _ _ _, by rw [up_ne (by decide)]; exact hS2.2.1, by rw [up_ne (by decide)]; exact hS2.2.2⟩ (by omega) (by omega) ?_ k0 k1 k2⟩
            rw [← hT]
            show _ = bif decide (lz_by b n a' = 59) then _ else _
            rw [decide_eq_true q]; rfl
          · have hT2 : lz_T b n = bif Nat.beq a' n then (true, a', L ++ [l]) else (false, a', []) := by
              rw [← hT]
              show (bif decide (lz_by b n a' = 59) then _ else _) = _
              rw [decide_eq_false q]; rfl
            refine ⟨trivial, ?_⟩
            refine Ev.go [107] (T := T_220) rfl rfl ?_
            conv => whnf
            refine ⟨trivial, ?_⟩
            by_cases hq : a' = n
            · subst hq
              rw [Nat.beq_refl] at hT2
              exact finOK I0 J2 gv2 gs2 0 (some (v, hh)) (L ++ [l]) hI0 hF2 hA hS2 hT2 k2
            · have hb0 : Nat.beq a' n = false := by
                cases hz : Nat.beq a' n with
                | false => rfl
                | true => exact absurd (Nat.eq_of_beq_eq_true hz) hq
              rw [hb0] at hT2
              exact finBad I0 J2 gv2 gs2 0 (some (v, hh)) a' [] hI0 hF2 hA hS2 (by omega) hT2
        obtain ⟨v1, v2⟩ := lz_val_app (nm := I 61) l (L := L)
        have hcn := cnL_app (nm := I 61) (L := L) (l := l)
        refine Ev.go [96] (T := T_220) rfl rfl ?_
        conv => whnf
        rw [hS2.2.1]
        conv => whnf
        refine brI (fun z => ?_) (fun z => ?_) <;> conv => whnf
        · -- it doesn't hold
          refine ⟨trivial, rest gv gs hg0 ?_ ?_⟩
          · rw [hg1, hcn]
            exact ⟨Or.inl, fun x => x.resolve_right (fun y => by have := hh1.mpr y; omega)⟩
          · by_cases hc : cnL (I 61) L
            · rw [v1 hc]; exact hgs
            · rw [v2 hc, if_neg (fun y => by have := hh1.mpr y; omega), hgs, lz_val_no hc]
        · refine brI (fun y => ?_) (fun y => ?_) <;> conv => whnf
          · have hc : ¬ cnL (I 61) L := fun x => by have := hg1.mpr x; omega
            have hl := hh1.mp (by omega)
            refine ⟨trivial, rest 1 v (Or.inr rfl) ?_ ?_⟩
            · rw [hcn]; exact ⟨fun _ => Or.inr hl, fun _ => rfl⟩
            · rw [v2 hc, if_pos hl, hlv]
          · have hc : cnL (I 61) L := hg1.mp (by omega)
            refine ⟨trivial, rest gv gs hg0 ?_ ?_⟩
            · rw [hg1, hcn]; exact ⟨Or.inl, fun _ => hc⟩
            · rw [v1 hc]; exact hgs
      have hsub := hE J a (hA.mv hF) hS ha
      have hbd := lz_E_P (b := b) (n := n) ha
      refine Ev.go [74] (T := T_220) rfl rfl ?_
      have eJ61 : J 61 = I 61 := by rw [hF.2 61 (by decide), e61]
      cases t
      all_goals
        conv => whnf
        refine ⟨by omega, hsub.mono fun w J1 hw => ?_⟩
        obtain ⟨v1, rfl, hP⟩ := hw
        conv => whnf
        revert hP hbd eL
        match lz_E b n a with
        | (false, a1, c1) =>
          intro eL hbd hP
          obtain ⟨p1, -, p2⟩ := hP
          obtain ⟨p2, p3⟩ := p2 rfl
          have p2 : J1 53 17 = (a1 : Int) := p2
          refine ⟨by omega, m212x (by omega) ?_⟩
          conv => whnf
          exact ⟨trivial, flt I0 J1 gv gs 1 v1 1 a1 [] hI0 (hF.tr p1) p2 (by rw [← hT, eT, eL])⟩
        | (true, a1, c1) =>
          intro eL hbd hP
          obtain ⟨p1, p2, -⟩ := hP
          obtain ⟨p2, p3⟩ := p2 rfl
          have p2 : evS J1 a1 0 := p2
          rw [eJ61] at p3
          have p3 : lz_V (I 61) c1 v1 36 := p3
          obtain ⟨b1, b2, b3⟩ := hbd
          obtain ⟨b3, b4, b5⟩ := b3 rfl
          have b3 : a < a1 := b3
          have b2 : a1 ≤ n := b2
          have b5 : c1 ≠ [] := b5
          have hF1 := hF.tr p1
          have hv1 : lz_v (I 61) c1 = v1 := p3.v (by decide)
          refine ⟨by omega, m212 (by omega) (hA.mv hF1) p2 (fun q => ?_) (fun q => ?_) (by omega)⟩ <;> conv => whnf
          · have hlt := lz_by_lt (b := b) (n := n) (a := a1) (by omega)
            have hF1' : evF I0 (upd_ J1 53 15 ((a1 + 1 : Nat) : Int)) := hF1.up (Or.inl rfl)
            have hS1' : evS (upd_ J1 53 15 ((a1 + 1 : Nat) : Int)) (a1 + 1) 0 := ⟨up_eq _ _ _ _, by rw [up_ne (by decide)]; exact p2.2.1, by rw [up_ne (by decide)]; exact p2.2.2⟩
            have hsub2 := hE _ (a1 + 1) (hA.mv hF1') hS1' (by omega)
            have hbd2 := lz_E_P (b := b) (n := n) (a := a1 + 1) (by omega)
            have e61' : (upd_ J1 53 15 ((a1 + 1 : Nat) : Int)) 61 = I 61 := by rw [hF1'.2 61 (by decide), e61]
            have eL2 : lz_ln b n a = (match lz_E b n (a1 + 1) with
                | (true, a2, c2) => (true, a2, (c1, c2))
                | (false, a2, _) => (false, a2, ([], []))) := by
              rw [eL]
              show (bif decide (lz_by b n a1 = 63) then _ else _) = _
              rw [decide_eq_true q]; rfl
            have snd : ∀ hh : Int, (hh = 0 ∨ hh = 1) → (hh = 1 ↔ v1 ≠ 0) → EvM (d - 1) 213 [rf 53] (upd_ J1 53 15 ((a1 + 1 : Nat) : Int)) (fun w J2 => ∃ v, w = some (nt v) ∧ Ev d 220 74 [some (rf 53), some (nt fr), some (nt (n : Int)), some (nt gv), some (nt gs), some (nt 1), some (nt v), some (nt hh)] [] J2 Q) := by
              intro hh hh0 hh1
              refine hsub2.mono fun w J2 hw => ?_
              obtain ⟨v2, rfl, hP⟩ := hw
              refine ⟨v2, rfl, ?_⟩
              revert hP hbd2 eL2
              match lz_E b n (a1 + 1) with
              | (false, a2, c2) =>
                intro hbd2 eL2 hP
                obtain ⟨q1, -, q2⟩ := hP
                obtain ⟨q2, q3⟩ := q2 rfl
                exact flt I0 J2 gv gs 1 v2 hh a2 [] hI0 (hF1'.tr q1) q2 (by rw [← hT, eT, eL2])
              | (true, a2, c2) =>
                intro hbd2 eL2 hP
                obtain ⟨q1, q2, -⟩ := hP
                obtain ⟨q2, q3⟩ := q2 rfl
                rw [e61'] at q3
                obtain ⟨d1, d2, d3⟩ := hbd2
                have d1 : a1 + 1 ≤ a2 := d1
                have d2 : a2 ≤ n := d2
                refine al J2 a2 (c1, c2) v2 hh (by omega) d2 (hF1'.tr q1) q2 q3 hh0 ?_ eL2
                rw [hh1]
                show _ ↔ c1 = [] ∨ lz_v (I 61) c1 ≠ 0
                rw [hv1]
                exact ⟨Or.inr, fun x => x.resolve_left b5⟩
            refine brI (fun z => ?_) (fun z => ?_) <;> conv => whnf
            · refine ⟨by omega, (snd 0 (Or.inl rfl) (by omega)).mono fun w J2 hw => ?_⟩
              obtain ⟨v2, rfl, hw⟩ := hw
              conv => whnf
              exact ⟨trivial, hw⟩
            · refine ⟨by omega, (snd 1 (Or.inr rfl) (by omega)).mono fun w J2 hw => ?_⟩
              obtain ⟨v2, rfl, hw⟩ := hw
              conv => whnf
              exact ⟨trivial, hw⟩
          · refine ⟨trivial, al J1 a1 ([], c1) v1 1 b3 b2 hF1 p2 p3 (Or.inr rfl) ⟨fun _ => Or.inl rfl, fun _ => rfl⟩ ?_⟩
            rw [eL]
            show (bif decide (lz_by b n a1 = 63) then _ else _) = _
            rw [decide_eq_false q]; rfl
  refine EvM.go [33] (T := T_220) rfl rfl rfl rfl ?_
  conv => whnf
  have hA0 : evA b n (upd_ (upd_ (upd_ (upd_ (upd_ I 53 14 fr) 53 15 0) 53 16 (n : Int)) 53 17 (-1)) 53 18 0) := by
    unfold evA
    simp (disch := decide) only [up_eq, up_ne, up_c]
    exact ⟨hb, trivial, hn⟩
  have hw0 : wfM I (upd_ (upd_ (upd_ (upd_ (upd_ I 53 14 fr) 53 15 0) 53 16 (n : Int)) 53 17 (-1)) 53 18 0) := ⟨fun j hj => by rw [up_ne (by omega), up_ne (by omega), up_ne (by omega), up_ne (by omega), up_ne (by omega)], by repeat' first | exact Fr.rfl' | refine fr_up ?_ (by decide)⟩
  refine ⟨trivial, loop _ hw0 hA0 (n + 1) 0 [] 0 0 none _ evF.rf ⟨by simp (disch := decide) only [up_eq, up_ne]; rfl, by simp (disch := decide) only [up_eq, up_ne], by simp (disch := decide) only [up_eq]⟩ (by omega) (by omega) rfl (Or.inl rfl) ⟨fun z => (by omega), fun ⟨q, hq, _⟩ => (by cases hq)⟩ rfl⟩
