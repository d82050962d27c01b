/-! THE CLASS'S LOSS BY A TICKET -/
theorem lz_s1_cg {nm nm' : Int → Int} (h : ∀ j, 0 ≤ j → j ≤ 5 → nm j = nm' j) (c : Int) (st : List Int) : lz_s1 nm c st = lz_s1 nm' c st := by
  unfold lz_s1
  by_cases h1 : -6 ≤ c
  · rw [if_pos h1, if_pos h1]
    by_cases h2 : 0 ≤ c
    · rw [if_pos h2, if_pos h2]
    · rw [if_neg h2, if_neg h2, h (-1 - c) (by omega) (by omega)]
  · rw [if_neg h1, if_neg h1]
theorem lz_ex_cg {nm nm' : Int → Int} (h : ∀ j, 0 ≤ j → j ≤ 5 → nm j = nm' j) : ∀ (L st : List Int), lz_ex nm L st = lz_ex nm' L st
  | [], _ => rfl
  | c :: L, st => by
    show lz_ex nm L (lz_s1 nm c st) = lz_ex nm' L (lz_s1 nm' c st)
    rw [lz_s1_cg h, lz_ex_cg h L]
theorem lz_v_cg {nm nm' : Int → Int} (h : ∀ j, 0 ≤ j → j ≤ 5 → nm j = nm' j) (L : List Int) : lz_v nm L = lz_v nm' L := by
  unfold lz_v
  rw [lz_ex_cg h]
theorem lz_val_cg {nm nm' : Int → Int} (h : ∀ j, 0 ≤ j → j ≤ 5 → nm j = nm' j) : ∀ ln : lz_L, lz_val nm ln = lz_val nm' ln
  | [] => rfl
  | (c, e) :: r => by
    show (if c = [] ∨ lz_v nm c ≠ 0 then lz_v nm e else lz_val nm r) = (if c = [] ∨ lz_v nm' c ≠ 0 then lz_v nm' e else lz_val nm' r)
    rw [lz_v_cg h c, lz_v_cg h e, lz_val_cg h r]
theorem isr8 {e : Int} (h0 : 0 ≤ e) (h1 : e ≤ 2147483647) : isr e 8 = e / 256 := by
  have := isr_nat (s := e.toNat) (k := 8) (by omega) (by omega)
  rw [show ((e.toNat : Nat) : Int) = e by omega, show ((8 : Nat) : Int) = 8 from rfl, Nat.shiftRight_eq_div_pow] at this
  rw [this]
  omega
theorem ian255 {e : Int} (h0 : 0 ≤ e) (h1 : e ≤ 2147483647) : ian e 255 = e % 256 := by
  have := ian_nat (a := e.toNat) (b := 255) (by omega) (by omega)
  rw [show ((e.toNat : Nat) : Int) = e by omega, show ((255 : Nat) : Int) = 255 from rfl, Nat.and_two_pow_sub_one_eq_mod (n := 8)] at this
  rw [this]
  omega
theorem isl8 {s : Int} (h0 : 0 ≤ s) (h1 : s ≤ 100000) : isl s 8 = s * 256 := by
  unfold isl
  show (Int32.ofInt s <<< (Int32.ofInt 8 &&& 31)).toBitVec.toInt = _
  have ha := sh_amt ⟨8, by decide⟩
  rw [show (((⟨8, by decide⟩ : Fin 32).val : Nat) : Int) = 8 from rfl] at ha
  rw [Int32.toBitVec_shiftLeft, ha]
  have hb := bv_nat (a := s.toNat) (by omega)
  rw [show ((s.toNat : Nat) : Int) = s by omega] at hb
  have e : ((Int32.ofInt s).toBitVec <<< BitVec.ofNat 32 (⟨8, by decide⟩ : Fin 32).val).toNat = s.toNat * 256 := by
    rw [BitVec.shiftLeft_eq', BitVec.toNat_shiftLeft, hb, BitVec.toNat_ofNat]
    show s.toNat <<< 8 % 2 ^ 32 = _
    rw [Nat.shiftLeft_eq]
    omega
  rw [i32_nat e (by omega)]
  omega
theorem iro_lo {a b : Int} (h0 : 0 ≤ a) (h1 : a ≤ 100000) (g0 : 0 ≤ b) (g1 : b < 256) : iro (a * 256) b = a * 256 + b := by
  have := iro_nat (a := a.toNat * 256) (b := b.toNat) (by omega) (by omega)
  rw [show ((a.toNat * 256 : Nat) : Int) = a * 256 by omega, show ((b.toNat : Nat) : Int) = b by omega] at this
  rw [this]
  have e := Nat.two_pow_add_eq_or_of_lt (i := 8) (b := b.toNat) (show b.toNat < 2 ^ 8 by omega) a.toNat
  rw [show a.toNat * 256 = 2 ^ 8 * a.toNat by omega, ← e]
  omega
theorem imx_cl (x : Int) : imx (-99) (imn 99 x) = lz_cl x := rfl
/-- the place of a loss that is laid by -/
theorem kn_inj {k th g d k' th' g' d' : Int} (a : pP k) (b : pT th) (c : 0 ≤ g) (c2 : g ≤ 8) (e : 0 ≤ d) (e2 : d ≤ 12) (a' : pP k') (b' : pT th') (c' : 0 ≤ g') (c2' : g' ≤ 8) (e' : 0 ≤ d') (e2' : d' ≤ 12)
    (h : ((k * 8 + th) * 9 + g) * 13 + d = ((k' * 8 + th') * 9 + g') * 13 + d') : k = k' ∧ th = th' ∧ g = g' ∧ d = d' := by
  have h1 : (k * 8 + th) * 9 + g = (k' * 8 + th') * 9 + g' := by omega
  have h2 : k * 8 + th = k' * 8 + th' := by omega
  omega
set_option maxHeartbeats 4000000 in
theorem x30 {d : Nat} {ln : lz_L} {k th n g dd T : Int} {I : ME} {Q : Option MV → ME → Prop} (hd : 4 ≤ d) (hL : cL ln (I 7 4) (I 7 5) (I 8) (I 9) (I 10)) (hT : T = I 7 9 + I 1 8) (hT0 : 0 ≤ I 7 9 ∧ 0 ≤ I 1 8 ∧ T ≤ 600) (hK : cK ln (I 2) T (I 13))
    (hk : pP k) (ht : pT th) (hn : 0 ≤ n ∧ n ≤ 12) (hg : 0 ≤ g ∧ g ≤ 8) (hdd : 0 ≤ dd ∧ dd ≤ 12)
    (h : ∀ J, Fr [11, 12, 13] I J → cK ln (I 2) T (J 13) → Q (some (nt (lz_loss ln (I 2) k th n g dd))) J) : EvM d 30 [rf 7, nt k, nt th, nt n, nt g, nt dd] I Q := by
  obtain ⟨s1, s2, s3, s4, s5, s6, s7, s8⟩ := hL
  have hKp := hK k th g dd hk ht hg.1 hg.2 hdd.1 hdd.2
  have ePl : iad (iml (iad (iml (iad (iml k 8) th) 9) g) 13) dd = ((k * 8 + th) * 9 + g) * 13 + dd := by
    simp (disch := omega) only [iad_e, iml_e]
  have eSt : iad (iad (iml (iad (I 7 9) (I 1 8)) 16) n) 1 = T * 16 + n + 1 := by
    rw [iad_e (a := I 7 9) (by omega), ← hT, iml_e (by omega), iad_e (a := T * 16) (b := n) (by omega), iad_e (by omega)]
  -- from the end of the lines on
  have tail : ∀ (N J : ME) (v b' c' i' : Int), Fr [11] I N → Fr [12] N J → v = lz_val (lz_nms (I 2 (8 * k + th)) n g th k dd) ln → Ev d 30 275 [some (rf 7), some (nt k), some (nt th), some (nt n), some (nt g), some (nt dd), some (nt (((k * 8 + th) * 9 + g) * 13 + dd)), some (nt (T * 16 + n + 1)), some (nt b'), some (nt v), some (nt c'), some (nt i')] [] J Q := by
    intro N J v b' c' i' hN hJ hv
    have hcl := lz_cl_bd v
    refine Ev.go [] (T := T_30) rfl rfl ?_
    conv => whnf
    refine ⟨by omega, ?_⟩
    conv => whnf
    refine ⟨by omega, ?_⟩
    conv => whnf
    rw [imx_cl, isl8 (by omega) (by omega), iad_e (a := lz_cl v) (by omega), iro_lo (by omega) (by omega) (by omega) (by omega)]
    refine anI (by omega) ?_
    conv => whnf
    have e13 : J 13 = I 13 := by rw [hJ 13 (by decide), hN 13 (by decide)]
    have hfr : Fr [11, 12, 13] I (upd_ J 13 (((k * 8 + th) * 9 + g) * 13 + dd) ((T * 16 + n + 1) * 256 + (lz_cl v + 128))) := by
      intro c hc
      have hc' : c ≠ 11 ∧ c ≠ 12 ∧ c ≠ 13 := by simpa using hc
      rw [up_c hc'.2.2, hJ c (by simp; exact hc'.2.1), hN c (by simp; exact hc'.1)]
    have hloss : lz_cl v = lz_loss ln (I 2) k th n g dd := by rw [hv]; rfl
    refine ⟨trivial, ?_⟩
    rw [hloss]
    refine h _ (hloss ▸ hfr) ?_
    intro k' th' g' d' a b c e f j
    by_cases hq : ((k' * 8 + th') * 9 + g') * 13 + d' = ((k * 8 + th) * 9 + g) * 13 + dd
    · obtain ⟨q1, q2, q3, q4⟩ := kn_inj a b c e f j hk ht hg.1 hg.2 hdd.1 hdd.2 hq
      rw [hq, up_eq]
      rw [hloss] at hcl
      refine ⟨by omega, by omega, fun n' n0 n1 hn' => ?_⟩
      have : n' = n := by omega
      rw [q1, q2, q3, q4, this]
      omega
    · rw [up_ne hq, e13]
      exact hK k' th' g' d' a b c e f j
  have lines : ∀ (N : ME), Fr [11] I N → (∀ j, 0 ≤ j → j ≤ 5 → N 11 j = lz_nms (I 2 (8 * k + th)) n g th k dd j) → ∀ (r : lz_L) (i a : Nat) (J : ME), (i + r.length = ln.length) → lz_ends (I 9) (I 10) r i a → a + (lz_code r).length = (lz_code ln).length → (∀ x, x < (lz_code r).length → some (I 8 ((a + x : Nat) : Int)) = (lz_code r)[x]?) → (∀ q ∈ r, q.2 ≠ []) → Fr [12] N J → lz_val (lz_nms (I 2 (8 * k + th)) n g th k dd) r = lz_val (lz_nms (I 2 (8 * k + th)) n g th k dd) ln → Ev d 30 186 [some (rf 7), some (nt k), some (nt th), some (nt n), some (nt g), some (nt dd), some (nt (((k * 8 + th) * 9 + g) * 13 + dd)), some (nt (T * 16 + n + 1)), some (nt (a : Int)), some (nt 0), some (nt 0), some (nt (i : Int))] [] J Q := by
    intro N hN hnm r
    induction r with
    | nil =>
      intro i a J hi hE hlen hcode hne hJ hval
      have e7 : J 7 = I 7 := by rw [hJ 7 (by decide), hN 7 (by decide)]
      refine Ev.go [275] (T := T_30) rfl rfl ?_
      conv => whnf
      rw [e7]
      refine brI (fun p => by exfalso; rw [List.length_nil] at hi; omega) (fun _ => ?_)
      conv => whnf
      exact ⟨trivial, tail N J 0 _ _ _ hN hJ hval⟩
    | cons q r ih =>
      obtain ⟨c, e⟩ := q
      intro i a J hi hE hlen hcode hne hJ hval
      rw [List.length_cons] at hi
      obtain ⟨E1, E2, E3⟩ := hE
      have hcl : (lz_code ((c, e) :: r)).length = c.length + e.length + (lz_code r).length := by
        show (c ++ e ++ lz_code r).length = _
        rw [List.length_append, List.length_append]
      have e7 : J 7 = I 7 := by rw [hJ 7 (by decide), hN 7 (by decide)]
      have e9 : J 9 = I 9 := by rw [hJ 9 (by decide), hN 9 (by decide)]
      have e10 : J 10 = I 10 := by rw [hJ 10 (by decide), hN 10 (by decide)]
      have e8 : J 8 = I 8 := by rw [hJ 8 (by decide), hN 8 (by decide)]
      have e11 : J 11 = N 11 := hJ 11 (by decide)
      have hcc : ∀ x : Nat, x < c.length → some (I 8 ((a : Int) + x)) = c[x]? := fun x hx => by
        have := hcode x (by omega)
        rw [show ((a : Int) + (x : Int)) = ((a + x : Nat) : Int) from rfl, this]
        show (c ++ e ++ lz_code r)[x]? = _
        rw [List.append_assoc, List.getElem?_append_left hx]
      have hce : ∀ x : Nat, x < e.length → some (I 8 (((a + c.length : Nat) : Int) + x)) = e[x]? := fun x hx => by
        have := hcode (c.length + x) (by omega)
        rw [show (((a + c.length : Nat) : Int) + (x : Int)) = ((a + (c.length + x) : Nat) : Int) by omega, this]
        show (c ++ e ++ lz_code r)[c.length + x]? = _
        rw [List.append_assoc, List.getElem?_append_right (by omega), show c.length + x - c.length = x by omega, List.getElem?_append_left hx]
      have hcr : ∀ x, x < (lz_code r).length → some (I 8 ((a + c.length + e.length + x : Nat) : Int)) = (lz_code r)[x]? := fun x hx => by
        have := hcode (c.length + e.length + x) (by omega)
        rw [show a + (c.length + e.length + x) = a + c.length + e.length + x by omega] at this
        rw [this]
        show (c ++ e ++ lz_code r)[c.length + e.length + x]? = _
        rw [List.getElem?_append_right (by rw [List.length_append]; omega), List.length_append, show c.length + e.length + x - (c.length + e.length) = x by omega]
      have hvc := lz_v_cg hnm c
      have hve := lz_v_cg hnm e
      -- the line counts
      have cnt : ∀ J1, Fr [12] N J1 → (c = [] ∨ lz_v (N 11) c ≠ 0) → Ev d 30 233 [some (rf 7), some (nt k), some (nt th), some (nt n), some (nt g), some (nt dd), some (nt (((k * 8 + th) * 9 + g) * 13 + dd)), some (nt (T * 16 + n + 1)), some (nt (a : Int)), some (nt 0), some (nt 0), some (nt (i : Int))] [.inl 1] J1 Q := by
        intro J1 hJ1 hcn
        have f7 : J1 7 = I 7 := by rw [hJ1 7 (by decide), hN 7 (by decide)]
        have f9 : J1 9 = I 9 := by rw [hJ1 9 (by decide), hN 9 (by decide)]
        have f10 : J1 10 = I 10 := by rw [hJ1 10 (by decide), hN 10 (by decide)]
        have f8 : J1 8 = I 8 := by rw [hJ1 8 (by decide), hN 8 (by decide)]
        have f11 : J1 11 = N 11 := hJ1 11 (by decide)
        refine Ev.go [275, 186] (T := T_30) rfl rfl ?_
        conv => whnf
        refine anI (by omega) ?_
        conv => whnf
        rw [f9, E1]
        refine anI (by omega) ?_
        conv => whnf
        rw [f10, E2]
        refine ⟨by omega, x31 (by omega) e (by omega) (by omega) (by rw [f7, s1]; omega) (by omega) (fun x hx => by rw [f8]; exact hce x hx) (fun J2 hJ2 => ?_)⟩
        conv => whnf
        refine anI (by omega) ?_
        conv => whnf
        have g10 : J2 10 = I 10 := by rw [hJ2 10 (by decide), f10]
        rw [g10, E2, f11, hve]
        have hJ3 : Fr [12] N J2 := fun c' hc' => by rw [hJ2 c' hc', hJ1 c' hc']
        refine ⟨trivial, ?_⟩
        refine Ev.go [275] (T := T_30) rfl rfl ?_
        conv => whnf
        have h7 : J2 7 = I 7 := by rw [hJ2 7 (by decide), f7]
        have hv : lz_v (lz_nms (I 2 (8 * k + th)) n g th k dd) e = lz_val (lz_nms (I 2 (8 * k + th)) n g th k dd) ln := by
          rw [← hval]
          show _ = if c = [] ∨ lz_v _ c ≠ 0 then _ else _
          rw [hvc] at hcn
          rw [if_pos hcn]
        refine brI (fun _ => ?_) (fun _ => ?_) <;> conv => whnf
        · exact ⟨trivial, tail N J2 _ _ _ _ hN hJ3 hv⟩
        · exact ⟨trivial, tail N J2 _ _ _ _ hN hJ3 hv⟩
      refine Ev.go [233, 186, 275] (T := T_30) rfl rfl ?_
      conv => whnf
      rw [e7]
      refine brI (fun _ => ?_) (fun p => by exfalso; omega)
      conv => whnf
      refine anI (by omega) ?_
      conv => whnf
      rw [e9, E1]
      refine brI (fun p => ?_) (fun p => ?_) <;> conv => whnf
      · -- no condition
        exact ⟨trivial, cnt J hJ (Or.inl (List.length_eq_zero_iff.mp (by omega)))⟩
      · refine anI (by omega) ?_
        conv => whnf
        rw [e9, E1]
        refine ⟨by omega, x31 (by omega) c (by omega) (by omega) (by rw [e7, s1]; omega) (by omega) (fun x hx => by rw [e8]; exact hcc x hx) (fun J1 hJ1 => ?_)⟩
        conv => whnf
        have hJ2 : Fr [12] N J1 := fun c' hc' => by rw [hJ1 c' hc', hJ c' hc']
        rw [e11]
        refine brI (fun z => ?_) (fun z => ?_) <;> conv => whnf
        · refine ⟨trivial, ?_⟩
          refine Ev.go [186] (T := T_30) rfl rfl ?_
          conv => whnf
          refine anI (by omega) ?_
          conv => whnf
          have g10 : J1 10 = I 10 := by rw [hJ1 10 (by decide), e10]
          rw [g10, E2]
          have hc0 : c ≠ [] := fun q => p (by rw [q]; simp)
          refine ⟨trivial, Ev.to ?_ rfl (ih (i + 1) (a + c.length + e.length) J1 (by omega) E3 (by omega) hcr (fun q hq => hne q (List.mem_cons_of_mem _ hq)) hJ2 ?_)⟩
          · rw [iad_e (by omega)]; rfl
          · rw [← hval]
            show _ = if c = [] ∨ lz_v _ c ≠ 0 then _ else _
            rw [hvc] at z
            rw [if_neg (by rintro (q | q); exact hc0 q; exact q z)]
        · exact ⟨trivial, cnt J1 hJ2 (Or.inr z)⟩
  refine EvM.go [186] (T := T_30) rfl rfl rfl rfl ?_
  conv => whnf
  refine ⟨by omega, x175 (fun _ => ?_) (fun p => absurd hk p)⟩
  conv => whnf
  refine ⟨by omega, x177 (fun _ => ?_) (fun p => absurd ht p)⟩
  conv => whnf
  refine brI (fun _ => by exfalso; omega) (fun _ => ?_)
  conv => whnf
  refine brI (fun _ => by exfalso; omega) (fun _ => ?_)
  conv => whnf
  refine brI (fun _ => by exfalso; omega) (fun _ => ?_)
  conv => whnf
  refine brI (fun _ => by exfalso; omega) (fun _ => ?_)
  conv => whnf
  refine brI (fun _ => by exfalso; omega) (fun _ => ?_)
  conv => whnf
  refine brI (fun _ => by exfalso; omega) (fun _ => ?_)
  conv => whnf
  rw [ePl, eSt]
  refine anI (by omega) ?_
  conv => whnf
  rw [isr8 (by omega) (by omega)]
  refine brI (fun p => ?_) (fun p => ?_) <;> conv => whnf
  · refine anI (by omega) ?_
    conv => whnf
    rw [ian255 (by omega) (by omega), isb_e (by omega), hKp.2.2 n hn.1 hn.2 p]
    exact ⟨trivial, h I Fr.rfl' hK⟩
  · refine ⟨by omega, x56 (by omega) (fun _ => ?_) (fun q => by exfalso; omega)⟩
    conv => whnf
    repeat' first
      | (refine anI (by decide) ?_; conv => whnf)
      | fail
    refine ⟨trivial, lines (upd_ (upd_ (upd_ (upd_ (upd_ (upd_ I 11 0 (I 2 (8 * k + th))) 11 1 n) 11 2 g) 11 3 th) 11 4 k) 11 5 dd) ?_ ?_ ln 0 0 _ (by omega) s6 (by omega) (fun x hx => by rw [Nat.zero_add]; exact s5 x hx) s7 Fr.rfl' rfl⟩
    · repeat' first | exact Fr.rfl' | refine fr_up ?_ (by decide)
    · intro j j0 j1
      have hj : j = 0 ∨ j = 1 ∨ j = 2 ∨ j = 3 ∨ j = 4 ∨ j = 5 := by omega
      rcases hj with rfl | rfl | rfl | rfl | rfl | rfl <;> (simp (disch := decide) only [up_eq, up_ne]; rfl)
