/-! CHANGES: the operations -/
def notR : MV → Bool
  | .inr (.inr _) => false
  | _ => true
theorem gV_notR {G : Nat → Prop} {v : MV} (h : notR v = true) : gV G v := by
  match v, h with
  | .inl x, _ => trivial
  | .inr (.inl x), _ => trivial
theorem gsM (st : List MV) (h : st.all notR = true) : gS GM (rf 53 :: st) := gS_c.mpr ⟨Nat.le_refl 53, fun v hv => gV_notR (List.all_eq_true.mp h v hv)⟩
theorem gsC {c : Nat} (hc : c < 53) (st : List MV) (h : st.all notR = true) : gS GC (rf c :: st) := gS_c.mpr ⟨Or.inl hc, fun v hv => gV_notR (List.all_eq_true.mp h v hv)⟩
theorem cK_up {ln ln' : lz_L} {lov lov' : gF} {T : Int} {kn : gF} (h : cK ln lov T kn) : cK ln' lov' (T + 1) kn := fun k th g d a b e f i j => by
  obtain ⟨h1, h2, h3⟩ := h k th g d a b e f i j
  refine ⟨h1, by omega, fun n n0 n1 hn => ?_⟩
  exfalso; omega
theorem cA_pl {sz s dr : Int} {lov th ho bl lo : gF} {n w v : Int} (h : cA sz s dr lov th ho bl lo) (ha : alC w v) :
    cA sz s dr (if w = 0 then fu lov (8 * (n / 10) + n % 10) v else lov) (if w = 1 then fu th n v else th) (if w = 2 then fu ho n v else ho) (if w = 3 then fu bl n v else bl) lo := by
  rcases ha with ⟨rfl, a⟩ | ⟨rfl, a⟩ | ⟨rfl, a⟩ | ⟨rfl, a⟩
  · rw [if_pos rfl, if_neg (by decide), if_neg (by decide), if_neg (by decide)]; exact cA_lv h a
  · rw [if_neg (by decide), if_pos rfl, if_neg (by decide), if_neg (by decide)]; exact cA_th h a
  · rw [if_neg (by decide), if_neg (by decide), if_pos rfl, if_neg (by decide)]; exact cA_ho h a
  · rw [if_neg (by decide), if_neg (by decide), if_neg (by decide), if_pos rfl]; exact cA_bl h a
theorem mA_pl {sz s dr : Int} {lov th ho bl lo : gF} {msz ms mdr : Int} {may mlo : gF} {n w v : Int} (h : mA sz s dr lov th ho bl lo msz ms mdr may mlo) (ha : (w = 0 ∧ lvC n) ∨ (1 ≤ w ∧ w ≤ 3 ∧ 0 ≤ n)) :
    mA sz s dr (if w = 0 then fu lov (8 * (n / 10) + n % 10) v else lov) (if w = 1 then fu th n v else th) (if w = 2 then fu ho n v else ho) (if w = 3 then fu bl n v else bl) lo msz ms mdr (fu may (plM n w) v) mlo := by
  have hw : w = 0 ∨ w = 1 ∨ w = 2 ∨ w = 3 := by omega
  rcases hw with rfl | rfl | rfl | rfl
  · rw [if_pos rfl, if_neg (by decide), if_neg (by decide), if_neg (by decide), show plM n 0 = 8 * (n / 10) + n % 10 from if_pos rfl]; exact mA_lv h (by omega)
  · rw [if_neg (by decide), if_pos rfl, if_neg (by decide), if_neg (by decide), show plM n 1 = 48 + 3 * n by unfold plM; rw [if_neg (by decide)]; omega]; exact mA_th h (by omega)
  · rw [if_neg (by decide), if_neg (by decide), if_pos rfl, if_neg (by decide), show plM n 2 = 48 + 3 * n + 1 by unfold plM; rw [if_neg (by decide)]; omega]; exact mA_ho h (by omega)
  · rw [if_neg (by decide), if_neg (by decide), if_neg (by decide), if_pos rfl, show plM n 3 = 48 + 3 * n + 2 by unfold plM; rw [if_neg (by decide)]; omega]; exact mA_bl h (by omega)
theorem cC_push {sz st kp : Int} {nu wh be af : gF} {n w v v' : Int} (h : cC sz st kp nu wh be af) (he : cE sz n w v v') :
    cC sz (chS st + 1) (chS st + 1) (fu (chF st nu) (chS st) n) (fu (chF st wh) (chS st) w) (fu (chF st be) (chS st) v) (fu (chF st af) (chS st) v') := by
  obtain ⟨a, b⟩ := h
  unfold chS chF
  by_cases hq : st = 40
  · simp only [if_pos hq]
    refine ⟨by omega, fun i i0 i1 => ?_⟩
    by_cases hi : i = 39
    · subst hi; rw [fu_eq, fu_eq, fu_eq, fu_eq]; exact he
    · rw [fu_ne hi, fu_ne hi, fu_ne hi, fu_ne hi]
      unfold shn
      simp only [if_pos (show 0 ≤ i ∧ i < 39 by omega)]
      exact b (i + 1) (by omega) (by omega)
  · simp only [if_neg hq]
    refine ⟨by omega, fun i i0 i1 => ?_⟩
    by_cases hi : i = st
    · subst hi; rw [fu_eq, fu_eq, fu_eq, fu_eq]; exact he
    · rw [fu_ne hi, fu_ne hi, fu_ne hi, fu_ne hi]
      exact b i (by omega) (by omega)
theorem mC_push {st kp : Int} {nu wh be af : gF} {md mk : Int} {mat mw mi : gF} {n w v v' : Int} (h : mC st kp nu wh be af md mk mat mw mi) (h0 : 0 ≤ st) (h1 : st ≤ kp) (h2 : kp ≤ 40) :
    mC (chS st + 1) (chS st + 1) (fu (chF st nu) (chS st) n) (fu (chF st wh) (chS st) w) (fu (chF st be) (chS st) v) (fu (chF st af) (chS st) v') (chS md + 1) (chS md + 1) (fu (chF md mat) (chS md) (plM n w)) (fu (chF md mw) (chS md) v) (fu (chF md mi) (chS md) v') := by
  obtain ⟨a, a2, b⟩ := h
  subst a
  unfold chS chF
  by_cases hq : md = 40
  · simp only [if_pos hq]
    refine ⟨rfl, rfl, fun i i0 i1 => ?_⟩
    by_cases hi : i = 39
    · subst hi; simp only [fu_eq]; exact ⟨trivial, trivial, trivial⟩
    · simp only [fu_ne hi]
      unfold shn
      simp only [if_pos (show 0 ≤ i ∧ i < 39 by omega)]
      exact b (i + 1) (by omega) (by omega)
  · simp only [if_neg hq]
    refine ⟨rfl, rfl, fun i i0 i1 => ?_⟩
    by_cases hi : i = md
    · subst hi; simp only [fu_eq]; exact ⟨trivial, trivial, trivial⟩
    · simp only [fu_ne hi]
      exact b i (by omega) (by omega)
theorem Rel.cc {c : Int} {I : ME} (h : Rel c I) : 0 ≤ I 7 9 ∧ 0 ≤ I 1 8 ∧ I 7 9 + I 1 8 ≤ c := by
  obtain ⟨ln, ⟨a, b, e, d, f, g, l, q, k⟩, hM⟩ := h
  exact q
theorem Rel.ce {c : Int} {I : ME} (h : Rel c I) {i : Int} (i0 : 0 ≤ i) (i1 : i < I 39 6) : cE (I 1 5) (I 40 i) (I 41 i) (I 42 i) (I 43 i) ∧ I 55 i = plM (I 40 i) (I 41 i) ∧ I 56 i = I 42 i ∧ I 57 i = I 43 i := by
  obtain ⟨ln, ⟨a, b, e, d, f, g, l, q, k⟩, a', b', e', d', f', g', l'⟩ := h
  exact ⟨e.2 i i0 i1, e'.2.2 i i0 i1⟩
theorem Rel.tv {c : Int} {I : ME} (h : Rel c I) {n w : Int} (ht : tlC I n w) : I 54 (plM n w) = tvC I n w := by
  have hf := h.f
  have hw : w = 0 ∨ w = 1 ∨ w = 2 ∨ w = 3 := by omega
  unfold plM tvC
  rcases hw with rfl | rfl | rfl | rfl
  · rw [if_pos rfl, if_pos rfl]; exact (h.j (by omega) (by omega)).2
  · have := (h.t (t := n) (by omega) (by omega)).2.1
    rw [if_neg (by decide), if_neg (by decide), if_pos rfl, show 48 + 3 * n + 1 - 1 = 48 + 3 * n by omega]; exact this
  · have := (h.t (t := n) (by omega) (by omega)).2.2.1
    rw [if_neg (by decide), if_neg (by decide), if_neg (by decide), if_pos rfl, show 48 + 3 * n + 2 - 1 = 48 + 3 * n + 1 by omega]; exact this
  · have := (h.t (t := n) (by omega) (by omega)).2.2.2
    rw [if_neg (by decide), if_neg (by decide), if_neg (by decide), if_neg (by decide), show 48 + 3 * n + 3 - 1 = 48 + 3 * n + 2 by omega]; exact this
/-- the class's part after a number is told -/
theorem CI.tl {ln : lz_L} {c : Int} {I I1 : ME} {n w v : Int} (h : CI ln c I) (ha : alC w v) (t : TL I n w v I1) : CI ln (c + 1) I1 := by
  obtain ⟨t2, t3, t4, t5, t8, t1, hF⟩ := t
  obtain ⟨a, b, e, d, f, g, l, q, k⟩ := h
  unfold CI
  simp only [hF 6 (by decide), hF 15 (by decide), hF 36 (by decide), hF 37 (by decide), hF 40 (by decide), hF 41 (by decide), hF 42 (by decide), hF 43 (by decide), hF 45 (by decide), hF 48 (by decide), hF 49 (by decide), hF 50 (by decide), hF 51 (by decide), hF 8 (by decide), hF 9 (by decide), hF 10 (by decide), hF 13 (by decide), hF 14 (by decide), hF 39 (by decide), hF 34 (by decide), hF 44 (by decide), hF 7 (by decide), t1 5 (by decide), t1 6 (by decide), t1 7 (by decide), t2, t3, t4, t5, t8]
  refine ⟨cA_pl a ha, b, e, d, f, g, l, ⟨q.1, by split <;> omega, by split <;> omega⟩, ?_⟩
  by_cases hw : w = 0
  · rw [if_pos hw, if_pos hw, ← Int.add_assoc]; exact cK_up k
  · rw [if_neg hw, if_neg hw]; exact k
theorem op2 {n w v : Int} (hn : n ≤ 2147483647) : OpI 132 207 [nt n, nt w, nt v] := by
  intro c I hc0 hc h
  have hf := h.f
  have hm := h.mono
  have hcc := h.cc
  have htv : tlC I n w → _ := fun q => h.tv (n := n) (w := w) q
  obtain ⟨ln, hC, hM⟩ := h
  refine x132 (by omega) hn (by omega) (by omega) (by omega) (fun p => ?_) (fun p1 p2 p3 => ?_) (fun p1 p2 p3 I1 I2 t1 t2 => ?_)
  · refine ⟨_, rfl, m207 (by omega) hn (by omega) (by omega) (by omega) (fun q => ⟨rfl, hm, rfl⟩) (fun q1 q2 q3 => ?_) (fun q1 q2 q3 I' hB => ?_)⟩ <;> (exfalso; omega)
  · have e := htv p1
    refine ⟨_, rfl, m207 (by omega) hn (by omega) (by omega) (by omega) (fun q => by exfalso; omega) (fun q1 q2 q3 => ⟨rfl, hm, rfl⟩) (fun q1 q2 q3 I' hB => by exfalso; omega)⟩
  · have e := htv p1
    obtain ⟨g5, g6, g40, g41, g42, g43, hF2⟩ := t2
    have hC1 := hC.tl p2 t1
    obtain ⟨s2, s3, s4, s5, s8, s1, hF1⟩ := t1
    have e53 : I2 53 = I 53 := (hF2 53 (by decide)).trans (hF1 53 (by decide))
    have e54 : I2 54 = I 54 := (hF2 54 (by decide)).trans (hF1 54 (by decide))
    have e55 : I2 55 = I 55 := (hF2 55 (by decide)).trans (hF1 55 (by decide))
    have e56 : I2 56 = I 56 := (hF2 56 (by decide)).trans (hF1 56 (by decide))
    have e57 : I2 57 = I 57 := (hF2 57 (by decide)).trans (hF1 57 (by decide))
    have f39 : I1 39 5 = I 39 5 := by rw [hF1 39 (by decide)]
    rw [f39] at g5 g6 g40 g41 g42 g43
    rw [hF1 40 (by decide)] at g40
    rw [hF1 41 (by decide)] at g41
    rw [hF1 42 (by decide)] at g42
    rw [hF1 43 (by decide)] at g43
    refine ⟨_, rfl, (m207 (Q := fun w' J => w' = some (nt (tvC I n w)) ∧ BEC I2 (plM n w) v J) (by omega) hn (by rw [e53]; omega) (by rw [e53]; omega) (by rw [e53]; omega) (fun q => ?_) (fun q1 q2 q3 => ?_) (fun q1 q2 q3 I' hB => ?_)).keepM (gsM _ rfl) |>.mono fun w' J hw => ?_⟩
    · exfalso; unfold tkM at q; rw [e53] at q; omega
    · exfalso; rw [e54] at q3; omega
    · refine ⟨nt_c (by rw [e54]; exact e), hB⟩
    · obtain ⟨⟨hw1, b5, b4, b55, b56, b57, b54, b53, hF3⟩, hG⟩ := hw
      refine ⟨hw1, Rel.mk (ln := ln) (I1 := I2) ?_ ?_ (fun c' hc' => funext fun j => hG c' (by unfold GM; omega) j), ?_⟩
      · obtain ⟨a, b, e', d, f, g, l, q, k⟩ := hC1
        unfold CI
        simp only [hF2 2 (by decide), hF2 3 (by decide), hF2 4 (by decide), hF2 5 (by decide), hF2 6 (by decide), hF2 15 (by decide), hF2 36 (by decide), hF2 37 (by decide), hF2 45 (by decide), hF2 48 (by decide), hF2 49 (by decide), hF2 50 (by decide), hF2 51 (by decide), hF2 8 (by decide), hF2 9 (by decide), hF2 10 (by decide), hF2 13 (by decide), hF2 1 (by decide), hF2 14 (by decide), hF2 34 (by decide), hF2 44 (by decide), hF2 7 (by decide), g5, g6, g40, g41, g42, g43]
        refine ⟨a, b, ?_, d, f, g, l, q, k⟩
        rw [s1 5 (by decide)]
        have e0 := hC.2.2.1
        refine cC_push e0 ⟨by omega, ?_, p2⟩
        have hA := hC.1
        unfold tvC
        obtain ⟨-, -, -, a4, a5, -⟩ := hA
        have hw : w = 0 ∨ w = 1 ∨ w = 2 ∨ w = 3 := by omega
        rcases hw with rfl | rfl | rfl | rfl
        · rw [if_pos rfl]; have := a4 (8 * (n / 10) + n % 10) (by omega) (by omega); omega
        · rw [if_neg (by decide), if_pos rfl]; have := a5 n (by omega) (by omega); omega
        · rw [if_neg (by decide), if_neg (by decide), if_pos rfl]; have := a5 n (by omega) (by omega); omega
        · rw [if_neg (by decide), if_neg (by decide), if_neg (by decide)]; have := a5 n (by omega) (by omega); omega
      · obtain ⟨a, b', g, d, f, r, l⟩ := hM
        unfold MR_
        simp only [hF3 58 (by decide), hF3 59 (by decide), hF3 69 (by decide), hF3 70 (by decide), hF3 71 (by decide), hF3 72 (by decide), hF3 73 (by decide), hF3 74 (by decide), hF3 75 (by decide), hF3 76 (by decide), hF3 77 (by decide), hF3 78 (by decide), hF3 60 (by decide), hF2 2 (by decide), hF2 3 (by decide), hF2 4 (by decide), hF2 5 (by decide), hF2 6 (by decide), hF2 15 (by decide), hF2 36 (by decide), hF2 37 (by decide), hF2 45 (by decide), hF2 48 (by decide), hF2 49 (by decide), hF2 50 (by decide), hF2 51 (by decide), hF2 8 (by decide), hF2 9 (by decide), hF2 10 (by decide), hF2 13 (by decide), hF2 1 (by decide), hF2 14 (by decide), hF2 34 (by decide), hF2 44 (by decide), hF2 7 (by decide), hF2 35 (by decide), hF2 38 (by decide), hF2 46 (by decide), hF2 52 (by decide), hF2 58 (by decide), hF2 59 (by decide), hF2 69 (by decide), hF2 70 (by decide), hF2 71 (by decide), hF2 72 (by decide), hF2 73 (by decide), hF2 74 (by decide), hF2 75 (by decide), hF2 76 (by decide), hF2 77 (by decide), hF2 78 (by decide), hF2 60 (by decide), hF1 6 (by decide), hF1 15 (by decide), hF1 36 (by decide), hF1 37 (by decide), hF1 45 (by decide), hF1 48 (by decide), hF1 49 (by decide), hF1 50 (by decide), hF1 51 (by decide), hF1 8 (by decide), hF1 9 (by decide), hF1 10 (by decide), hF1 13 (by decide), hF1 14 (by decide), hF1 34 (by decide), hF1 44 (by decide), hF1 7 (by decide), hF1 35 (by decide), hF1 38 (by decide), hF1 46 (by decide), hF1 52 (by decide), hF1 58 (by decide), hF1 59 (by decide), hF1 69 (by decide), hF1 70 (by decide), hF1 71 (by decide), hF1 72 (by decide), hF1 73 (by decide), hF1 74 (by decide), hF1 75 (by decide), hF1 76 (by decide), hF1 77 (by decide), hF1 78 (by decide), hF1 60 (by decide), g5, g6, g40, g41, g42, g43, b5, b4, b55, b56, b57, b54, s2, s3, s4, s5, s1 5 (by decide), s1 6 (by decide), s1 7 (by decide)]
        simp (disch := decide) only [b53]
        simp only [e53, e54, e55, e56, e57]
        rw [e]
        exact ⟨mA_pl a (by omega), b', mC_push g (by omega) (by omega) (by omega), d, f, r, l⟩
      · rw [hF3 1000 (by decide), hF2 1000 (by decide), hF1 1000 (by decide)]

