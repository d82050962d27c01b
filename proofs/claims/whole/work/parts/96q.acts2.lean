/-! ACTS: what they answer, and their trace -/
def tkV (n k x : Int) : Int := if k = 1 ∨ k = 4 ∨ k = 7 then iad (iad x n) 3 else if k = 6 then iml (iad x n) 2 else iad x n
def tkLs (k : Int) : List Int := if k = 1 ∨ k = 4 ∨ k = 7 then [20, 1] else if k = 6 then [70, 1] else [1]
def kpV (n own k x : Int) : Int := if k = 3 ∨ k = 5 then iml (ixr x n) 3 else if k = 4 ∨ k = 7 then isb (ixr x n) (tkV n own 2) else ixr x n
def kpLs (own k : Int) : List Int := if k = 3 ∨ k = 5 then [40, 11] else if k = 4 ∨ k = 7 then [50, 11] ++ tkLs own else [11]
def grV (n own k x : Int) : Int := if k = 3 ∨ k = 5 then ing (iml (tkV n own (iad x 1)) 2) else if k = 2 then ing (iml (tkV n own x) 2) else if k = 7 then iad (iml (tkV n own x) 2) (kpV n own own 2) else iml (tkV n own x) 2
def grLs (own k : Int) : List Int := if k = 3 ∨ k = 5 then [41, 30, 10] ++ tkLs own else if k = 2 then [30, 10] ++ tkLs own else if k = 7 then [80, 10] ++ tkLs own ++ kpLs own own else [10] ++ tkLs own
def teV (n own k x : Int) : Int := if k = 5 then ixr (isb (grV n own own x) (kpV n own own 1)) 5 else if k = 7 then isb (isb (grV n own own x) (kpV n own own 1)) 1 else isb (grV n own own x) (kpV n own own 1)
def teLs (own k : Int) : List Int := if k = 5 then [60, 2] ++ grLs own own ++ kpLs own own else if k = 7 then [81, 2] ++ grLs own own ++ kpLs own own else [2] ++ grLs own own ++ kpLs own own
theorem tkLs_l (k : Int) : (tkLs k).length ≤ 2 := by
  unfold tkLs; repeat' split
  all_goals decide
theorem kpLs_l (own k : Int) : (kpLs own k).length ≤ 4 := by
  have := tkLs_l own
  unfold kpLs; repeat' split
  · decide
  · simp only [List.length_append, List.length_cons, List.length_nil]; omega
  · decide
theorem grLs_l (own k : Int) : (grLs own k).length ≤ 8 := by
  have := tkLs_l own
  have := kpLs_l own own
  unfold grLs; repeat' split
  all_goals simp only [List.length_append, List.length_cons, List.length_nil]; omega
theorem teLs_l (own k : Int) : (teLs own k).length ≤ 14 := by
  have := grLs_l own own
  have := kpLs_l own own
  unfold teLs; repeat' split
  all_goals simp only [List.length_append, List.length_cons, List.length_nil]; omega
def aK (I : ME) (n own m : Int) : Prop := (0 ≤ I 44 3 ∧ I 44 3 ≤ m) ∧ (0 ≤ n ∧ n < 50) ∧ I 44 4 = n ∧ I 45 n = own
theorem aK.tr {I : ME} {n own m : Int} (h : aK I n own m) (L : List Int) (j : Nat) (hl : L.length ≤ j) (hm : m + j ≤ 1000) : aK (trG 44 3 46 I L) n own (m + j) := by
  obtain ⟨a, b, c, e⟩ := h
  have := trG_r (a := 44) (f := 3) (b := 46) I L a.1 (by omega)
  refine ⟨by omega, b, ?_, ?_⟩
  · rw [trG_f (by decide) (by decide)]; exact c
  · rw [trG_c (by decide) (by decide)]; exact e
theorem aK.t1 {I : ME} {n own m : Int} (h : aK I n own m) (x : Int) (hm : m + 1 ≤ 1000) : aK (tr1 44 3 46 I x) n own (m + 1) := h.tr [x] 1 (Nat.le_refl 1) hm
theorem rn1 {d : Nat} {ab x deep n own m : Int} {J : ME} {Q : Option MV → ME → Prop} (hd : 1 ≤ d) (hA : aK J n own m) (h : Q (some (nt (iad x n))) J) : EvM d 11 [rf 44, nt 1, nt ab, nt x, nt deep] J Q := by
  obtain ⟨hA0, hA1, e4, e45⟩ := hA
  subst e4
  subst e45
  refine EvM.go [] (T := T_11) rfl rfl rfl rfl ?_
  conv => whnf
  refine anI (by omega) ?_
  conv => whnf
  exact ⟨trivial, h⟩
theorem rn11 {d : Nat} {ab x deep n own m : Int} {J : ME} {Q : Option MV → ME → Prop} (hd : 1 ≤ d) (hA : aK J n own m) (h : Q (some (nt (ixr x n))) J) : EvM d 11 [rf 44, nt 11, nt ab, nt x, nt deep] J Q := by
  obtain ⟨hA0, hA1, e4, e45⟩ := hA
  subst e4
  subst e45
  refine EvM.go [] (T := T_11) rfl rfl rfl rfl ?_
  conv => whnf
  refine anI (by omega) ?_
  conv => whnf
  exact ⟨trivial, h⟩
theorem rn20 {d : Nat} {ab x deep n own m : Int} {J : ME} {Q : Option MV → ME → Prop} (hd : 1 ≤ d) (hA : aK J n own m) (h : EvM (d - 1) 10 [rf 44, nt ab, nt 0, nt x, nt deep] J (fun v J' => ∃ w, v = some (nt w) ∧ Q (some (nt (iad w 3))) J')) : EvM d 11 [rf 44, nt 20, nt ab, nt x, nt deep] J Q := by
  obtain ⟨hA0, hA1, e4, e45⟩ := hA
  subst e4
  subst e45
  refine EvM.go [] (T := T_11) rfl rfl rfl rfl ?_
  conv => whnf
  refine anI (by omega) ?_
  conv => whnf
  refine ⟨by omega, h.mono fun v J' hw => ?_⟩
  obtain ⟨w, rfl, hw⟩ := hw
  conv => whnf
  exact ⟨trivial, hw⟩
theorem rn70 {d : Nat} {ab x deep n own m : Int} {J : ME} {Q : Option MV → ME → Prop} (hd : 1 ≤ d) (hA : aK J n own m) (h : EvM (d - 1) 10 [rf 44, nt ab, nt 0, nt x, nt deep] J (fun v J' => ∃ w, v = some (nt w) ∧ Q (some (nt (iml w 2))) J')) : EvM d 11 [rf 44, nt 70, nt ab, nt x, nt deep] J Q := by
  obtain ⟨hA0, hA1, e4, e45⟩ := hA
  subst e4
  subst e45
  refine EvM.go [] (T := T_11) rfl rfl rfl rfl ?_
  conv => whnf
  refine anI (by omega) ?_
  conv => whnf
  refine ⟨by omega, h.mono fun v J' hw => ?_⟩
  obtain ⟨w, rfl, hw⟩ := hw
  conv => whnf
  exact ⟨trivial, hw⟩
theorem rn10 {d : Nat} {ab x deep n own m : Int} {J : ME} {Q : Option MV → ME → Prop} (hd : 1 ≤ d) (hA : aK J n own m) (h : EvM (d - 1) 10 [rf 44, nt own, nt 0, nt x, nt deep] J (fun v J' => ∃ w, v = some (nt w) ∧ Q (some (nt (iml w 2))) J')) : EvM d 11 [rf 44, nt 10, nt ab, nt x, nt deep] J Q := by
  obtain ⟨hA0, hA1, e4, e45⟩ := hA
  subst e4
  subst e45
  refine EvM.go [] (T := T_11) rfl rfl rfl rfl ?_
  conv => whnf
  refine anI (by omega) ?_
  conv => whnf
  refine ⟨by omega, h.mono fun v J' hw => ?_⟩
  obtain ⟨w, rfl, hw⟩ := hw
  conv => whnf
  exact ⟨trivial, hw⟩
theorem rn30 {d : Nat} {ab x deep n own m : Int} {J : ME} {Q : Option MV → ME → Prop} (hd : 1 ≤ d) (hA : aK J n own m) (h : EvM (d - 1) 10 [rf 44, nt ab, nt 1, nt x, nt deep] J (fun v J' => ∃ w, v = some (nt w) ∧ Q (some (nt (ing w))) J')) : EvM d 11 [rf 44, nt 30, nt ab, nt x, nt deep] J Q := by
  obtain ⟨hA0, hA1, e4, e45⟩ := hA
  subst e4
  subst e45
  refine EvM.go [] (T := T_11) rfl rfl rfl rfl ?_
  conv => whnf
  refine anI (by omega) ?_
  conv => whnf
  refine ⟨by omega, h.mono fun v J' hw => ?_⟩
  obtain ⟨w, rfl, hw⟩ := hw
  conv => whnf
  exact ⟨trivial, hw⟩
theorem rn40 {d : Nat} {ab x deep n own m : Int} {J : ME} {Q : Option MV → ME → Prop} (hd : 1 ≤ d) (hA : aK J n own m) (h : EvM (d - 1) 10 [rf 44, nt ab, nt 2, nt x, nt deep] J (fun v J' => ∃ w, v = some (nt w) ∧ Q (some (nt (iml w 3))) J')) : EvM d 11 [rf 44, nt 40, nt ab, nt x, nt deep] J Q := by
  obtain ⟨hA0, hA1, e4, e45⟩ := hA
  subst e4
  subst e45
  refine EvM.go [] (T := T_11) rfl rfl rfl rfl ?_
  conv => whnf
  refine anI (by omega) ?_
  conv => whnf
  refine ⟨by omega, h.mono fun v J' hw => ?_⟩
  obtain ⟨w, rfl, hw⟩ := hw
  conv => whnf
  exact ⟨trivial, hw⟩
theorem rn41 {d : Nat} {ab x deep n own m : Int} {J : ME} {Q : Option MV → ME → Prop} (hd : 1 ≤ d) (hA : aK J n own m) (h : EvM (d - 1) 10 [rf 44, nt ab, nt 1, nt (iad x 1), nt deep] J (fun v J' => ∃ w, v = some (nt w) ∧ Q (some (nt (w))) J')) : EvM d 11 [rf 44, nt 41, nt ab, nt x, nt deep] J Q := by
  obtain ⟨hA0, hA1, e4, e45⟩ := hA
  subst e4
  subst e45
  refine EvM.go [] (T := T_11) rfl rfl rfl rfl ?_
  conv => whnf
  refine anI (by omega) ?_
  conv => whnf
  refine ⟨by omega, h.mono fun v J' hw => ?_⟩
  obtain ⟨w, rfl, hw⟩ := hw
  conv => whnf
  exact ⟨trivial, hw⟩
theorem rn60 {d : Nat} {ab x deep n own m : Int} {J : ME} {Q : Option MV → ME → Prop} (hd : 1 ≤ d) (hA : aK J n own m) (h : EvM (d - 1) 10 [rf 44, nt ab, nt 3, nt x, nt deep] J (fun v J' => ∃ w, v = some (nt w) ∧ Q (some (nt (ixr w 5))) J')) : EvM d 11 [rf 44, nt 60, nt ab, nt x, nt deep] J Q := by
  obtain ⟨hA0, hA1, e4, e45⟩ := hA
  subst e4
  subst e45
  refine EvM.go [] (T := T_11) rfl rfl rfl rfl ?_
  conv => whnf
  refine anI (by omega) ?_
  conv => whnf
  refine ⟨by omega, h.mono fun v J' hw => ?_⟩
  obtain ⟨w, rfl, hw⟩ := hw
  conv => whnf
  exact ⟨trivial, hw⟩
theorem rn81 {d : Nat} {ab x deep n own m : Int} {J : ME} {Q : Option MV → ME → Prop} (hd : 1 ≤ d) (hA : aK J n own m) (h : EvM (d - 1) 10 [rf 44, nt ab, nt 3, nt x, nt deep] J (fun v J' => ∃ w, v = some (nt w) ∧ Q (some (nt (isb w 1))) J')) : EvM d 11 [rf 44, nt 81, nt ab, nt x, nt deep] J Q := by
  obtain ⟨hA0, hA1, e4, e45⟩ := hA
  subst e4
  subst e45
  refine EvM.go [] (T := T_11) rfl rfl rfl rfl ?_
  conv => whnf
  refine anI (by omega) ?_
  conv => whnf
  refine ⟨by omega, h.mono fun v J' hw => ?_⟩
  obtain ⟨w, rfl, hw⟩ := hw
  conv => whnf
  exact ⟨trivial, hw⟩
theorem rn2 {d : Nat} {ab x deep n own m : Int} {J : ME} {Q : Option MV → ME → Prop} (hd : 1 ≤ d) (hA : aK J n own m) (h : EvM (d - 1) 10 [rf 44, nt own, nt 1, nt x, nt deep] J (fun v J' => ∃ w, v = some (nt w) ∧ EvM (d - 1) 10 [rf 44, nt own, nt 2, nt 1, nt deep] J' (fun v J' => ∃ w', v = some (nt w') ∧ Q (some (nt (isb w w'))) J'))) : EvM d 11 [rf 44, nt 2, nt ab, nt x, nt deep] J Q := by
  obtain ⟨hA0, hA1, e4, e45⟩ := hA
  subst e4
  subst e45
  refine EvM.go [] (T := T_11) rfl rfl rfl rfl ?_
  conv => whnf
  refine anI (by omega) ?_
  conv => whnf
  refine ⟨by omega, h.mono fun v J' hw => ?_⟩
  obtain ⟨w, rfl, hw⟩ := hw
  conv => whnf
  refine ⟨by omega, hw.mono fun v J2 hv => ?_⟩
  obtain ⟨w', rfl, hv⟩ := hv
  conv => whnf
  exact ⟨trivial, hv⟩
theorem rn50 {d : Nat} {ab x deep n own m : Int} {J : ME} {Q : Option MV → ME → Prop} (hd : 1 ≤ d) (hA : aK J n own m) (h : EvM (d - 1) 10 [rf 44, nt ab, nt 2, nt x, nt deep] J (fun v J' => ∃ w, v = some (nt w) ∧ EvM (d - 1) 10 [rf 44, nt own, nt 0, nt 2, nt deep] J' (fun v J' => ∃ w', v = some (nt w') ∧ Q (some (nt (isb w w'))) J'))) : EvM d 11 [rf 44, nt 50, nt ab, nt x, nt deep] J Q := by
  obtain ⟨hA0, hA1, e4, e45⟩ := hA
  subst e4
  subst e45
  refine EvM.go [] (T := T_11) rfl rfl rfl rfl ?_
  conv => whnf
  refine anI (by omega) ?_
  conv => whnf
  refine ⟨by omega, h.mono fun v J' hw => ?_⟩
  obtain ⟨w, rfl, hw⟩ := hw
  conv => whnf
  refine ⟨by omega, hw.mono fun v J2 hv => ?_⟩
  obtain ⟨w', rfl, hv⟩ := hv
  conv => whnf
  exact ⟨trivial, hv⟩
theorem rn80 {d : Nat} {ab x deep n own m : Int} {J : ME} {Q : Option MV → ME → Prop} (hd : 1 ≤ d) (hA : aK J n own m) (h : EvM (d - 1) 10 [rf 44, nt ab, nt 1, nt x, nt deep] J (fun v J' => ∃ w, v = some (nt w) ∧ EvM (d - 1) 10 [rf 44, nt own, nt 2, nt 2, nt deep] J' (fun v J' => ∃ w', v = some (nt w') ∧ Q (some (nt (iad w w'))) J'))) : EvM d 11 [rf 44, nt 80, nt ab, nt x, nt deep] J Q := by
  obtain ⟨hA0, hA1, e4, e45⟩ := hA
  subst e4
  subst e45
  refine EvM.go [] (T := T_11) rfl rfl rfl rfl ?_
  conv => whnf
  refine anI (by omega) ?_
  conv => whnf
  refine ⟨by omega, h.mono fun v J' hw => ?_⟩
  obtain ⟨w, rfl, hw⟩ := hw
  conv => whnf
  refine ⟨by omega, hw.mono fun v J2 hv => ?_⟩
  obtain ⟨w', rfl, hv⟩ := hv
  conv => whnf
  exact ⟨trivial, hv⟩
theorem x10T {d : Nat} {k x deep n own m : Int} {I : ME} {Q : Option MV → ME → Prop} (hd : 6 ≤ d) (hk : 0 ≤ k ∧ k < 8) (hp : 0 ≤ deep ∧ deep ≤ 30) (hp2 : deep ≤ 28) (hA : aK I n own m) (hm : m ≤ 900) (h : Q (some (nt (tkV n k x))) (trG 44 3 46 I (tkLs k))) : EvM d 10 [rf 44, nt k, nt 0, nt x, nt deep] I Q := by
  have z : ∀ {d : Nat} {x deep m : Int} {I : ME} {Q : Option MV → ME → Prop}, 3 ≤ d → 0 ≤ deep ∧ deep ≤ 30 → aK I n own m → m ≤ 950 → Q (some (nt (iad x n))) (trG 44 3 46 I [1]) → EvM d 10 [rf 44, nt 0, nt 0, nt x, nt deep] I Q := by
    intro d x deep m I Q hd hp hA hm h
    refine x10 (by omega) (by decide) (by decide) hp hA.1.1 (rn1 (by omega) (hA.t1 1 (by omega)) ?_)
    exact ⟨_, rfl, h⟩
  have hc : k = 0 ∨ k = 1 ∨ k = 2 ∨ k = 3 ∨ k = 4 ∨ k = 5 ∨ k = 6 ∨ k = 7 := by omega
  rcases hc with rfl | rfl | rfl | rfl | rfl | rfl | rfl | rfl
  · refine x10 (by omega) (by decide) (by decide) hp hA.1.1 (rn1 (by omega) (hA.t1 1 (by omega)) ?_)
    exact ⟨_, rfl, h⟩
  · refine x10 (by omega) (by decide) (by decide) hp hA.1.1 (rn20 (by omega) (hA.t1 20 (by omega)) ?_)
    exact z (by omega) (by omega) (hA.t1 20 (by omega)) (by omega) ⟨_, rfl, _, rfl, h⟩
  · refine x10 (by omega) (by decide) (by decide) hp hA.1.1 (rn1 (by omega) (hA.t1 1 (by omega)) ?_)
    exact ⟨_, rfl, h⟩
  · refine x10 (by omega) (by decide) (by decide) hp hA.1.1 (rn1 (by omega) (hA.t1 1 (by omega)) ?_)
    exact ⟨_, rfl, h⟩
  · refine x10 (by omega) (by decide) (by decide) hp hA.1.1 (rn20 (by omega) (hA.t1 20 (by omega)) ?_)
    exact z (by omega) (by omega) (hA.t1 20 (by omega)) (by omega) ⟨_, rfl, _, rfl, h⟩
  · refine x10 (by omega) (by decide) (by decide) hp hA.1.1 (rn1 (by omega) (hA.t1 1 (by omega)) ?_)
    exact ⟨_, rfl, h⟩
  · refine x10 (by omega) (by decide) (by decide) hp hA.1.1 (rn70 (by omega) (hA.t1 70 (by omega)) ?_)
    exact z (by omega) (by omega) (hA.t1 70 (by omega)) (by omega) ⟨_, rfl, _, rfl, h⟩
  · refine x10 (by omega) (by decide) (by decide) hp hA.1.1 (rn20 (by omega) (hA.t1 20 (by omega)) ?_)
    exact z (by omega) (by omega) (hA.t1 20 (by omega)) (by omega) ⟨_, rfl, _, rfl, h⟩
theorem x10K {d : Nat} {k x deep n own m : Int} {I : ME} {Q : Option MV → ME → Prop} (hd : 12 ≤ d) (hk : 0 ≤ k ∧ k < 8) (ho : 0 ≤ own ∧ own < 8) (hp : 0 ≤ deep ∧ deep ≤ 30) (hp2 : deep ≤ 25) (hA : aK I n own m) (hm : m ≤ 800) (h : Q (some (nt (kpV n own k x))) (trG 44 3 46 I (kpLs own k))) : EvM d 10 [rf 44, nt k, nt 2, nt x, nt deep] I Q := by
  have z : ∀ {d : Nat} {k x deep m : Int} {I : ME} {Q : Option MV → ME → Prop}, 3 ≤ d → k = 1 ∨ k = 2 → 0 ≤ deep ∧ deep ≤ 30 → aK I n own m → m ≤ 950 → Q (some (nt (ixr x n))) (trG 44 3 46 I [11]) → EvM d 10 [rf 44, nt k, nt 2, nt x, nt deep] I Q := by
    intro d k x deep m I Q hd hk hp hA hm h
    rcases hk with rfl | rfl
    · refine x10 (by omega) (by decide) (by decide) hp hA.1.1 (rn11 (by omega) (hA.t1 11 (by omega)) ?_)
      exact ⟨_, rfl, h⟩
    · refine x10 (by omega) (by decide) (by decide) hp hA.1.1 (rn11 (by omega) (hA.t1 11 (by omega)) ?_)
      exact ⟨_, rfl, h⟩
  have hc : k = 0 ∨ k = 1 ∨ k = 2 ∨ k = 3 ∨ k = 4 ∨ k = 5 ∨ k = 6 ∨ k = 7 := by omega
  rcases hc with rfl | rfl | rfl | rfl | rfl | rfl | rfl | rfl
  · refine x10 (by omega) (by decide) (by decide) hp hA.1.1 (rn11 (by omega) (hA.t1 11 (by omega)) ?_)
    exact ⟨_, rfl, h⟩
  · refine x10 (by omega) (by decide) (by decide) hp hA.1.1 (rn11 (by omega) (hA.t1 11 (by omega)) ?_)
    exact ⟨_, rfl, h⟩
  · refine x10 (by omega) (by decide) (by decide) hp hA.1.1 (rn11 (by omega) (hA.t1 11 (by omega)) ?_)
    exact ⟨_, rfl, h⟩
  · refine x10 (by omega) (by decide) (by decide) hp hA.1.1 (rn40 (by omega) (hA.t1 40 (by omega)) ?_)
    exact z (by omega) (by decide) (by omega) (hA.t1 40 (by omega)) (by omega) ⟨_, rfl, _, rfl, h⟩
  · refine x10 (by omega) (by decide) (by decide) hp hA.1.1 (rn50 (by omega) (hA.t1 50 (by omega)) ?_)
    refine z (by omega) (by decide) (by omega) (hA.t1 50 (by omega)) (by omega) ⟨_, rfl, ?_⟩
    exact x10T (by omega) ho (by omega) (by omega) ((hA.t1 50 (by omega)).tr [11] 1 (by decide) (by omega)) (by omega) ⟨_, rfl, _, rfl, h⟩
  · refine x10 (by omega) (by decide) (by decide) hp hA.1.1 (rn40 (by omega) (hA.t1 40 (by omega)) ?_)
    exact z (by omega) (by decide) (by omega) (hA.t1 40 (by omega)) (by omega) ⟨_, rfl, _, rfl, h⟩
  · refine x10 (by omega) (by decide) (by decide) hp hA.1.1 (rn11 (by omega) (hA.t1 11 (by omega)) ?_)
    exact ⟨_, rfl, h⟩
  · refine x10 (by omega) (by decide) (by decide) hp hA.1.1 (rn50 (by omega) (hA.t1 50 (by omega)) ?_)
    refine z (by omega) (by decide) (by omega) (hA.t1 50 (by omega)) (by omega) ⟨_, rfl, ?_⟩
    exact x10T (by omega) ho (by omega) (by omega) ((hA.t1 50 (by omega)).tr [11] 1 (by decide) (by omega)) (by omega) ⟨_, rfl, _, rfl, h⟩
theorem x10G {d : Nat} {k x deep n own m : Int} {I : ME} {Q : Option MV → ME → Prop} (hd : 20 ≤ d) (hk : 0 ≤ k ∧ k < 8) (ho : 0 ≤ own ∧ own < 8) (hp : 0 ≤ deep ∧ deep ≤ 30) (hp2 : deep ≤ 20) (hA : aK I n own m) (hm : m ≤ 700) (h : Q (some (nt (grV n own k x))) (trG 44 3 46 I (grLs own k))) : EvM d 10 [rf 44, nt k, nt 1, nt x, nt deep] I Q := by
  have z : ∀ {d : Nat} {k x deep m : Int} {I : ME} {Q : Option MV → ME → Prop}, 10 ≤ d → k = 0 ∨ k = 4 → 0 ≤ deep ∧ deep ≤ 30 → deep ≤ 25 → aK I n own m → m ≤ 890 → Q (some (nt (iml (tkV n own x) 2))) (trG 44 3 46 I ([10] ++ tkLs own)) → EvM d 10 [rf 44, nt k, nt 1, nt x, nt deep] I Q := by
    intro d k x deep m I Q hd hk hp hp2 hA hm h
    rcases hk with rfl | rfl
    · refine x10 (by omega) (by decide) (by decide) hp hA.1.1 (rn10 (by omega) (hA.t1 10 (by omega)) ?_)
      exact x10T (by omega) ho (by omega) (by omega) (hA.t1 10 (by omega)) (by omega) ⟨_, rfl, _, rfl, h⟩
    · refine x10 (by omega) (by decide) (by decide) hp hA.1.1 (rn10 (by omega) (hA.t1 10 (by omega)) ?_)
      exact x10T (by omega) ho (by omega) (by omega) (hA.t1 10 (by omega)) (by omega) ⟨_, rfl, _, rfl, h⟩
  have z2 : ∀ {d : Nat} {x deep m : Int} {I : ME} {Q : Option MV → ME → Prop}, 14 ≤ d → 0 ≤ deep ∧ deep ≤ 30 → deep ≤ 22 → aK I n own m → m ≤ 800 → Q (some (nt (ing (iml (tkV n own x) 2)))) (trG 44 3 46 I ([30, 10] ++ tkLs own)) → EvM d 10 [rf 44, nt 2, nt 1, nt x, nt deep] I Q := by
    intro d x deep m I Q hd hp hp2 hA hm h
    refine x10 (by omega) (by decide) (by decide) hp hA.1.1 (rn30 (by omega) (hA.t1 30 (by omega)) ?_)
    exact z (by omega) (by decide) (by omega) (by omega) (hA.t1 30 (by omega)) (by omega) ⟨_, rfl, _, rfl, h⟩
  have hc : k = 0 ∨ k = 1 ∨ k = 2 ∨ k = 3 ∨ k = 4 ∨ k = 5 ∨ k = 6 ∨ k = 7 := by omega
  rcases hc with rfl | rfl | rfl | rfl | rfl | rfl | rfl | rfl
  · refine x10 (by omega) (by decide) (by decide) hp hA.1.1 (rn10 (by omega) (hA.t1 10 (by omega)) ?_)
    exact x10T (by omega) ho (by omega) (by omega) (hA.t1 10 (by omega)) (by omega) ⟨_, rfl, _, rfl, h⟩
  · refine x10 (by omega) (by decide) (by decide) hp hA.1.1 (rn10 (by omega) (hA.t1 10 (by omega)) ?_)
    exact x10T (by omega) ho (by omega) (by omega) (hA.t1 10 (by omega)) (by omega) ⟨_, rfl, _, rfl, h⟩
  · exact z2 (by omega) hp (by omega) hA (by omega) h
  · refine x10 (by omega) (by decide) (by decide) hp hA.1.1 (rn41 (by omega) (hA.t1 41 (by omega)) ?_)
    exact z2 (by omega) (by omega) (by omega) (hA.t1 41 (by omega)) (by omega) ⟨_, rfl, _, rfl, h⟩
  · refine x10 (by omega) (by decide) (by decide) hp hA.1.1 (rn10 (by omega) (hA.t1 10 (by omega)) ?_)
    exact x10T (by omega) ho (by omega) (by omega) (hA.t1 10 (by omega)) (by omega) ⟨_, rfl, _, rfl, h⟩
  · refine x10 (by omega) (by decide) (by decide) hp hA.1.1 (rn41 (by omega) (hA.t1 41 (by omega)) ?_)
    exact z2 (by omega) (by omega) (by omega) (hA.t1 41 (by omega)) (by omega) ⟨_, rfl, _, rfl, h⟩
  · refine x10 (by omega) (by decide) (by decide) hp hA.1.1 (rn10 (by omega) (hA.t1 10 (by omega)) ?_)
    exact x10T (by omega) ho (by omega) (by omega) (hA.t1 10 (by omega)) (by omega) ⟨_, rfl, _, rfl, h⟩
  · refine x10 (by omega) (by decide) (by decide) hp hA.1.1 (rn80 (by omega) (hA.t1 80 (by omega)) ?_)
    refine z (by omega) (by decide) (by omega) (by omega) (hA.t1 80 (by omega)) (by omega) ⟨_, rfl, ?_⟩
    refine x10K (by omega) ho ho (by omega) (by omega) ((hA.t1 80 (by omega)).tr ([10] ++ tkLs own) 3 (by have := tkLs_l own; simp only [List.length_append, List.length_cons, List.length_nil]; omega) (by omega)) (by omega) ⟨_, rfl, _, rfl, ?_⟩
    rw [← trG_app]
    exact h
theorem x10E {d : Nat} {k x deep n own m : Int} {I : ME} {Q : Option MV → ME → Prop} (hd : 30 ≤ d) (hk : 0 ≤ k ∧ k < 8) (ho : 0 ≤ own ∧ own < 8) (hp : 0 ≤ deep ∧ deep ≤ 30) (hp2 : deep ≤ 15) (hA : aK I n own m) (hm : m ≤ 600) (h : Q (some (nt (teV n own k x))) (trG 44 3 46 I (teLs own k))) : EvM d 10 [rf 44, nt k, nt 3, nt x, nt deep] I Q := by
  have z : ∀ {d : Nat} {k x deep m : Int} {I : ME} {Q : Option MV → ME → Prop}, 25 ≤ d → k = 3 ∨ k = 4 → 0 ≤ deep ∧ deep ≤ 30 → deep ≤ 18 → aK I n own m → m ≤ 650 → Q (some (nt (isb (grV n own own x) (kpV n own own 1)))) (trG 44 3 46 I ([2] ++ grLs own own ++ kpLs own own)) → EvM d 10 [rf 44, nt k, nt 3, nt x, nt deep] I Q := by
    intro d k x deep m I Q hd hk hp hp2 hA hm h
    rcases hk with rfl | rfl
    all_goals
      refine x10 (by omega) (by decide) (by decide) hp hA.1.1 (rn2 (by omega) (hA.t1 2 (by omega)) ?_)
      refine x10G (by omega) ho ho (by omega) (by omega) (hA.t1 2 (by omega)) (by omega) ⟨_, rfl, ?_⟩
      refine x10K (by omega) ho ho (by omega) (by omega) ((hA.t1 2 (by omega)).tr (grLs own own) 8 (grLs_l own own) (by omega)) (by omega) ⟨_, rfl, _, rfl, ?_⟩
      rw [← trG_app]
      exact h
  have hc : k = 0 ∨ k = 1 ∨ k = 2 ∨ k = 3 ∨ k = 4 ∨ k = 5 ∨ k = 6 ∨ k = 7 := by omega
  rcases hc with rfl | rfl | rfl | rfl | rfl | rfl | rfl | rfl
  · refine x10 (by omega) (by decide) (by decide) hp hA.1.1 (rn2 (by omega) (hA.t1 2 (by omega)) ?_)
    refine x10G (by omega) ho ho (by omega) (by omega) (hA.t1 2 (by omega)) (by omega) ⟨_, rfl, ?_⟩
    refine x10K (by omega) ho ho (by omega) (by omega) ((hA.t1 2 (by omega)).tr (grLs own own) 8 (grLs_l own own) (by omega)) (by omega) ⟨_, rfl, _, rfl, ?_⟩
    rw [← trG_app]
    exact h
  · refine x10 (by omega) (by decide) (by decide) hp hA.1.1 (rn2 (by omega) (hA.t1 2 (by omega)) ?_)
    refine x10G (by omega) ho ho (by omega) (by omega) (hA.t1 2 (by omega)) (by omega) ⟨_, rfl, ?_⟩
    refine x10K (by omega) ho ho (by omega) (by omega) ((hA.t1 2 (by omega)).tr (grLs own own) 8 (grLs_l own own) (by omega)) (by omega) ⟨_, rfl, _, rfl, ?_⟩
    rw [← trG_app]
    exact h
  · refine x10 (by omega) (by decide) (by decide) hp hA.1.1 (rn2 (by omega) (hA.t1 2 (by omega)) ?_)
    refine x10G (by omega) ho ho (by omega) (by omega) (hA.t1 2 (by omega)) (by omega) ⟨_, rfl, ?_⟩
    refine x10K (by omega) ho ho (by omega) (by omega) ((hA.t1 2 (by omega)).tr (grLs own own) 8 (grLs_l own own) (by omega)) (by omega) ⟨_, rfl, _, rfl, ?_⟩
    rw [← trG_app]
    exact h
  · refine x10 (by omega) (by decide) (by decide) hp hA.1.1 (rn2 (by omega) (hA.t1 2 (by omega)) ?_)
    refine x10G (by omega) ho ho (by omega) (by omega) (hA.t1 2 (by omega)) (by omega) ⟨_, rfl, ?_⟩
    refine x10K (by omega) ho ho (by omega) (by omega) ((hA.t1 2 (by omega)).tr (grLs own own) 8 (grLs_l own own) (by omega)) (by omega) ⟨_, rfl, _, rfl, ?_⟩
    rw [← trG_app]
    exact h
  · refine x10 (by omega) (by decide) (by decide) hp hA.1.1 (rn2 (by omega) (hA.t1 2 (by omega)) ?_)
    refine x10G (by omega) ho ho (by omega) (by omega) (hA.t1 2 (by omega)) (by omega) ⟨_, rfl, ?_⟩
    refine x10K (by omega) ho ho (by omega) (by omega) ((hA.t1 2 (by omega)).tr (grLs own own) 8 (grLs_l own own) (by omega)) (by omega) ⟨_, rfl, _, rfl, ?_⟩
    rw [← trG_app]
    exact h
  · refine x10 (by omega) (by decide) (by decide) hp hA.1.1 (rn60 (by omega) (hA.t1 60 (by omega)) ?_)
    exact z (by omega) (by decide) (by omega) (by omega) (hA.t1 60 (by omega)) (by omega) ⟨_, rfl, _, rfl, h⟩
  · refine x10 (by omega) (by decide) (by decide) hp hA.1.1 (rn2 (by omega) (hA.t1 2 (by omega)) ?_)
    refine x10G (by omega) ho ho (by omega) (by omega) (hA.t1 2 (by omega)) (by omega) ⟨_, rfl, ?_⟩
    refine x10K (by omega) ho ho (by omega) (by omega) ((hA.t1 2 (by omega)).tr (grLs own own) 8 (grLs_l own own) (by omega)) (by omega) ⟨_, rfl, _, rfl, ?_⟩
    rw [← trG_app]
    exact h
  · refine x10 (by omega) (by decide) (by decide) hp hA.1.1 (rn81 (by omega) (hA.t1 81 (by omega)) ?_)
    exact z (by omega) (by decide) (by omega) (by omega) (hA.t1 81 (by omega)) (by omega) ⟨_, rfl, _, rfl, h⟩
def acV (n own a x : Int) : Int := if a = 0 then tkV n own x else if a = 1 then grV n own own x else if a = 2 then kpV n own own x else teV n own own x
def acL (own a : Int) : List Int := if a = 0 then tkLs own else if a = 1 then grLs own own else if a = 2 then kpLs own own else teLs own own
theorem acL_l (own a : Int) : (acL own a).length ≤ 14 := by
  have := tkLs_l own
  have := grLs_l own own
  have := kpLs_l own own
  have := teLs_l own own
  unfold acL; repeat' split
  all_goals omega
theorem x9 {d : Nat} {b a x : Int} {I : ME} {Q : Option MV → ME → Prop} (hd : 32 ≤ d) (hz : 0 ≤ I 44 2 ∧ I 44 2 ≤ 50) (hk : ∀ i, 0 ≤ i → i < I 44 2 → 0 ≤ I 45 i ∧ I 45 i < 8)
    (h0 : ¬ ((0 ≤ b ∧ b < I 44 2) ∧ 0 ≤ a ∧ a ≤ 3) → Q (some (nt 0)) (upd_ I 44 3 0))
    (h1 : ((0 ≤ b ∧ b < I 44 2) ∧ 0 ≤ a ∧ a ≤ 3) → Q (some (nt (acV b (I 45 b) a x))) (trG 44 3 46 (upd_ (upd_ I 44 3 0) 44 4 b) (acL (I 45 b) a))) : EvM d 9 [rf 44, nt b, nt a, nt x] I Q := by
  refine EvM.go [] (T := T_9) rfl rfl rfl rfl ?_
  conv => whnf
  have e2 : upd_ I 44 3 0 44 2 = I 44 2 := by rw [up_ne (by decide)]
  refine ⟨by omega, x4 (fun p => ?_) (fun p => ?_)⟩ <;> conv => whnf
  · rw [e2] at p
    refine brI (fun q => ?_) (fun q => ?_) <;> conv => whnf
    · exact ⟨trivial, h0 (by omega)⟩
    · refine brI (fun q => ?_) (fun q => ?_) <;> conv => whnf
      · exact ⟨trivial, h0 (by omega)⟩
      · have hk' := hk b p.1 p.2
        have h1 := h1 (by omega)
        refine anI (by omega) ?_
        conv => whnf
        have e45 : upd_ (upd_ I 44 3 0) 44 4 b 45 b = I 45 b := by rw [up_c (by decide), up_c (by decide)]
        rw [e45]
        have hA : aK (upd_ (upd_ I 44 3 0) 44 4 b) b (I 45 b) 0 := ⟨by rw [up_ne (by decide), up_eq]; omega, by omega, up_eq _ _ _ _, e45⟩
        have hc2 : a = 0 ∨ a = 1 ∨ a = 2 ∨ a = 3 := by omega
        rcases hc2 with rfl | rfl | rfl | rfl
        · refine ⟨by omega, x10T (by omega) hk' (by decide) (by decide) hA (by omega) ?_⟩
          conv => whnf
          exact ⟨trivial, h1⟩
        · refine ⟨by omega, x10G (by omega) hk' hk' (by decide) (by decide) hA (by omega) ?_⟩
          conv => whnf
          exact ⟨trivial, h1⟩
        · refine ⟨by omega, x10K (by omega) hk' hk' (by decide) (by decide) hA (by omega) ?_⟩
          conv => whnf
          exact ⟨trivial, h1⟩
        · refine ⟨by omega, x10E (by omega) hk' hk' (by decide) (by decide) hA (by omega) ?_⟩
          conv => whnf
          exact ⟨trivial, h1⟩
  · rw [e2] at p
    exact ⟨trivial, h0 (by omega)⟩
theorem x166 {d : Nat} {b a x : Int} {I : ME} {Q : Option MV → ME → Prop} (hd : 33 ≤ d) (hz : 0 ≤ I 44 2 ∧ I 44 2 ≤ 50) (hk : ∀ i, 0 ≤ i → i < I 44 2 → 0 ≤ I 45 i ∧ I 45 i < 8)
    (h0 : ¬ ((0 ≤ b ∧ b < I 44 2) ∧ 0 ≤ a ∧ a ≤ 3) → Q (some (nt 0)) (upd_ I 44 3 0))
    (h1 : ((0 ≤ b ∧ b < I 44 2) ∧ 0 ≤ a ∧ a ≤ 3) → Q (some (nt (acV b (I 45 b) a x))) (trG 44 3 46 (upd_ (upd_ I 44 3 0) 44 4 b) (acL (I 45 b) a))) : EvM d 166 [rf 0, nt b, nt a, nt x] I Q := by
  refine EvM.go [] (T := T_166) rfl rfl rfl rfl ?_
  conv => whnf
  refine ⟨by omega, x9 (by omega) hz hk (fun p => ?_) (fun p => ?_)⟩ <;> conv => whnf
  · exact ⟨trivial, h0 p⟩
  · exact ⟨trivial, h1 p⟩
