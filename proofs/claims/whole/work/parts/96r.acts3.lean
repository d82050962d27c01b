/-! ACTS of the model; both sides -/
def bK (I : ME) (n own m : Int) : Prop := (0 ≤ I 53 47 ∧ I 53 47 ≤ m) ∧ I 53 49 = n ∧ I 53 48 = own
theorem bK.tr {I : ME} {n own m : Int} (h : bK I n own m) (L : List Int) (j : Nat) (hl : L.length ≤ j) (hm : m + j ≤ 1000) : bK (trG 53 47 75 I L) n own (m + j) := by
  obtain ⟨a, b, c⟩ := h
  have := trG_r (a := 53) (f := 47) (b := 75) I L a.1 (by omega)
  refine ⟨by omega, ?_, ?_⟩
  · rw [trG_f (by decide) (by decide)]; exact b
  · rw [trG_f (by decide) (by decide)]; exact c
theorem bK.t1 {I : ME} {n own m : Int} (h : bK I n own m) (x : Int) (hm : m + 1 ≤ 1000) : bK (tr1 53 47 75 I x) n own (m + 1) := h.tr [x] 1 (Nat.le_refl 1) hm
theorem m278 {d : Nat} {b : Int} {I : ME} {Q : Option MV → ME → Prop} (hr : 0 ≤ I 53 47) (h : Q none (tr1 53 47 75 I b)) : EvM d 278 [rf 53, nt b] I Q := by
  refine EvM.go [] (T := T_278) rfl rfl rfl rfl ?_
  conv => whnf
  refine brI (fun hq => ?_) (fun hq => ?_) <;> conv => whnf
  · refine anI (by omega) ?_
    conv => whnf
    rw [tr1_y hq (by decide)]
    exact ⟨trivial, h⟩
  · rw [tr1_n hq]
    exact ⟨trivial, h⟩
theorem m279 {d : Nat} {k x n own m : Int} {I : ME} {Q : Option MV → ME → Prop} (hd : 6 ≤ d) (hk : 0 ≤ k ∧ k < 8) (hA : bK I n own m) (hm : m ≤ 900) (h : Q (some (nt (tkV n k x))) (trG 53 47 75 I (tkLs k))) : EvM d 279 [rf 53, nt k, nt x] I Q := by
  have z : ∀ {d : Nat} {x m : Int} {I : ME} {Q : Option MV → ME → Prop}, 3 ≤ d → bK I n own m → m ≤ 950 → Q (some (nt (iad x n))) (trG 53 47 75 I [1]) → EvM d 279 [rf 53, nt 0, nt x] I Q := by
    intro d x m I Q hd hA hm h
    refine EvM.go [] (T := T_279) rfl rfl rfl rfl ?_
    conv => whnf
    refine ⟨by omega, m278 hA.1.1 ?_⟩
    conv => whnf
    have hB := hA.t1 1 (by omega)
    rw [hB.2.1]
    exact ⟨trivial, h⟩
  have hc : k = 0 ∨ k = 1 ∨ k = 2 ∨ k = 3 ∨ k = 4 ∨ k = 5 ∨ k = 6 ∨ k = 7 := by omega
  rcases hc with rfl | rfl | rfl | rfl | rfl | rfl | rfl | rfl
  · refine EvM.go [] (T := T_279) rfl rfl rfl rfl ?_
    conv => whnf
    refine ⟨by omega, m278 hA.1.1 ?_⟩
    conv => whnf
    have hB := hA.t1 1 (by omega)
    rw [hB.2.1]
    exact ⟨trivial, h⟩
  · refine EvM.go [] (T := T_279) rfl rfl rfl rfl ?_
    conv => whnf
    refine ⟨by omega, m278 hA.1.1 ?_⟩
    conv => whnf
    have hB := hA.t1 20 (by omega)
    refine ⟨by omega, z (by omega) hB (by omega) ?_⟩
    conv => whnf
    exact ⟨trivial, h⟩
  · refine EvM.go [] (T := T_279) rfl rfl rfl rfl ?_
    conv => whnf
    refine ⟨by omega, m278 hA.1.1 ?_⟩
    conv => whnf
    have hB := hA.t1 1 (by omega)
    rw [hB.2.1]
    exact ⟨trivial, h⟩
  · refine EvM.go [] (T := T_279) rfl rfl rfl rfl ?_
    conv => whnf
    refine ⟨by omega, m278 hA.1.1 ?_⟩
    conv => whnf
    have hB := hA.t1 1 (by omega)
    rw [hB.2.1]
    exact ⟨trivial, h⟩
  · refine EvM.go [] (T := T_279) rfl rfl rfl rfl ?_
    conv => whnf
    refine ⟨by omega, m278 hA.1.1 ?_⟩
    conv => whnf
    have hB := hA.t1 20 (by omega)
    refine ⟨by omega, z (by omega) hB (by omega) ?_⟩
    conv => whnf
    exact ⟨trivial, h⟩
  · refine EvM.go [] (T := T_279) rfl rfl rfl rfl ?_
    conv => whnf
    refine ⟨by omega, m278 hA.1.1 ?_⟩
    conv => whnf
    have hB := hA.t1 1 (by omega)
    rw [hB.2.1]
    exact ⟨trivial, h⟩
  · refine EvM.go [] (T := T_279) rfl rfl rfl rfl ?_
    conv => whnf
    refine ⟨by omega, m278 hA.1.1 ?_⟩
    conv => whnf
    have hB := hA.t1 70 (by omega)
    refine ⟨by omega, z (by omega) hB (by omega) ?_⟩
    conv => whnf
    exact ⟨trivial, h⟩
  · refine EvM.go [] (T := T_279) rfl rfl rfl rfl ?_
    conv => whnf
    refine ⟨by omega, m278 hA.1.1 ?_⟩
    conv => whnf
    have hB := hA.t1 20 (by omega)
    refine ⟨by omega, z (by omega) hB (by omega) ?_⟩
    conv => whnf
    exact ⟨trivial, h⟩
theorem m281 {d : Nat} {k x n own m : Int} {I : ME} {Q : Option MV → ME → Prop} (hd : 12 ≤ d) (hk : 0 ≤ k ∧ k < 8) (ho : 0 ≤ own ∧ own < 8) (hA : bK I n own m) (hm : m ≤ 800) (h : Q (some (nt (kpV n own k x))) (trG 53 47 75 I (kpLs own k))) : EvM d 281 [rf 53, nt k, nt x] I Q := by
  have z : ∀ {d : Nat} {k x m : Int} {I : ME} {Q : Option MV → ME → Prop}, 3 ≤ d → k = 1 ∨ k = 2 → bK I n own m → m ≤ 950 → Q (some (nt (ixr x n))) (trG 53 47 75 I [11]) → EvM d 281 [rf 53, nt k, nt x] I Q := by
    intro d k x m I Q hd hk hA hm h
    rcases hk with rfl | rfl
    · refine EvM.go [] (T := T_281) rfl rfl rfl rfl ?_
      conv => whnf
      refine ⟨by omega, m278 hA.1.1 ?_⟩
      conv => whnf
      have hB := hA.t1 11 (by omega)
      rw [hB.2.1]
      exact ⟨trivial, h⟩
    · refine EvM.go [] (T := T_281) rfl rfl rfl rfl ?_
      conv => whnf
      refine ⟨by omega, m278 hA.1.1 ?_⟩
      conv => whnf
      have hB := hA.t1 11 (by omega)
      rw [hB.2.1]
      exact ⟨trivial, h⟩
  have hc : k = 0 ∨ k = 1 ∨ k = 2 ∨ k = 3 ∨ k = 4 ∨ k = 5 ∨ k = 6 ∨ k = 7 := by omega
  rcases hc with rfl | rfl | rfl | rfl | rfl | rfl | rfl | rfl
  · refine EvM.go [] (T := T_281) rfl rfl rfl rfl ?_
    conv => whnf
    refine ⟨by omega, m278 hA.1.1 ?_⟩
    conv => whnf
    have hB := hA.t1 11 (by omega)
    rw [hB.2.1]
    exact ⟨trivial, h⟩
  · refine EvM.go [] (T := T_281) rfl rfl rfl rfl ?_
    conv => whnf
    refine ⟨by omega, m278 hA.1.1 ?_⟩
    conv => whnf
    have hB := hA.t1 11 (by omega)
    rw [hB.2.1]
    exact ⟨trivial, h⟩
  · refine EvM.go [] (T := T_281) rfl rfl rfl rfl ?_
    conv => whnf
    refine ⟨by omega, m278 hA.1.1 ?_⟩
    conv => whnf
    have hB := hA.t1 11 (by omega)
    rw [hB.2.1]
    exact ⟨trivial, h⟩
  · refine EvM.go [] (T := T_281) rfl rfl rfl rfl ?_
    conv => whnf
    refine ⟨by omega, m278 hA.1.1 ?_⟩
    conv => whnf
    have hB := hA.t1 40 (by omega)
    refine ⟨by omega, z (by omega) (by decide) hB (by omega) ?_⟩
    conv => whnf
    exact ⟨trivial, h⟩
  · refine EvM.go [] (T := T_281) rfl rfl rfl rfl ?_
    conv => whnf
    refine ⟨by omega, m278 hA.1.1 ?_⟩
    conv => whnf
    have hB := hA.t1 50 (by omega)
    refine ⟨by omega, z (by omega) (by decide) hB (by omega) ?_⟩
    conv => whnf
    have hB2 := hB.tr [11] 1 (by decide) (by omega)
    rw [hB2.2.2]
    refine ⟨by omega, m279 (by omega) ho hB2 (by omega) ?_⟩
    conv => whnf
    exact ⟨trivial, h⟩
  · refine EvM.go [] (T := T_281) rfl rfl rfl rfl ?_
    conv => whnf
    refine ⟨by omega, m278 hA.1.1 ?_⟩
    conv => whnf
    have hB := hA.t1 40 (by omega)
    refine ⟨by omega, z (by omega) (by decide) hB (by omega) ?_⟩
    conv => whnf
    exact ⟨trivial, h⟩
  · refine EvM.go [] (T := T_281) rfl rfl rfl rfl ?_
    conv => whnf
    refine ⟨by omega, m278 hA.1.1 ?_⟩
    conv => whnf
    have hB := hA.t1 11 (by omega)
    rw [hB.2.1]
    exact ⟨trivial, h⟩
  · refine EvM.go [] (T := T_281) rfl rfl rfl rfl ?_
    conv => whnf
    refine ⟨by omega, m278 hA.1.1 ?_⟩
    conv => whnf
    have hB := hA.t1 50 (by omega)
    refine ⟨by omega, z (by omega) (by decide) hB (by omega) ?_⟩
    conv => whnf
    have hB2 := hB.tr [11] 1 (by decide) (by omega)
    rw [hB2.2.2]
    refine ⟨by omega, m279 (by omega) ho hB2 (by omega) ?_⟩
    conv => whnf
    exact ⟨trivial, h⟩
theorem m280 {d : Nat} {k x n own m : Int} {I : ME} {Q : Option MV → ME → Prop} (hd : 20 ≤ d) (hk : 0 ≤ k ∧ k < 8) (ho : 0 ≤ own ∧ own < 8) (hA : bK I n own m) (hm : m ≤ 700) (h : Q (some (nt (grV n own k x))) (trG 53 47 75 I (grLs own k))) : EvM d 280 [rf 53, nt k, nt x] I Q := by
  have z : ∀ {d : Nat} {k x m : Int} {I : ME} {Q : Option MV → ME → Prop}, 10 ≤ d → k = 0 ∨ k = 4 → bK I n own m → m ≤ 890 → Q (some (nt (iml (tkV n own x) 2))) (trG 53 47 75 I ([10] ++ tkLs own)) → EvM d 280 [rf 53, nt k, nt x] I Q := by
    intro d k x m I Q hd hk hA hm h
    rcases hk with rfl | rfl
    · refine EvM.go [] (T := T_280) rfl rfl rfl rfl ?_
      conv => whnf
      refine ⟨by omega, m278 hA.1.1 ?_⟩
      conv => whnf
      have hB := hA.t1 10 (by omega)
      rw [hB.2.2]
      refine ⟨by omega, m279 (by omega) ho hB (by omega) ?_⟩
      conv => whnf
      exact ⟨trivial, h⟩
    · refine EvM.go [] (T := T_280) rfl rfl rfl rfl ?_
      conv => whnf
      refine ⟨by omega, m278 hA.1.1 ?_⟩
      conv => whnf
      have hB := hA.t1 10 (by omega)
      rw [hB.2.2]
      refine ⟨by omega, m279 (by omega) ho hB (by omega) ?_⟩
      conv => whnf
      exact ⟨trivial, h⟩
  have z2 : ∀ {d : Nat} {x m : Int} {I : ME} {Q : Option MV → ME → Prop}, 14 ≤ d → bK I n own m → m ≤ 800 → Q (some (nt (ing (iml (tkV n own x) 2)))) (trG 53 47 75 I ([30, 10] ++ tkLs own)) → EvM d 280 [rf 53, nt 2, nt x] I Q := by
    intro d x m I Q hd hA hm h
    refine EvM.go [] (T := T_280) rfl rfl rfl rfl ?_
    conv => whnf
    refine ⟨by omega, m278 hA.1.1 ?_⟩
    conv => whnf
    have hB := hA.t1 30 (by omega)
    refine ⟨by omega, z (by omega) (by decide) hB (by omega) ?_⟩
    conv => whnf
    exact ⟨trivial, h⟩
  have hc : k = 0 ∨ k = 1 ∨ k = 2 ∨ k = 3 ∨ k = 4 ∨ k = 5 ∨ k = 6 ∨ k = 7 := by omega
  rcases hc with rfl | rfl | rfl | rfl | rfl | rfl | rfl | rfl
  · refine EvM.go [] (T := T_280) rfl rfl rfl rfl ?_
    conv => whnf
    refine ⟨by omega, m278 hA.1.1 ?_⟩
    conv => whnf
    have hB := hA.t1 10 (by omega)
    rw [hB.2.2]
    refine ⟨by omega, m279 (by omega) ho hB (by omega) ?_⟩
    conv => whnf
    exact ⟨trivial, h⟩
  · refine EvM.go [] (T := T_280) rfl rfl rfl rfl ?_
    conv => whnf
    refine ⟨by omega, m278 hA.1.1 ?_⟩
    conv => whnf
    have hB := hA.t1 10 (by omega)
    rw [hB.2.2]
    refine ⟨by omega, m279 (by omega) ho hB (by omega) ?_⟩
    conv => whnf
    exact ⟨trivial, h⟩
  · exact z2 (by omega) hA (by omega) h
  · refine EvM.go [] (T := T_280) rfl rfl rfl rfl ?_
    conv => whnf
    refine ⟨by omega, m278 hA.1.1 ?_⟩
    conv => whnf
    have hB := hA.t1 41 (by omega)
    refine ⟨by omega, z2 (by omega) hB (by omega) ?_⟩
    conv => whnf
    exact ⟨trivial, h⟩
  · refine EvM.go [] (T := T_280) rfl rfl rfl rfl ?_
    conv => whnf
    refine ⟨by omega, m278 hA.1.1 ?_⟩
    conv => whnf
    have hB := hA.t1 10 (by omega)
    rw [hB.2.2]
    refine ⟨by omega, m279 (by omega) ho hB (by omega) ?_⟩
    conv => whnf
    exact ⟨trivial, h⟩
  · refine EvM.go [] (T := T_280) rfl rfl rfl rfl ?_
    conv => whnf
    refine ⟨by omega, m278 hA.1.1 ?_⟩
    conv => whnf
    have hB := hA.t1 41 (by omega)
    refine ⟨by omega, z2 (by omega) hB (by omega) ?_⟩
    conv => whnf
    exact ⟨trivial, h⟩
  · refine EvM.go [] (T := T_280) rfl rfl rfl rfl ?_
    conv => whnf
    refine ⟨by omega, m278 hA.1.1 ?_⟩
    conv => whnf
    have hB := hA.t1 10 (by omega)
    rw [hB.2.2]
    refine ⟨by omega, m279 (by omega) ho hB (by omega) ?_⟩
    conv => whnf
    exact ⟨trivial, h⟩
  · refine EvM.go [] (T := T_280) rfl rfl rfl rfl ?_
    conv => whnf
    refine ⟨by omega, m278 hA.1.1 ?_⟩
    conv => whnf
    have hB := hA.t1 80 (by omega)
    refine ⟨by omega, z (by omega) (by decide) hB (by omega) ?_⟩
    conv => whnf
    have hB2 := hB.tr ([10] ++ tkLs own) 3 (by have := tkLs_l own; simp only [List.length_append, List.length_cons, List.length_nil]; omega) (by omega)
    rw [hB2.2.2]
    refine ⟨by omega, m281 (by omega) ho ho hB2 (by omega) ?_⟩
    conv => whnf
    rw [← trG_app]
    exact ⟨trivial, h⟩
theorem m282 {d : Nat} {k x n own m : Int} {I : ME} {Q : Option MV → ME → Prop} (hd : 30 ≤ d) (hk : 0 ≤ k ∧ k < 8) (ho : 0 ≤ own ∧ own < 8) (hA : bK I n own m) (hm : m ≤ 600) (h : Q (some (nt (teV n own k x))) (trG 53 47 75 I (teLs own k))) : EvM d 282 [rf 53, nt k, nt x] I Q := by
  have z : ∀ {d : Nat} {k x m : Int} {I : ME} {Q : Option MV → ME → Prop}, 25 ≤ d → k = 3 ∨ k = 4 → bK I n own m → m ≤ 650 → Q (some (nt (isb (grV n own own x) (kpV n own own 1)))) (trG 53 47 75 I ([2] ++ grLs own own ++ kpLs own own)) → EvM d 282 [rf 53, nt k, nt x] I Q := by
    intro d k x m I Q hd hk hA hm h
    rcases hk with rfl | rfl
    · refine EvM.go [] (T := T_282) rfl rfl rfl rfl ?_
      conv => whnf
      refine ⟨by omega, m278 hA.1.1 ?_⟩
      conv => whnf
      have hB := hA.t1 2 (by omega)
      rw [hB.2.2]
      refine ⟨by omega, m280 (by omega) ho ho hB (by omega) ?_⟩
      conv => whnf
      have hB2 := hB.tr (grLs own own) 8 (grLs_l own own) (by omega)
      rw [hB2.2.2]
      refine ⟨by omega, m281 (by omega) ho ho hB2 (by omega) ?_⟩
      conv => whnf
      rw [← trG_app]
      exact ⟨trivial, h⟩
    · refine EvM.go [] (T := T_282) rfl rfl rfl rfl ?_
      conv => whnf
      refine ⟨by omega, m278 hA.1.1 ?_⟩
      conv => whnf
      have hB := hA.t1 2 (by omega)
      rw [hB.2.2]
      refine ⟨by omega, m280 (by omega) ho ho hB (by omega) ?_⟩
      conv => whnf
      have hB2 := hB.tr (grLs own own) 8 (grLs_l own own) (by omega)
      rw [hB2.2.2]
      refine ⟨by omega, m281 (by omega) ho ho hB2 (by omega) ?_⟩
      conv => whnf
      rw [← trG_app]
      exact ⟨trivial, h⟩
  have hc : k = 0 ∨ k = 1 ∨ k = 2 ∨ k = 3 ∨ k = 4 ∨ k = 5 ∨ k = 6 ∨ k = 7 := by omega
  rcases hc with rfl | rfl | rfl | rfl | rfl | rfl | rfl | rfl
  · refine EvM.go [] (T := T_282) rfl rfl rfl rfl ?_
    conv => whnf
    refine ⟨by omega, m278 hA.1.1 ?_⟩
    conv => whnf
    have hB := hA.t1 2 (by omega)
    rw [hB.2.2]
    refine ⟨by omega, m280 (by omega) ho ho hB (by omega) ?_⟩
    conv => whnf
    have hB2 := hB.tr (grLs own own) 8 (grLs_l own own) (by omega)
    rw [hB2.2.2]
    refine ⟨by omega, m281 (by omega) ho ho hB2 (by omega) ?_⟩
    conv => whnf
    rw [← trG_app]
    exact ⟨trivial, h⟩
  · refine EvM.go [] (T := T_282) rfl rfl rfl rfl ?_
    conv => whnf
    refine ⟨by omega, m278 hA.1.1 ?_⟩
    conv => whnf
    have hB := hA.t1 2 (by omega)
    rw [hB.2.2]
    refine ⟨by omega, m280 (by omega) ho ho hB (by omega) ?_⟩
    conv => whnf
    have hB2 := hB.tr (grLs own own) 8 (grLs_l own own) (by omega)
    rw [hB2.2.2]
    refine ⟨by omega, m281 (by omega) ho ho hB2 (by omega) ?_⟩
    conv => whnf
    rw [← trG_app]
    exact ⟨trivial, h⟩
  · refine EvM.go [] (T := T_282) rfl rfl rfl rfl ?_
    conv => whnf
    refine ⟨by omega, m278 hA.1.1 ?_⟩
    conv => whnf
    have hB := hA.t1 2 (by omega)
    rw [hB.2.2]
    refine ⟨by omega, m280 (by omega) ho ho hB (by omega) ?_⟩
    conv => whnf
    have hB2 := hB.tr (grLs own own) 8 (grLs_l own own) (by omega)
    rw [hB2.2.2]
    refine ⟨by omega, m281 (by omega) ho ho hB2 (by omega) ?_⟩
    conv => whnf
    rw [← trG_app]
    exact ⟨trivial, h⟩
  · refine EvM.go [] (T := T_282) rfl rfl rfl rfl ?_
    conv => whnf
    refine ⟨by omega, m278 hA.1.1 ?_⟩
    conv => whnf
    have hB := hA.t1 2 (by omega)
    rw [hB.2.2]
    refine ⟨by omega, m280 (by omega) ho ho hB (by omega) ?_⟩
    conv => whnf
    have hB2 := hB.tr (grLs own own) 8 (grLs_l own own) (by omega)
    rw [hB2.2.2]
    refine ⟨by omega, m281 (by omega) ho ho hB2 (by omega) ?_⟩
    conv => whnf
    rw [← trG_app]
    exact ⟨trivial, h⟩
  · refine EvM.go [] (T := T_282) rfl rfl rfl rfl ?_
    conv => whnf
    refine ⟨by omega, m278 hA.1.1 ?_⟩
    conv => whnf
    have hB := hA.t1 2 (by omega)
    rw [hB.2.2]
    refine ⟨by omega, m280 (by omega) ho ho hB (by omega) ?_⟩
    conv => whnf
    have hB2 := hB.tr (grLs own own) 8 (grLs_l own own) (by omega)
    rw [hB2.2.2]
    refine ⟨by omega, m281 (by omega) ho ho hB2 (by omega) ?_⟩
    conv => whnf
    rw [← trG_app]
    exact ⟨trivial, h⟩
  · refine EvM.go [] (T := T_282) rfl rfl rfl rfl ?_
    conv => whnf
    refine ⟨by omega, m278 hA.1.1 ?_⟩
    conv => whnf
    have hB := hA.t1 60 (by omega)
    refine ⟨by omega, z (by omega) (by decide) hB (by omega) ?_⟩
    conv => whnf
    exact ⟨trivial, h⟩
  · refine EvM.go [] (T := T_282) rfl rfl rfl rfl ?_
    conv => whnf
    refine ⟨by omega, m278 hA.1.1 ?_⟩
    conv => whnf
    have hB := hA.t1 2 (by omega)
    rw [hB.2.2]
    refine ⟨by omega, m280 (by omega) ho ho hB (by omega) ?_⟩
    conv => whnf
    have hB2 := hB.tr (grLs own own) 8 (grLs_l own own) (by omega)
    rw [hB2.2.2]
    refine ⟨by omega, m281 (by omega) ho ho hB2 (by omega) ?_⟩
    conv => whnf
    rw [← trG_app]
    exact ⟨trivial, h⟩
  · refine EvM.go [] (T := T_282) rfl rfl rfl rfl ?_
    conv => whnf
    refine ⟨by omega, m278 hA.1.1 ?_⟩
    conv => whnf
    have hB := hA.t1 81 (by omega)
    refine ⟨by omega, z (by omega) (by decide) hB (by omega) ?_⟩
    conv => whnf
    exact ⟨trivial, h⟩
theorem m283 {d : Nat} {b a x : Int} {I : ME} {Q : Option MV → ME → Prop} (hd : 32 ≤ d) (hz : 0 ≤ I 53 44 ∧ I 53 44 ≤ 50) (hk : ∀ i, 0 ≤ i → i < I 53 44 → 0 ≤ I 74 i ∧ I 74 i < 8)
    (h0 : ¬ (0 ≤ b ∧ b < I 53 44) → Q (some (nt 0)) (upd_ I 53 47 0)) (h2 : (0 ≤ b ∧ b < I 53 44) → ¬ (0 ≤ a ∧ a ≤ 3) → Q (some (nt 0)) (upd_ (upd_ (upd_ I 53 47 0) 53 48 (I 74 b)) 53 49 b))
    (h1 : (0 ≤ b ∧ b < I 53 44) → (0 ≤ a ∧ a ≤ 3) → Q (some (nt (acV b (I 74 b) a x))) (trG 53 47 75 (upd_ (upd_ (upd_ I 53 47 0) 53 48 (I 74 b)) 53 49 b) (acL (I 74 b) a))) : EvM d 283 [rf 53, nt b, nt a, nt x] I Q := by
  refine EvM.go [] (T := T_283) rfl rfl rfl rfl ?_
  conv => whnf
  have e44 : upd_ I 53 47 0 53 44 = I 53 44 := by rw [up_ne (by decide)]
  refine ⟨by omega, m274 (by omega) (by omega) (by omega) (fun p => ?_) (fun p => ?_)⟩ <;> conv => whnf
  · rw [e44] at p
    have hk' := hk b p.1 p.2
    refine anI (by omega) ?_
    conv => whnf
    have e74 : upd_ I 53 47 0 74 b = I 74 b := by rw [up_c (by decide)]
    rw [e74]
    have hA : bK (upd_ (upd_ (upd_ I 53 47 0) 53 48 (I 74 b)) 53 49 b) b (I 74 b) 0 := ⟨by simp (disch := omega) only [up_ne, up_eq]; omega, by rw [up_eq], by rw [up_ne (by decide), up_eq]⟩
    have h1 := h1 p
    have h2 := h2 p
    refine brI (fun q => ?_) (fun q => ?_) <;> conv => whnf
    · subst q
      rw [hA.2.2]
      refine ⟨by omega, m279 (by omega) hk' hA (by omega) ?_⟩
      conv => whnf
      exact ⟨trivial, h1 (by decide)⟩
    · refine brI (fun q => ?_) (fun q => ?_) <;> conv => whnf
      · subst q
        rw [hA.2.2]
        refine ⟨by omega, m280 (by omega) hk' hk' hA (by omega) ?_⟩
        conv => whnf
        exact ⟨trivial, h1 (by decide)⟩
      · refine brI (fun q => ?_) (fun q => ?_) <;> conv => whnf
        · subst q
          rw [hA.2.2]
          refine ⟨by omega, m281 (by omega) hk' hk' hA (by omega) ?_⟩
          conv => whnf
          exact ⟨trivial, h1 (by decide)⟩
        · refine brI (fun q => ?_) (fun q => ?_) <;> conv => whnf
          · subst q
            rw [hA.2.2]
            refine ⟨by omega, m282 (by omega) hk' hk' hA (by omega) ?_⟩
            conv => whnf
            exact ⟨trivial, h1 (by decide)⟩
          · exact ⟨trivial, h2 (by omega)⟩
  · rw [e44] at p
    exact ⟨trivial, h0 p⟩
theorem op36 {b a x : Int} : OpI 166 283 [nt b, nt a, nt x] := by
  intro c I hc0 hc h
  have hf := h.f
  obtain ⟨ln, hC, hM⟩ := h
  have hkC := hC.2.2.2.2.1.2.2
  have hkM : ∀ i, 0 ≤ i → i < I 53 44 → 0 ≤ I 74 i ∧ I 74 i < 8 := fun i i0 i1 => by
    rw [hM.2.2.2.2.1.2.2.1 i i0 (by omega)]; exact hkC i i0 (by omega)
  have hk2 : (0 ≤ b ∧ b < I 44 2) → I 74 b = I 45 b := fun q => hM.2.2.2.2.1.2.2.1 b q.1 q.2
  have key : ∀ (J K : ME) (r : Int), (∀ c, c ≠ 44 → c ≠ 46 → c < 53 → J c = I c) → J 44 2 = I 44 2 → J 44 3 = r → 0 ≤ r → r ≤ 100 → (∀ c, c ≠ 53 → c ≠ 75 → K c = J c) → (∀ c, 53 ≤ c → c ≠ 53 → c ≠ 75 → J c = I c) → (∀ j, j ≠ 47 → j ≠ 48 → j ≠ 49 → K 53 j = I 53 j) → K 53 47 = r → (∀ i, 0 ≤ i → i < r → i < 24 → K 75 i = J 46 i) → Rel (c + 1) K := by
    intro J K r a1 a2 a3 a4 a5 b1 b2 b3 b4 b5
    have bC : ∀ c, c < 53 → c ≠ 44 → c ≠ 46 → K c = I c := fun c x1 x2 x3 => by rw [b1 c (by omega) (by omega), a1 c x2 x3 x1]
    have bM : ∀ c, 53 ≤ c → c ≠ 53 → c ≠ 75 → K c = I c := fun c x1 x2 x3 => by rw [b1 c x2 x3, b2 c x1 x2 x3]
    have k44 : K 44 = J 44 := b1 44 (by decide) (by decide)
    have k46 : K 46 = J 46 := b1 46 (by decide) (by decide)
    refine ⟨ln, ?_, ?_⟩
    · obtain ⟨a, b', g, d, f, r', l, u, v⟩ := hC
      unfold CI
      simp (disch := decide) only [bC]
      rw [k44, a2, a3]
      exact ⟨a, b', g, d, ⟨f.1, ⟨a4, a5⟩, f.2.2⟩, r', l, ⟨u.1, u.2.1, by omega⟩, v⟩
    · obtain ⟨a, b', g, d, f, r', l⟩ := hM
      unfold MR_
      simp (disch := decide) only [bC, bM, b3]
      rw [k44, a2, a3, b4, k46]
      exact ⟨a, b', g, d, ⟨f.1, rfl, f.2.2.1, b5⟩, r', l⟩
  refine x166 (by omega) (by omega) hkC (fun p => ?_) (fun p => ?_)
  · have e53 : upd_ I 44 3 0 53 = I 53 := up_c (by decide)
    have e74 : upd_ I 44 3 0 74 = I 74 := up_c (by decide)
    refine ⟨_, rfl, m283 (by omega) (by rw [e53]; omega) (by rw [e53, e74]; exact hkM) (fun q => ⟨rfl, key (upd_ I 44 3 0) _ 0 ?_ ?_ ?_ ?_ ?_ ?_ ?_ ?_ ?_ ?_, ?_⟩) (fun q1 q2 => ⟨rfl, key (upd_ I 44 3 0) _ 0 ?_ ?_ ?_ ?_ ?_ ?_ ?_ ?_ ?_ ?_, ?_⟩) (fun q1 q2 => ?_)⟩
    · intro c' x1 x2 x3; rw [up_c x1]
    · rw [up_ne (by decide)]
    · rw [up_eq]
    · decide
    · decide
    · intro c' x1 x2; rw [up_c x1]
    · intro c' x1 x2 x3; rw [up_c (by omega)]
    · intro j x1 x2 x3; rw [up_ne x1, up_c (by decide)]
    · rw [up_eq]
    · intro i x1 x2; omega
    · rw [up_c (by decide), up_c (by decide)]
    · intro c' x1 x2 x3; rw [up_c x1]
    · rw [up_ne (by decide)]
    · rw [up_eq]
    · decide
    · decide
    · intro c' x1 x2; rw [up_c x1, up_c x1, up_c x1]
    · intro c' x1 x2 x3; rw [up_c (by omega)]
    · intro j x1 x2 x3; rw [up_ne x3, up_ne x2, up_ne x1, up_c (by decide)]
    · simp (disch := omega) only [up_ne, up_eq]
    · intro i x1 x2; omega
    · simp (disch := omega) only [up_c]
    · rw [e53] at q1; exfalso; omega
  · have hk3 := hk2 p.1
    have hl := acL_l (I 45 b) a
    have eF : ∀ c, c ≠ 44 → c ≠ 46 → trG 44 3 46 (upd_ (upd_ I 44 3 0) 44 4 b) (acL (I 45 b) a) c = I c := fun c' x1 x2 => by
      rw [trG_c x1 x2, up_c x1, up_c x1]
    have e53 := eF 53 (by decide) (by decide)
    have e74 := eF 74 (by decide) (by decide)
    have r0 : upd_ (upd_ I 44 3 0) 44 4 b 44 3 = 0 := by rw [up_ne (by decide), up_eq]
    have hr := trG_r (a := 44) (f := 3) (b := 46) (upd_ (upd_ I 44 3 0) 44 4 b) (acL (I 45 b) a) (by rw [r0]; decide) (by rw [r0]; omega)
    rw [r0] at hr
    refine ⟨_, rfl, m283 (by omega) (by rw [e53]; omega) (by rw [e53, e74]; exact hkM) (fun q => ?_) (fun q1 q2 => ?_) (fun q1 q2 => ⟨?_, key (trG 44 3 46 (upd_ (upd_ I 44 3 0) 44 4 b) (acL (I 45 b) a)) _ ((acL (I 45 b) a).length : Int) ?_ ?_ ?_ ?_ ?_ ?_ ?_ ?_ ?_ ?_, ?_⟩)⟩
    · rw [e53] at q; exfalso; omega
    · exfalso; omega
    · rw [e74, hk3]
    · intro c' x1 x2 x3; exact eF c' x1 x2
    · rw [trG_f (by decide) (by decide), up_ne (by decide), up_ne (by decide)]
    · rw [hr]; omega
    · omega
    · omega
    · intro c' x1 x2; rw [trG_c x1 x2, up_c x1, up_c x1, up_c x1]
    · intro c' x1 x2 x3; exact eF c' (by omega) (by omega)
    · intro j x1 x2 x3; rw [trG_f (by decide) x1, up_ne x3, up_ne x2, up_ne x1, e53]
    · rw [trG_r _ _ (by simp (disch := omega) only [up_ne, up_eq]; decide) (by simp (disch := omega) only [up_ne, up_eq]; rw [e74, hk3]; omega), e74, hk3]
      simp (disch := omega) only [up_ne, up_eq]
      omega
    · intro i x1 x2 x3
      rw [trG_at (by decide) _ _ _ (by simp (disch := omega) only [up_ne, up_eq]; decide) (by simp (disch := omega) only [up_ne, up_eq]; rw [e74, hk3]; omega), trG_at (by decide) _ _ _ (by rw [r0]; decide) (by rw [r0]; omega), e74, hk3, r0]
      simp (disch := omega) only [up_ne, up_eq]
      rw [if_pos (by omega), if_pos (by omega)]
    · rw [trG_c (by decide) (by decide)]
      simp (disch := omega) only [up_c]
      exact eF 1000 (by decide) (by decide)
