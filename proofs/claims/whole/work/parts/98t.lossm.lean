/-! WHAT A DRAWN TICKET COSTS: the model -/
theorem nmc_s1 {nm nm' : Int → Int} (h : ∀ j, 0 ≤ j → j ≤ 5 → nm j = nm' j) (c : Int) (st : List Int) : lz_s1 nm c st = lz_s1 nm' c st := by
  unfold lz_s1
  by_cases h1 : -6 ≤ c
  · rw [if_pos h1, if_pos h1]
    by_cases h2 : 0 ≤ c
    · simp only [if_pos h2]
    · simp only [if_neg h2, h (-1 - c) (by omega) (by omega)]
  · rw [if_neg h1, if_neg h1]
theorem nmc_ex {nm nm' : Int → Int} (h : ∀ j, 0 ≤ j → j ≤ 5 → nm j = nm' j) : ∀ (c st : List Int), lz_ex nm c st = lz_ex nm' c st
  | [], st => rfl
  | x :: c, st => by
    show lz_ex nm c (lz_s1 nm x st) = lz_ex nm' c (lz_s1 nm' x st)
    rw [nmc_s1 h, nmc_ex h c]
theorem nmc_v {nm nm' : Int → Int} (h : ∀ j, 0 ≤ j → j ≤ 5 → nm j = nm' j) (c : List Int) : lz_v nm c = lz_v nm' c := by
  unfold lz_v; rw [nmc_ex h]
theorem nmc_val {nm nm' : Int → Int} (h : ∀ j, 0 ≤ j → j ≤ 5 → nm j = nm' j) : ∀ L : lz_L, lz_val nm L = lz_val nm' L
  | [] => rfl
  | (c, e) :: r => by unfold lz_val; rw [nmc_v h, nmc_v h, nmc_val h r]
def lbM (I J : ME) : Prop := (∀ j, j < 14 ∨ 18 < j → J 53 j = I 53 j) ∧ Fr [53, 61] I J
theorem m224_e {d : Nat} {t p th x : Int} {J : ME} {Q : Option MV → ME → Prop} (h : Q (some (nt (lz_cl x))) J) : Ev d 224 91 [some (rf 53), some (nt t), some (nt p), some (nt th), some (nt x)] [] J Q := by
  have e : lz_cl x = if x < -99 then -99 else if 99 < x then 99 else x := by
    unfold lz_cl imx imn
    repeat' split
    all_goals omega
  rw [e] at h
  refine Ev.go [] (T := T_224) rfl rfl ?_
  conv => whnf
  refine brI (fun z => ?_) (fun z => ?_) <;> conv => whnf
  · rw [if_pos z] at h; exact ⟨trivial, h⟩
  · rw [if_neg z] at h
    refine brI (fun y => ?_) (fun y => ?_) <;> conv => whnf
    · first
      | (rw [if_pos y] at h; exact ⟨trivial, h⟩)
      | (rw [if_neg (by omega)] at h; exact ⟨trivial, h⟩)
    · first
      | (rw [if_neg y] at h; exact ⟨trivial, h⟩)
      | (rw [if_pos (by omega)] at h; exact ⟨trivial, h⟩)
theorem m224 {d : Nat} {t p th : Int} {ln : lz_L} {lv : Int → Int} {I : ME} {Q : Option MV → ME → Prop} (hd : 62 ≤ d) (ht0 : 0 ≤ t) (ht1 : t < 12) (hp : pP p) (hth : I 54 (48 + 3 * t) = th) (hT : pT th) (hlv : I 54 (8 * p + th) = lv (8 * p + th)) (hL : mL ln (I 53 13) (I 60)) (hg : 0 ≤ I 62 p ∧ I 62 p < 4096)
    (h : ∀ J, lbM I J → Q (some (nt (lz_loss ln lv p th (I 64 p) (pI (I 62 p)) (I 53 21)))) J) : EvM (d + 1) 224 [rf 53, nt t, nt p] I Q := by
  refine EvM.go [91] (T := T_224) rfl rfl rfl rfl ?_
  conv => whnf
  refine ⟨by omega, m197 ht0 ht1 ?_⟩
  conv => whnf
  rw [hth]
  refine ⟨by omega, m200 hp.1 hp.2 hT.1 hT.2 ?_⟩
  conv => whnf
  rw [hlv]
  rcases hL with ⟨hm, rfl⟩ | ⟨n, hm, hn, hT1, hT2⟩
  · refine brI (fun _ => ?_) (fun z => by exfalso; omega)
    conv => whnf
    exact ⟨trivial, m224_e (h I ⟨fun _ _ => rfl, Fr.rfl'⟩)⟩
  · refine brI (fun z => by exfalso; omega) (fun _ => ?_)
    conv => whnf
    iterate 4
      refine anI (by omega) ?_
      conv => whnf
    refine ⟨by omega, m189p ?_ ?_ ?_⟩
    · simp (disch := decide) only [up_c]; exact hg.1
    · simp (disch := decide) only [up_c]; exact hg.2
    · conv => whnf
      iterate 4
        refine anI (by omega) ?_
        conv => whnf
      simp (disch := decide) only [up_c]
      rw [hm]
      refine ⟨by omega, m220 (b := fun j => I 60 (j : Int)) (by omega) (Or.inr ⟨rfl, fun j hj => ?_⟩) hn (fun v J hv => ?_)⟩
      · simp (disch := decide) only [up_c]
      · obtain ⟨⟨w1, w2⟩, w3, -⟩ := hv
        obtain ⟨-, rfl⟩ := w3 hT1
        conv => whnf
        refine ⟨trivial, m224_e ?_⟩
        rw [hT2]
        have := h J ⟨fun j hj => by rw [w1 j hj]; simp (disch := decide) only [up_c], fun c hc => ?_⟩
        · unfold lz_loss at this
          rw [nmc_val (nm' := lz_nms (lv (8 * p + th)) (I 64 p) (pI (I 62 p)) th p (I 53 21))]
          · exact this
          · intro j j0 j1
            have hj : j = 0 ∨ j = 1 ∨ j = 2 ∨ j = 3 ∨ j = 4 ∨ j = 5 := by omega
            rcases hj with rfl | rfl | rfl | rfl | rfl | rfl <;> rfl
        · rw [w2 c (fun z => hc (by rw [List.mem_singleton.mp z]; decide))]
          have : c ≠ 61 := fun z => hc (by rw [z]; decide)
          simp only [up_c this]
