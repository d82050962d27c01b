/-! THE TICKET that a seed draws -/
theorem isu8_b (a : Int) : 0 ≤ isu a 8 ∧ isu a 8 < 16777216 := by
  have e : (Int32.ofInt 8).toUInt32 &&& Int32.toUInt32 31 = 8 := by decide
  unfold isu
  rw [e]
  have h1 : ((Int32.ofInt a).toUInt32 >>> (8 : UInt32)).toNat < 16777216 := by
    rw [UInt32.toNat_shiftRight]
    have := (Int32.ofInt a).toUInt32.toNat_lt
    rw [show (8 : UInt32).toNat % 32 = 8 from rfl, Nat.shiftRight_eq_div_pow]
    omega
  have h2 := i32_nat (x := ((Int32.ofInt a).toUInt32 >>> (8 : UInt32)).toBitVec) (a := ((Int32.ofInt a).toUInt32 >>> (8 : UInt32)).toNat) rfl (by omega)
  have h3 : ((Int32.ofInt a).toUInt32 >>> (8 : UInt32)).toInt32.toInt = (((Int32.ofInt a).toUInt32 >>> (8 : UInt32)).toNat : Int) := h2
  rw [h3]
  omega
def nxz (z : Int) : Int := iad (iml z 1103515245) 12345
def pkL (s : Int) : Nat → Nat → Int → Int
  | 0, _, _ => -2
  | m + 1, i, r => if hasb s (i : Int) then (if r = 0 then (i : Int) else pkL s m (i + 1) (r - 1)) else pkL s m (i + 1) r
theorem pkL_ok {s : Int} (h0 : 0 ≤ s) (h1 : s < 4096) : ∀ (m i : Nat) (r : Int), i + m = 12 → 0 ≤ r → r < pI s - (ctP (fun t => hasb s t) i : Int) → hasb s (pkL s m i r) ∧ (i : Int) ≤ pkL s m i r ∧ pkL s m i r < 12
  | 0, i, r, hi, r0, r1 => by
    exfalso
    have e : i = 12 := by omega
    subst e
    rw [ct_pcn h0 h1 12 (Nat.le_refl _)] at r1
    unfold pI at r1
    omega
  | m + 1, i, r, hi, r0, r1 => by
    unfold pkL
    by_cases h : hasb s (i : Int)
    · rw [if_pos h]
      by_cases hr : r = 0
      · rw [if_pos hr]; exact ⟨h, Int.le_refl _, by omega⟩
      · rw [if_neg hr]
        have := pkL_ok h0 h1 m (i + 1) (r - 1) (by omega) (by omega) (by rw [ctP_t (p := fun t => hasb s t) h]; omega)
        exact ⟨this.1, by omega, this.2.2⟩
    · rw [if_neg h]
      have := pkL_ok h0 h1 m (i + 1) r (by omega) r0 (by rw [ctP_f (p := fun t => hasb s t) h]; exact r1)
      exact ⟨this.1, by omega, this.2.2⟩
def pkF (s z : Int) : Int := pkL s 12 0 (isu z 8 % pI s)
theorem pkF_ok {s z : Int} (h0 : 0 ≤ s) (h1 : s < 4096) (hp : 0 < pI s) : hasb s (pkF s z) ∧ 0 ≤ pkF s z ∧ pkF s z < 12 := by
  have hm := Int.emod_nonneg (isu z 8) (show pI s ≠ 0 by omega)
  have hl := Int.emod_lt_of_pos (isu z 8) hp
  have := pkL_ok h0 h1 12 0 (isu z 8 % pI s) rfl hm (by show _ < pI s - ((0 : Nat) : Int); omega)
  exact this
theorem x186 {d : Nat} {z : Int} {I : ME} {Q : Option MV → ME → Prop} (h : Q (some (nt (nxz z))) I) : EvM d 186 [nt z] I Q := by
  refine EvM.go [] (T := T_186) rfl rfl rfl rfl ?_
  conv => whnf
  exact ⟨trivial, h⟩
theorem x128 {d : Nat} {s z : Int} {I : ME} {Q : Option MV → ME → Prop} (hd : 1 ≤ d) (h5 : I 16 5 = s) (h0 : 0 ≤ s) (h1 : s < 4096) (hp : 0 < pI s) (h : Q (some (nt (pkF s z))) I) : EvM d 128 [rf 16, nt z] I Q := by
  have hb := pI_bd s
  have hz := isu8_b z
  have loop : ∀ (m i : Nat) (r : Int), i + m = 12 → 0 ≤ r → r < pI s - (ctP (fun t => hasb s t) i : Int) → pkF s z = pkL s m i r → Ev d 128 26 [some (rf 16), some (nt z), some (nt (pI s)), some (nt r), some (nt (i : Int))] [] I Q := by
    intro m
    induction m with
    | zero =>
      intro i r hi r0 r1 he
      exfalso
      have e : i = 12 := by omega
      subst e
      rw [ct_pcn h0 h1 12 (Nat.le_refl _)] at r1
      unfold pI at r1
      omega
    | succ m ih =>
      intro i r hi r0 r1 he
      have he2 : pkF s z = if hasb s (i : Int) then (if r = 0 then (i : Int) else pkL s m (i + 1) (r - 1)) else pkL s m (i + 1) r := he
      have ei : iad (i : Int) 1 = ((i + 1 : Nat) : Int) := by rw [iad_e (by omega)]; rfl
      refine Ev.go [26] (T := T_128) rfl rfl ?_
      conv => whnf
      refine brI (fun z1 => ?_) (fun z1 => ?_)
      all_goals first | (exfalso; omega) | skip
      conv => whnf
      rw [h5]
      refine brI (fun z2 => ?_) (fun z2 => ?_) <;> conv => whnf
      · rw [if_pos z2] at he2
        refine brI (fun z3 => ?_) (fun z3 => ?_) <;> conv => whnf
        · rw [if_pos z3] at he2
          rw [he2] at h
          exact ⟨trivial, h⟩
        · rw [if_neg z3] at he2
          rw [ei, show iad r (-1) = r - 1 by rw [iad_e (by omega)]; omega]
          exact ⟨trivial, ih (i + 1) (r - 1) (by omega) (by omega) (by rw [ctP_t (p := fun t => hasb s t) z2]; omega) he2⟩
      · rw [if_neg z2] at he2
        rw [ei]
        exact ⟨trivial, ih (i + 1) r (by omega) r0 (by rw [ctP_f (p := fun t => hasb s t) z2]; exact r1) he2⟩
  refine EvM.go [26] (T := T_128) rfl rfl rfl rfl ?_
  conv => whnf
  rw [h5]
  refine ⟨by omega, x295p h0 h1 ?_⟩
  conv => whnf
  refine brI (fun z1 => by exfalso; omega) (fun _ => ?_)
  conv => whnf
  refine nzI (by omega) ?_
  conv => whnf
  rw [irm_p hz.1 (by omega) ⟨by omega, by omega⟩]
  have hm := Int.emod_nonneg (isu z 8) (show pI s ≠ 0 by omega)
  have hl := Int.emod_lt_of_pos (isu z 8) hp
  exact ⟨trivial, loop 12 0 _ rfl hm (by show _ < pI s - ((0 : Nat) : Int); omega) rfl⟩
def zF (I J : ME) : Prop := (∀ j, j ≠ 31 → J 53 j = I 53 j) ∧ Fr [53] I J
theorem m265 {d : Nat} {s : Int} {I : ME} {Q : Option MV → ME → Prop} (hd : 1 ≤ d) (h5 : I 53 20 = s) (h0 : 0 ≤ s) (h1 : s < 4096) (hp : 0 < pI s) (h : ∀ J, zF I J → J 53 31 = nxz (I 53 31) → Q (some (nt (pkF s (nxz (I 53 31))))) J) : EvM d 265 [rf 53] I Q := by
  have hb := pI_bd s
  have hz := isu8_b (nxz (I 53 31))
  have loop : ∀ (m i : Nat) (r : Int) (J : ME), J 53 20 = s → (∀ V, V = pkF s (nxz (I 53 31)) → Q (some (nt V)) J) → i + m = 12 → 0 ≤ r → r < pI s - (ctP (fun t => hasb s t) i : Int) → pkF s (nxz (I 53 31)) = pkL s m i r → Ev d 265 34 [some (rf 53), some (nt r), some (nt (i : Int))] [] J Q := by
    intro m
    induction m with
    | zero =>
      intro i r J j5 hQ hi r0 r1 he
      exfalso
      have e : i = 12 := by omega
      subst e
      rw [ct_pcn h0 h1 12 (Nat.le_refl _)] at r1
      unfold pI at r1
      omega
    | succ m ih =>
      intro i r J j5 hQ hi r0 r1 he
      have he2 : pkF s (nxz (I 53 31)) = if hasb s (i : Int) then (if r = 0 then (i : Int) else pkL s m (i + 1) (r - 1)) else pkL s m (i + 1) r := he
      have ei : iad (i : Int) 1 = ((i + 1 : Nat) : Int) := by rw [iad_e (by omega)]; rfl
      refine Ev.go [34] (T := T_265) rfl rfl ?_
      conv => whnf
      rw [j5]
      refine ⟨by omega, m188 (fun z2 => ?_) (fun z2 => ?_)⟩ <;> conv => whnf
      · rw [if_pos z2] at he2
        refine brI (fun z3 => ?_) (fun z3 => ?_) <;> conv => whnf
        · rw [if_neg (by omega)] at he2
          rw [j5]
          refine ⟨by omega, m188 (fun _ => ?_) (fun z4 => absurd z2 z4)⟩
          conv => whnf
          rw [ei, isb_e (by omega)]
          exact ⟨trivial, ih (i + 1) (r - 1) J j5 hQ (by omega) (by omega) (by rw [ctP_t (p := fun t => hasb s t) z2]; omega) he2⟩
        · rw [if_pos (by omega)] at he2
          exact ⟨trivial, hQ _ he2.symm⟩
      · rw [if_neg z2] at he2
        rw [j5]
        refine ⟨by omega, m188 (fun z4 => absurd z4 z2) (fun _ => ?_)⟩
        conv => whnf
        rw [ei, isb_e (by omega), Int.sub_zero]
        exact ⟨trivial, ih (i + 1) r J j5 hQ (by omega) r0 (by rw [ctP_f (p := fun t => hasb s t) z2]; exact r1) he2⟩
  refine EvM.go [34] (T := T_265) rfl rfl rfl rfl ?_
  conv => whnf
  rw [show upd_ I 53 31 (iad (iml (I 53 31) 1103515245) 12345) 53 20 = s by rw [up_ne (by decide)]; exact h5]
  refine ⟨by omega, m189p h0 h1 ?_⟩
  conv => whnf
  refine nzI (by omega) ?_
  conv => whnf
  rw [up_eq]
  rw [show iad (iml (I 53 31) 1103515245) 12345 = nxz (I 53 31) from rfl, irm_p hz.1 (by omega) ⟨by omega, by omega⟩]
  have hm := Int.emod_nonneg (isu (nxz (I 53 31)) 8) (show pI s ≠ 0 by omega)
  have hl := Int.emod_lt_of_pos (isu (nxz (I 53 31)) 8) hp
  refine ⟨trivial, loop 12 0 _ _ (by rw [up_ne (by decide)]; exact h5) (fun V hV => ?_) rfl hm (by show _ < pI s - ((0 : Nat) : Int); omega) rfl⟩
  rw [hV]
  exact h _ ⟨fun j hj => up_ne hj, fr_up Fr.rfl' (by decide)⟩ (by rw [up_eq])
/-- a year of draws -/
def yrI (L : LT) (z : Int) : Nat → Int × Int
  | 0 => (tIn L, z)
  | i + 1 => (sdf (yrI L z i).1 (isl 1 (pkF (yrI L z i).1 (nxz (yrI L z i).2))), nxz (yrI L z i).2)
def yrG (L : LT) (z : Int) : Int → Int := fun i => pkF (yrI L z i.toNat).1 (nxz (yrI L z i.toNat).2)
theorem yr_sq {L : LT} {z : Int} : ∀ i : Nat, sqI L (yrG L z) i = (yrI L z i).1
  | 0 => rfl
  | i + 1 => by
    show sdf (sqI L (yrG L z) i) (isl 1 (yrG L z (i : Int))) = sdf (yrI L z i).1 (isl 1 (pkF (yrI L z i).1 (nxz (yrI L z i).2)))
    rw [yr_sq i]
    rfl
theorem yr_ok {L : LT} (hL : LTok L) {z : Int} {i : Nat} (h : upT L (yrG L z) i) (hi : (i : Int) < pI (tIn L)) : okT L (yrG L z) i := by
  have g := hL.f
  have h2 := h.2
  have hp : 0 < pI (sqI L (yrG L z) i) := by omega
  have e : yrG L z (i : Int) = pkF (sqI L (yrG L z) i) (nxz (yrI L z i).2) := by rw [yr_sq]; rfl
  have := pkF_ok (z := nxz (yrI L z i).2) h.1.1.1 h.1.1.2 hp
  rw [← e] at this
  refine ⟨⟨this.2.1, ?_⟩, this.1⟩
  refine Int.not_le.mp (fun w => hL.top w this.2.2 (h.1.2 _ this.2.1 (by omega) this.1))
theorem yr_up {L : LT} (hL : LTok L) {z : Int} : ∀ i : Nat, (i : Int) ≤ pI (tIn L) → upT L (yrG L z) i
  | 0, _ => upT_0 hL _
  | i + 1, hi => by
    have ih := yr_up hL (z := z) i (by omega)
    exact upT_s hL ih (yr_ok hL ih (by omega))
