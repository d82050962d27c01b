/-! THE MODEL'S LAW, worked out from its text -/
def evF (I J : ME) : Prop := (∀ j, j ≠ 15 → j ≠ 17 → j ≠ 18 → J 53 j = I 53 j) ∧ Fr [53] I J
theorem evF.rf {I : ME} : evF I I := ⟨fun _ _ _ _ => rfl, Fr.rfl'⟩
theorem evF.tr {I J K : ME} (h : evF I J) (h2 : evF J K) : evF I K := ⟨fun j a b c => (h2.1 j a b c).trans (h.1 j a b c), h.2.tr h2.2⟩
theorem evF.up {I J : ME} {i v : Int} (h : evF I J) (hi : i = 15 ∨ i = 17 ∨ i = 18) : evF I (upd_ J 53 i v) := ⟨fun j a b c => by rw [up_ne (by omega)]; exact h.1 j a b c, fr_up h.2 (by decide)⟩
def evA (b : Nat → Int) (n : Nat) (I : ME) : Prop := ((I 53 14 < 0 ∧ ∀ j : Nat, j < n → I 59 (j : Int) = b j) ∨ (I 53 14 = 0 ∧ ∀ j : Nat, j < n → I 60 (j : Int) = b j)) ∧ I 53 16 = (n : Int) ∧ n ≤ 120
theorem evA.mv {b : Nat → Int} {n : Nat} {I J : ME} (h : evA b n I) (hF : evF I J) : evA b n J := by
  unfold evA
  rw [hF.1 14 (by decide) (by decide) (by decide), hF.1 16 (by decide) (by decide) (by decide), hF.2 59 (by decide), hF.2 60 (by decide)]
  exact h
def evS (J : ME) (a : Nat) (o : Int) : Prop := J 53 15 = (a : Int) ∧ J 53 17 = -1 ∧ J 53 18 = o
def evP (I : ME) (D : Nat) (o : Int) (r : lz_R) (v : Int) (J : ME) : Prop :=
  evF I J ∧ (r.1 = true → evS J r.2.1 o ∧ lz_V (I 61) r.2.2 v D) ∧ (r.1 = false → J 53 17 = (r.2.1 : Int) ∧ 0 ≤ J 53 15)
/-- a level that is read well or not; at a fault, nothing -/
def evC (d F : Nat) (b : Nat → Int) (n : Nat) (f : Nat → lz_R) (D : Nat) (o : Int) : Prop := ∀ (I : ME) (a : Nat), evA b n I → evS I a o → a ≤ n → EvM d F [rf 53] I (fun w J => ∃ v, w = some (nt v) ∧ evP I D o (f a) v J)
def evX (d F : Nat) (b : Nat → Int) (n : Nat) : Prop := ∀ I : ME, evA b n I → 0 ≤ I 53 15 → 0 ≤ I 53 17 → EvM d F [rf 53] I (fun w J => ∃ v, w = some (nt v) ∧ J = I)
theorem m210 {d a n : Nat} {b : Nat → Int} {I : ME} {Q : Option MV → ME → Prop} (hA : evA b n I) (ha : I 53 15 = (a : Int)) (h : Q (some (nt (lz_by b n a))) I) : EvM d 210 [rf 53] I Q := by
  obtain ⟨hb, hn, h120⟩ := hA
  refine EvM.go [] (T := T_210) rfl rfl rfl rfl ?_
  conv => whnf
  unfold lz_by at h
  refine brI (fun p => ?_) (fun p => ?_) <;> conv => whnf
  · have hlt : Nat.blt a n = true := Nat.ble_eq_true_of_le (by omega)
    rw [hlt] at h
    refine brI (fun q => ?_) (fun q => ?_) <;> conv => whnf
    · rcases hb with ⟨b1, b2⟩ | ⟨b1, b2⟩
      · refine anI (by omega) ?_
        conv => whnf
        rw [ha, b2 a (by omega)]
        exact ⟨trivial, h⟩
      · exfalso; omega
    · rcases hb with ⟨b1, b2⟩ | ⟨b1, b2⟩
      · exfalso; omega
      · rw [b1, iad_e (by omega), Int.zero_add]
        refine anI (by omega) ?_
        conv => whnf
        rw [ha, b2 a (by omega)]
        exact ⟨trivial, h⟩
  · have hlt : Nat.blt a n = false := by
      cases hq : Nat.blt a n with
      | false => rfl
      | true => have := ltB hq; omega
    rw [hlt] at h
    exact ⟨trivial, h⟩
theorem m211 {d : Nat} {I : ME} {Q : Option MV → ME → Prop} (h0 : I 53 17 < 0 → Q (some (nt 0)) (upd_ I 53 17 (I 53 15))) (h1 : 0 ≤ I 53 17 → Q (some (nt 0)) I) : EvM d 211 [rf 53] I Q := by
  refine EvM.go [] (T := T_211) rfl rfl rfl rfl ?_
  conv => whnf
  refine brI (fun p => ?_) (fun p => ?_) <;> conv => whnf
  · exact ⟨trivial, h0 p⟩
  · refine ⟨trivial, ?_⟩
    rw [up_id rfl]
    exact h1 (by omega)
theorem m212 {d a n : Nat} {b : Nat → Int} {c o : Int} {I : ME} {Q : Option MV → ME → Prop} (hd : 1 ≤ d) (hA : evA b n I) (hS : evS I a o) (h1 : lz_by b n a = c → Q (some (nt 1)) (upd_ I 53 15 ((a + 1 : Nat) : Int))) (h0 : lz_by b n a ≠ c → Q (some (nt 0)) I) (ha : a ≤ 120) : EvM d 212 [rf 53, nt c] I Q := by
  obtain ⟨s1, s2, s3⟩ := hS
  refine EvM.go [] (T := T_212) rfl rfl rfl rfl ?_
  conv => whnf
  rw [s2]
  refine ⟨by omega, m210 hA s1 ?_⟩
  conv => whnf
  refine brI (fun q => ?_) (fun q => ?_) <;> conv => whnf
  · rw [s1, iad_e (by omega)]
    exact ⟨trivial, h1 q⟩
  · exact ⟨trivial, h0 q⟩
theorem m212x {d : Nat} {c : Int} {I : ME} {Q : Option MV → ME → Prop} (hf : 0 ≤ I 53 17) (h : Q (some (nt 0)) I) : EvM d 212 [rf 53, nt c] I Q := by
  refine EvM.go [] (T := T_212) rfl rfl rfl rfl ?_
  conv => whnf
  refine brI (fun q => by exfalso; omega) (fun q => ?_)
  conv => whnf
  exact ⟨trivial, h⟩
theorem m218 {d : Nat} {c : Int} {I : ME} {Q : Option MV → ME → Prop} (h : Q (some (nt (lz_nm c))) I) : EvM d 218 [nt c] I Q := by
  unfold lz_nm at h
  refine EvM.go [] (T := T_218) rfl rfl rfl rfl ?_
  conv => whnf
  repeat' first
    | (refine brI (fun _ => ?_) (fun _ => ?_) <;> conv => whnf)
    | fail
  all_goals
    refine ⟨trivial, ?_⟩
    first
      | (rw [if_pos (by omega)] at h; exact h)
      | (rw [if_neg (by omega), if_pos (by omega)] at h; exact h)
      | (rw [if_neg (by omega), if_neg (by omega), if_pos (by omega)] at h; exact h)
      | (rw [if_neg (by omega), if_neg (by omega), if_neg (by omega), if_pos (by omega)] at h; exact h)
      | (rw [if_neg (by omega), if_neg (by omega), if_neg (by omega), if_neg (by omega), if_pos (by omega)] at h; exact h)
      | (rw [if_neg (by omega), if_neg (by omega), if_neg (by omega), if_neg (by omega), if_neg (by omega), if_pos (by omega)] at h; exact h)
      | (rw [if_neg (by omega), if_neg (by omega), if_neg (by omega), if_neg (by omega), if_neg (by omega), if_neg (by omega)] at h; exact h)
/-- the digits of a number -/
theorem m219_num {d n : Nat} {b : Nat → Int} {o : Int} {I : ME} {Q : Option MV → ME → Prop} {x1 x2 : Int} (hd : 1 ≤ d) : ∀ (m a : Nat) (v dg : Int) (J : ME), evA b n J → evS J a o → a ≤ n → 0 ≤ v → v < 10 ^ (4 - m) → dg = 4 - (m : Int) → m ≤ 4 → evF I J →
    (∀ J' dg', (dg' = 0 ↔ (m = 4 ∧ lz_dig (lz_by b n a) = false)) → evF I J' → evS J' (lz_num b n m a v).1 o → Ev d 219 229 [some (rf 53), some (nt x1), some (nt x2), some (nt (lz_num b n m a v).2), some (nt dg')] [] J' Q) →
    Ev d 219 176 [some (rf 53), some (nt x1), some (nt x2), some (nt v), some (nt dg)] [] J Q
  | 0, a, v, dg, J, hA, hS, han, hv0, hv, hdg, hm, hF, hQ => by
    subst hdg
    refine Ev.go [229] (T := T_219) rfl rfl ?_
    conv => whnf
    exact ⟨trivial, hQ J (4 - ((0 : Nat) : Int)) ⟨fun q => by exfalso; omega, fun q => by exfalso; omega⟩ hF hS⟩
  | m + 1, a, v, dg, J, hA, hS, han, hv0, hv, hdg, hm, hF, hQ => by
    have h120 := hA.2.2
    have hv2 : v < 1000 := by
      have hm' : m + 1 = 1 ∨ m + 1 = 2 ∨ m + 1 = 3 ∨ m + 1 = 4 := by omega
      rcases hm' with e | e | e | e <;> rw [e] at hv <;> omega
    have stop : lz_dig (lz_by b n a) = false → Ev d 219 229 [some (rf 53), some (nt x1), some (nt x2), some (nt v), some (nt dg)] [] J Q := fun q => by
      have e : lz_num b n (m + 1) a v = (a, v) := by
        show (bif lz_dig (lz_by b n a) then _ else _) = _
        rw [q]; rfl
      rw [e] at hQ
      exact hQ J dg ⟨fun z => ⟨by omega, q⟩, fun z => by omega⟩ hF hS
    refine Ev.go [229, 176] (T := T_219) rfl rfl ?_
    conv => whnf
    refine brI (fun _ => ?_) (fun _ => by exfalso; omega)
    conv => whnf
    refine ⟨by omega, m210 hA hS.1 ?_⟩
    conv => whnf
    refine brI (fun q => ?_) (fun q => ?_) <;> conv => whnf
    · refine ⟨trivial, stop ?_⟩
      unfold lz_dig
      rw [show decide (48 ≤ lz_by b n a) = false from decide_eq_false (by omega)]
      rfl
    · refine ⟨by omega, m210 hA hS.1 ?_⟩
      conv => whnf
      refine brI (fun q2 => ?_) (fun q2 => ?_) <;> conv => whnf
      · refine ⟨trivial, stop ?_⟩
        unfold lz_dig
        rw [show decide (lz_by b n a ≤ 57) = false from decide_eq_false (by omega), Bool.and_false]
      · have hdig : lz_dig (lz_by b n a) = true := by
          unfold lz_dig
          rw [decide_eq_true (show 48 ≤ lz_by b n a by omega), decide_eq_true (show lz_by b n a ≤ 57 by omega)]
          rfl
        have hlt := lz_by_lt (b := b) (n := n) (a := a) (by omega)
        have e : lz_num b n (m + 1) a v = lz_num b n m (a + 1) (v * 10 + lz_by b n a - 48) := by
          show (bif lz_dig (lz_by b n a) then _ else _) = _
          rw [hdig]; rfl
        rw [e] at hQ
        refine ⟨by omega, m210 hA hS.1 ?_⟩
        conv => whnf
        have e1 : isb (iad (iml 10 v) (lz_by b n a)) 48 = v * 10 + lz_by b n a - 48 := by
          rw [iml_e (by omega), iad_e (by omega), isb_e (by omega)]; omega
        rw [e1, hS.1, iad_e (a := (a : Int)) (by omega)]
        refine ⟨trivial, ?_⟩
        rw [iad_e (by omega)]
        have hp : (10 : Int) ^ (4 - m) = 10 ^ (4 - (m + 1)) * 10 := by
          rw [show 4 - m = (4 - (m + 1)) + 1 by omega, Int.pow_succ]
        refine m219_num hd m (a + 1) (v * 10 + lz_by b n a - 48) (dg + 1) (upd_ J 53 15 ((a : Int) + 1)) (hA.mv (evF.rf.up (Or.inl rfl))) ⟨up_eq _ _ _ _, by rw [up_ne (by decide)]; exact hS.2.1, by rw [up_ne (by decide)]; exact hS.2.2⟩ (by omega) (by omega) (by omega) (by omega) (by omega) (hF.up (Or.inl rfl)) (fun J' dg' hz hF' hS' => hQ J' dg' ?_ hF' hS')
        rw [hz]
        constructor
        · rintro ⟨z, -⟩; exfalso; omega
        · rintro ⟨-, z⟩; rw [hdig] at z; cases z
