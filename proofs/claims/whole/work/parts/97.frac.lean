/-! FRACTIONS: ways, the greatest divisor, parts -/
def wyN (n k : Nat) : Nat → Nat
  | 0 => 1
  | i + 1 => wyN n k i * (n - k + (i + 1)) / (i + 1)
def wyI (n k : Int) : Int := if k < 0 ∨ n < k then 0 else ((wyN n.toNat k.toNat k.toNat : Nat) : Int)
set_option maxRecDepth 100000 in
theorem wyN_all : (List.range 13).all (fun n => (List.range 13).all fun k => (List.range 13).all fun i => decide (k ≤ n → i ≤ k → wyN n k i ≤ 1000 ∧ 0 < wyN n k i)) = true := by decide +kernel
theorem wyN_bd {n k i : Nat} (hn : n ≤ 12) (hk : k ≤ n) (hi : i ≤ k) : wyN n k i ≤ 1000 ∧ 0 < wyN n k i := by
  have h1 := List.all_eq_true.mp wyN_all n (List.mem_range.mpr (by omega))
  have h2 := List.all_eq_true.mp h1 k (List.mem_range.mpr (by omega))
  have h3 := List.all_eq_true.mp h2 i (List.mem_range.mpr (by omega))
  exact of_decide_eq_true h3 hk hi
theorem wyI_bd {n k : Int} (h0 : 0 ≤ n) (hn : n ≤ 12) : 0 ≤ wyI n k ∧ wyI n k ≤ 1000 := by
  unfold wyI
  split
  · omega
  · have := wyN_bd (n := n.toNat) (k := k.toNat) (i := k.toNat) (by omega) (by omega) (Nat.le_refl _)
    omega
theorem wyI_pos {n k : Int} (hn : n ≤ 12) (h0 : 0 ≤ k) (h1 : k ≤ n) : 0 < wyI n k := by
  unfold wyI
  rw [if_neg (by omega)]
  have := wyN_bd (n := n.toNat) (k := k.toNat) (i := k.toNat) (by omega) (by omega) (Nat.le_refl _)
  omega
theorem wyN_s {n k i : Nat} (hk : k ≤ n) : ((wyN n k (i + 1) : Nat) : Int) = (wyN n k i : Int) * ((n : Int) - k + (i + 1 : Nat)) / ((i + 1 : Nat) : Int) := by
  show ((wyN n k i * (n - k + (i + 1)) / (i + 1) : Nat) : Int) = _
  rw [Int.natCast_ediv, Int.natCast_mul, Int.natCast_add, Int.natCast_sub hk]
theorem x183 {d : Nat} {n k : Int} {I : ME} {Q : Option MV → ME → Prop} (h0 : 0 ≤ n) (hn : n ≤ 12) (h : Q (some (nt (wyI n k))) I) : EvM d 183 [nt n, nt k] I Q := by
  unfold wyI at h
  refine EvM.go [15] (T := T_183) rfl rfl rfl rfl ?_
  conv => whnf
  refine brI (fun a => ?_) (fun a => ?_) <;> conv => whnf
  · rw [if_pos (Or.inl a)] at h
    exact ⟨trivial, h⟩
  · refine brI (fun b => ?_) (fun b => ?_) <;> conv => whnf
    · rw [if_pos (Or.inr b)] at h
      exact ⟨trivial, h⟩
    · rw [if_neg (by omega)] at h
      refine ⟨trivial, Ev.to (ls' := [some (nt n), some (nt k), some (nt ((wyN n.toNat k.toNat 0 : Nat) : Int)), some (nt (((0 : Nat) : Int) + 1))]) rfl rfl (Ev.up k.toNat (fun i => [some (nt n), some (nt k), some (nt ((wyN n.toNat k.toNat i : Nat) : Int)), some (nt ((i : Nat) + 1))]) (fun _ => I) ?_ ?_ 0 (by omega))⟩
      · intro i hi ih
        have hb := wyN_bd (n := n.toNat) (k := k.toNat) (i := i) (by omega) (by omega) (by omega)
        have hb2 := wyN_bd (n := n.toNat) (k := k.toNat) (i := i + 1) (by omega) (by omega) (by omega)
        have hs := wyN_s (n := n.toNat) (k := k.toNat) (i := i) (by omega)
        refine Ev.go [15] (T := T_183) rfl rfl ?_
        conv => whnf
        refine brI (fun _ => by exfalso; omega) (fun _ => ?_)
        conv => whnf
        refine nzI (by omega) ?_
        conv => whnf
        have e1 : iad (isb n k) ((i : Int) + 1) = n - k + (i + 1) := by rw [isb_e (by omega), iad_e (by omega)]
        have hprod : 0 ≤ (wyN n.toNat k.toNat i : Int) * (n - k + (i + 1)) ∧ (wyN n.toNat k.toNat i : Int) * (n - k + (i + 1)) ≤ 30000 := by
          refine ⟨Int.mul_nonneg (by omega) (by omega), ?_⟩
          have := Int.mul_le_mul (a := (wyN n.toNat k.toNat i : Int)) (c := 1000) (b := n - k + (i + 1)) (d := 30) (by omega) (by omega) (by omega) (by omega)
          omega
        refine ⟨trivial, Ev.to ?_ rfl ih⟩
        rw [e1, iml_e (by omega), idv_q hprod.1 (by omega) (by omega), iad_e (by omega)]
        have e2 : (wyN n.toNat k.toNat i : Int) * (n - k + (i + 1)) / (i + 1) = ((wyN n.toNat k.toNat (i + 1) : Nat) : Int) := by
          rw [hs, show ((n.toNat : Nat) : Int) = n by omega, show ((k.toNat : Nat) : Int) = k by omega]
          rfl
        rw [e2]
        rfl
      · refine Ev.go [15] (T := T_183) rfl rfl ?_
        conv => whnf
        refine brI (fun _ => ?_) (fun _ => by exfalso; omega)
        conv => whnf
        exact ⟨trivial, h⟩
theorem ldv_p {a b : Int} (ha : 0 ≤ a) (ha2 : a ≤ 9223372036854775807) (hb : 0 < b ∧ b ≤ 9223372036854775807) : ldv a b = a / b := by
  rw [ldv_t ⟨by omega, ha2⟩ ⟨by omega, hb.2⟩ (by omega), Int.tdiv_eq_ediv_of_nonneg ha]
theorem lrm_p {a b : Int} (ha : 0 ≤ a) (ha2 : a ≤ 9223372036854775807) (hb : 0 < b ∧ b ≤ 9223372036854775807) : lrm a b = a % b := by
  rw [lrm_t ⟨by omega, ha2⟩ ⟨by omega, hb.2⟩ (by omega), Int.tmod_eq_emod_of_nonneg ha]
theorem m231 {d : Nat} {n k : Int} {I : ME} {Q : Option MV → ME → Prop} (h0 : 0 ≤ n) (hn : n ≤ 12) (h : Q (some (lg (wyI n k))) I) : EvM d 231 [nt n, nt k] I Q := by
  unfold wyI at h
  refine EvM.go [16] (T := T_231) rfl rfl rfl rfl ?_
  conv => whnf
  refine brI (fun a => ?_) (fun a => ?_) <;> conv => whnf
  · rw [if_pos (Or.inl a)] at h
    exact ⟨trivial, h⟩
  · refine brI (fun b => ?_) (fun b => ?_) <;> conv => whnf
    · rw [if_pos (Or.inr b)] at h
      exact ⟨trivial, h⟩
    · rw [if_neg (by omega)] at h
      refine ⟨trivial, Ev.to (ls' := [some (nt n), some (nt k), some (lg ((wyN n.toNat k.toNat 0 : Nat) : Int)), none, some (nt (((0 : Nat) : Int) + 1))]) rfl rfl (Ev.up k.toNat (fun i => [some (nt n), some (nt k), some (lg ((wyN n.toNat k.toNat i : Nat) : Int)), none, some (nt ((i : Nat) + 1))]) (fun _ => I) ?_ ?_ 0 (by omega))⟩
      · intro i hi ih
        have hb := wyN_bd (n := n.toNat) (k := k.toNat) (i := i) (by omega) (by omega) (by omega)
        have hb2 := wyN_bd (n := n.toNat) (k := k.toNat) (i := i + 1) (by omega) (by omega) (by omega)
        have hs := wyN_s (n := n.toNat) (k := k.toNat) (i := i) (by omega)
        refine Ev.go [16] (T := T_231) rfl rfl ?_
        conv => whnf
        refine brI (fun _ => by exfalso; omega) (fun _ => ?_)
        conv => whnf
        refine nzI (by omega) ?_
        conv => whnf
        have e1 : iad (isb n k) ((i : Int) + 1) = n - k + (i + 1) := by rw [isb_e (by omega), iad_e (by omega)]
        have hprod : 0 ≤ (wyN n.toNat k.toNat i : Int) * (n - k + (i + 1)) ∧ (wyN n.toNat k.toNat i : Int) * (n - k + (i + 1)) ≤ 30000 := by
          refine ⟨Int.mul_nonneg (by omega) (by omega), ?_⟩
          have := Int.mul_le_mul (a := (wyN n.toNat k.toNat i : Int)) (c := 1000) (b := n - k + (i + 1)) (d := 30) (by omega) (by omega) (by omega) (by omega)
          omega
        refine ⟨trivial, Ev.to ?_ rfl ih⟩
        rw [e1, lml_e (by omega), ldv_p hprod.1 (by omega) (by omega), iad_e (by omega)]
        have e2 : (wyN n.toNat k.toNat i : Int) * (n - k + (i + 1)) / (i + 1) = ((wyN n.toNat k.toNat (i + 1) : Nat) : Int) := by
          rw [hs, show ((n.toNat : Nat) : Int) = n by omega, show ((k.toNat : Nat) : Int) = k by omega]
          rfl
        rw [e2]
        rfl
      · refine Ev.go [16] (T := T_231) rfl rfl ?_
        conv => whnf
        refine brI (fun _ => ?_) (fun _ => by exfalso; omega)
        conv => whnf
        exact ⟨trivial, h⟩
/-- Euclid's steps -/
def euN : Nat → Nat → Nat → Nat
  | 0, x, _ => x
  | f + 1, x, y => if y = 0 then x else euN f y (x % y)
theorem euN_gcd : ∀ (k f x y : Nat), 2 * k ≤ f → y < 2 ^ k → euN f x y = Nat.gcd x y
  | 0, f, x, y, hf, hy => by
    have : y = 0 := by omega
    subst this
    cases f with
    | zero => show x = _; rw [Nat.gcd_zero_right]
    | succ f => show (if 0 = 0 then x else _) = _; rw [if_pos rfl, Nat.gcd_zero_right]
  | k + 1, 0, x, y, hf, hy => by omega
  | k + 1, 1, x, y, hf, hy => by omega
  | k + 1, f + 2, x, y, hf, hy => by
    show (if y = 0 then x else euN (f + 1) y (x % y)) = _
    by_cases h0 : y = 0
    · rw [if_pos h0, h0, Nat.gcd_zero_right]
    · rw [if_neg h0]
      have hr : x % y < y := Nat.mod_lt _ (by omega)
      show (if x % y = 0 then y else euN f (x % y) (y % (x % y))) = _
      by_cases h1 : x % y = 0
      · rw [if_pos h1, Nat.gcd_comm, Nat.gcd_rec, h1, Nat.gcd_zero_left]
      · rw [if_neg h1, euN_gcd k f _ _ (by omega) ?_]
        · rw [Nat.gcd_comm x y, Nat.gcd_rec y x, Nat.gcd_rec (x % y) y, Nat.gcd_comm]
        · have h2 := Nat.mod_lt y (show 0 < x % y by omega)
          have h3 := Nat.div_add_mod y (x % y)
          have h4 : 1 ≤ y / (x % y) := (Nat.le_div_iff_mul_le (by omega)).mpr (by omega)
          have h5 : x % y * 1 ≤ x % y * (y / (x % y)) := Nat.mul_le_mul_left _ h4
          rw [Nat.pow_succ] at hy
          omega
theorem x185 {d : Nat} {a b : Int} {I : ME} {Q : Option MV → ME → Prop} (ha : 0 ≤ a) (ha2 : a ≤ 2147483647) (hb : 0 ≤ b) (hb2 : b ≤ 2147483647) (h : Q (some (nt ((Nat.gcd a.toNat b.toNat : Nat) : Int))) I) : EvM d 185 [nt a, nt b] I Q := by
  rw [← euN_gcd 32 64 _ _ (Nat.le_refl _) (show b.toNat < 2 ^ 32 by omega)] at h
  refine EvM.go [7] (T := T_185) rfl rfl rfl rfl ?_
  conv => whnf
  have key : ∀ (f : Nat) (x y : Nat) (t : Option Int), f ≤ 64 → x < 2147483648 → y < 2147483648 → Q (some (nt ((euN f x y : Nat) : Int))) I → Ev d 185 7 [some (nt a), some (nt b), some (nt (x : Int)), some (nt (y : Int)), some (nt (64 - f : Int)), t.map nt] [] I Q := by
    intro f
    induction f with
    | zero =>
      intro x y t hf hx hy hq
      refine Ev.go [] (T := T_185) rfl rfl ?_
      cases t
      all_goals
        conv => whnf
        exact ⟨trivial, hq⟩
    | succ f ih =>
      intro x y t hf hx hy hq
      have hq : Q (some (nt ((if y = 0 then x else euN f y (x % y) : Nat) : Int))) I := hq
      refine Ev.go [7] (T := T_185) rfl rfl ?_
      cases t
      all_goals
        conv => whnf
        refine brI (fun _ => ?_) (fun _ => by exfalso; omega)
        conv => whnf
        refine brI (fun e => ?_) (fun e => ?_) <;> conv => whnf
        · rw [if_pos (by omega)] at hq
          exact ⟨trivial, hq⟩
        · rw [if_neg (by omega)] at hq
          refine nzI (by omega) ?_
          conv => whnf
          have hm : x % y < y := Nat.mod_lt _ (by omega)
          refine ⟨trivial, Ev.to ?_ rfl (ih y (x % y) (some ((x % y : Nat) : Int)) (by omega) (by omega) (by omega) hq)⟩
          rw [irm_q (by omega) (by omega) (by omega), iad_e (by omega)]
          rw [show (x : Int) % (y : Int) = ((x % y : Nat) : Int) from rfl, show (64 : Int) - ((f + 1 : Nat) : Int) + 1 = 64 - (f : Int) by omega]
          rfl
  have := key 64 a.toNat b.toNat none (Nat.le_refl _) (by omega) (by omega) h
  rw [show ((a.toNat : Nat) : Int) = a by omega, show ((b.toNat : Nat) : Int) = b by omega] at this
  exact ⟨trivial, this⟩
theorem m234 {d : Nat} {a b : Int} {I : ME} {Q : Option MV → ME → Prop} (ha : -4000000000000 ≤ a) (ha2 : a ≤ 4000000000000) (hb : 0 ≤ b) (hb2 : b ≤ 4000000000000) (h : Q (some (lg ((Nat.gcd a.natAbs b.toNat : Nat) : Int))) I) : EvM d 234 [lg a, lg b] I Q := by
  have key : ∀ (n x y : Nat) (t : Option Int), y = n → x ≤ 4000000000000 → y ≤ 4000000000000 → Q (some (lg ((Nat.gcd x y : Nat) : Int))) I → Ev d 234 17 ([some (lg a), none, some (lg b), none, some (lg (x : Int)), none, some (lg (y : Int)), none] ++ (match t with | none => [none, none] | some v => [some (lg v), none])) [] I Q := by
    intro n
    induction n using Nat.strongRecOn with
    | _ n ih =>
      intro x y t hn hx hy hq
      refine Ev.go [17] (T := T_234) rfl rfl ?_
      cases t
      all_goals
        conv => whnf
        refine brI (fun e => ?_) (fun e => ?_) <;> (rw [lcm_0] at e) <;> conv => whnf
        · have : y = 0 := by omega
          subst this
          rw [Nat.gcd_zero_right] at hq
          exact ⟨trivial, hq⟩
        · have hm : x % y < y := Nat.mod_lt _ (by omega)
          refine nzI (by omega) ?_
          conv => whnf
          refine ⟨trivial, Ev.to ?_ rfl (ih (x % y) (by omega) y (x % y) (some ((x % y : Nat) : Int)) rfl (by omega) (by omega) ?_)⟩
          · rw [lrm_p (by omega) (by omega) (by omega)]
            rfl
          · rw [Nat.gcd_comm, ← Nat.gcd_rec, Nat.gcd_comm]; exact hq
  refine EvM.go [17] (T := T_234) rfl rfl rfl rfl ?_
  conv => whnf
  have hk := key b.toNat a.natAbs b.toNat none rfl (by omega) (by omega) h
  refine brI (fun e => ?_) (fun e => ?_) <;> (rw [lcm_lt] at e) <;> conv => whnf
  · rw [show ((a.natAbs : Nat) : Int) = -a by omega, show ((b.toNat : Nat) : Int) = b by omega] at hk
    rw [lng_e (by omega)]
    exact ⟨trivial, hk⟩
  · rw [show ((a.natAbs : Nat) : Int) = a by omega, show ((b.toNat : Nat) : Int) = b by omega] at hk
    exact ⟨trivial, hk⟩
