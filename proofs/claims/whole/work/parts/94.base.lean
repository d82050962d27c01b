/-! BASE: rules for conditions, whole numbers, bits -/
abbrev rf (c : Nat) : MV := .inr (.inr c)
abbrev nt (x : Int) : MV := .inl x
abbrev lg (x : Int) : MV := .inr (.inl x)
/-- a run's end in a form that is kept -/
theorem Ev.to {d k pc : Nat} {ls ls' : List (Option MV)} {st : List MV} {I I' : ME} {Q : Option MV → ME → Prop} (h : ls = ls') (hI : I = I') (h2 : Ev d k pc ls' st I' Q) : Ev d k pc ls st I Q := by
  subst h; subst hI; exact h2
theorem EvM.to {d k : Nat} {as as' : List MV} {I I' : ME} {Q : Option MV → ME → Prop} (h : as = as') (hI : I = I') (h2 : EvM d k as' I' Q) : EvM d k as I Q := by
  subst h; subst hI; exact h2
/-- a loop that counts up to n -/
theorem Ev.upP {d k pc : Nat} {Q : Option MV → ME → Prop} (n : Nat) (P : Nat → List (Option MV) → ME → Prop)
    (hs : ∀ i ls I, i < n → P i ls I → (∀ ls' I', P (i + 1) ls' I' → Ev d k pc ls' [] I' Q) → Ev d k pc ls [] I Q)
    (he : ∀ ls I, P n ls I → Ev d k pc ls [] I Q) : ∀ i ls I, i ≤ n → P i ls I → Ev d k pc ls [] I Q := by
  have key : ∀ m i ls I, i + m = n → P i ls I → Ev d k pc ls [] I Q := by
    intro m
    induction m with
    | zero => intro i ls I hi hp; have : i = n := by omega
              subst this; exact he ls I hp
    | succ m ih => intro i ls I hi hp; exact hs i ls I (by omega) hp (fun ls' I' hp' => ih (i + 1) ls' I' (by omega) hp')
  intro i ls I hi hp
  exact key (n - i) i ls I (by omega) hp
theorem Ev.up {d k pc : Nat} {Q : Option MV → ME → Prop} (n : Nat) (F : Nat → List (Option MV)) (G : Nat → ME)
    (hs : ∀ i, i < n → Ev d k pc (F (i + 1)) [] (G (i + 1)) Q → Ev d k pc (F i) [] (G i) Q)
    (he : Ev d k pc (F n) [] (G n) Q) (i : Nat) (hi : i ≤ n) : Ev d k pc (F i) [] (G i) Q := by
  refine Ev.upP n (fun i ls I => ls = F i ∧ I = G i) ?_ ?_ i _ _ hi ⟨rfl, rfl⟩
  · intro i ls I hi hp hn
    rw [hp.1, hp.2]
    exact hs i hi (hn _ _ ⟨rfl, rfl⟩)
  · intro ls I hp
    rw [hp.1, hp.2]
    exact he
/-- a loop with a measure -/
theorem Ev.wf {d k pc : Nat} {Q : Option MV → ME → Prop} (P : Nat → List (Option MV) → ME → Prop)
    (hs : ∀ m ls I, P m ls I → (∀ m' ls' I', m' < m → P m' ls' I' → Ev d k pc ls' [] I' Q) → Ev d k pc ls [] I Q) : ∀ m ls I, P m ls I → Ev d k pc ls [] I Q := by
  intro m
  induction m using Nat.strongRecOn with
  | _ m ih => intro ls I hp; exact hs m ls I hp (fun m' ls' I' hm hp' => ih m' hm ls' I' hp')
-- whole numbers
theorem iad_e {a b : Int} (h : -2147483648 ≤ a + b ∧ a + b ≤ 2147483647) : iad a b = a + b := to_of32 h
theorem isb_e {a b : Int} (h : -2147483648 ≤ a - b ∧ a - b ≤ 2147483647) : isb a b = a - b := to_of32 h
theorem iml_e {a b : Int} (h : -2147483648 ≤ a * b ∧ a * b ≤ 2147483647) : iml a b = a * b := to_of32 h
theorem ing_e {a : Int} (h : -2147483648 ≤ -a ∧ -a ≤ 2147483647) : ing a = -a := to_of32 h
theorem lad_e {a b : Int} (h : -9223372036854775808 ≤ a + b ∧ a + b ≤ 9223372036854775807) : lad a b = a + b := to_of64 h
theorem lsb_e {a b : Int} (h : -9223372036854775808 ≤ a - b ∧ a - b ≤ 9223372036854775807) : lsb a b = a - b := to_of64 h
theorem lml_e {a b : Int} (h : -9223372036854775808 ≤ a * b ∧ a * b ≤ 9223372036854775807) : lml a b = a * b := to_of64 h
theorem lng_e {a : Int} (h : -9223372036854775808 ≤ -a ∧ -a ≤ 9223372036854775807) : lng a = -a := to_of64 h
theorem tdiv_bd {a b : Int} : -(a.natAbs : Int) ≤ a.tdiv b ∧ a.tdiv b ≤ (a.natAbs : Int) := by
  have h := Int.natAbs_tdiv_le_natAbs a b
  omega
theorem idv_t {a b : Int} (ha : IR a) (hb : IR b) (h : a ≠ -2147483648) : idv a b = a.tdiv b := by
  unfold idv
  rw [Int32.toInt_div, to_of32 ha, to_of32 hb]
  have := @tdiv_bd a b
  unfold IR at ha hb
  exact Int.bmod_eq_of_le (by omega) (by omega)
theorem irm_t {a b : Int} (ha : IR a) (hb : IR b) (h : a ≠ -2147483648) : irm a b = a.tmod b := by
  unfold irm
  have h1 := idv_t ha hb h
  unfold idv at h1
  rw [Int32.toInt_sub, Int32.toInt_mul, h1, to_of32 ha, to_of32 hb]
  have h2 := Int.tmod_def a b
  have h3 : (a.tmod b).natAbs ≤ a.natAbs := by rw [Int.natAbs_tmod]; exact Nat.mod_le _ _
  unfold IR at ha hb
  rw [Int.sub_bmod_bmod]
  have e : a - a.tdiv b * b = a.tmod b := by rw [h2, Int.mul_comm]
  rw [e]
  exact Int.bmod_eq_of_le (by omega) (by omega)
theorem idv_p {a b : Int} (ha : 0 ≤ a) (ha2 : a ≤ 2147483647) (hb : IR b) : idv a b = a / b := by
  rw [idv_t ⟨by omega, ha2⟩ hb (by omega), Int.tdiv_eq_ediv_of_nonneg ha]
theorem irm_p {a b : Int} (ha : 0 ≤ a) (ha2 : a ≤ 2147483647) (hb : IR b) : irm a b = a % b := by
  rw [irm_t ⟨by omega, ha2⟩ hb (by omega), Int.tmod_eq_emod_of_nonneg ha]
theorem idv_n {a b : Int} (ha : a < 0) (ha2 : -2147483647 ≤ a) (hb : IR b) : idv a b = -((-a) / b) := by
  rw [idv_t ⟨by omega, by omega⟩ hb (by omega), ← Int.tdiv_eq_ediv_of_nonneg (by omega), Int.neg_tdiv, Int.neg_neg]
theorem irm_n {a b : Int} (ha : a < 0) (ha2 : -2147483647 ≤ a) (hb : IR b) : irm a b = -((-a) % b) := by
  rw [irm_t ⟨by omega, by omega⟩ hb (by omega), ← Int.tmod_eq_emod_of_nonneg (by omega), Int.neg_tmod, Int.neg_neg]
theorem ldv_t {a b : Int} (ha : IRL a) (hb : IRL b) (h : a ≠ -9223372036854775808) : ldv a b = a.tdiv b := by
  unfold ldv
  rw [Int64.toInt_div, to_of64 ha, to_of64 hb]
  have := @tdiv_bd a b
  unfold IRL at ha hb
  exact Int.bmod_eq_of_le (by omega) (by omega)
theorem lrm_t {a b : Int} (ha : IRL a) (hb : IRL b) (h : a ≠ -9223372036854775808) : lrm a b = a.tmod b := by
  unfold lrm
  have h1 := ldv_t ha hb h
  unfold ldv at h1
  rw [Int64.toInt_sub, Int64.toInt_mul, h1, to_of64 ha, to_of64 hb]
  have h2 := Int.tmod_def a b
  have h3 : (a.tmod b).natAbs ≤ a.natAbs := by rw [Int.natAbs_tmod]; exact Nat.mod_le _ _
  unfold IRL at ha hb
  rw [Int.sub_bmod_bmod]
  have e : a - a.tdiv b * b = a.tmod b := by rw [h2, Int.mul_comm]
  rw [e]
  exact Int.bmod_eq_of_le (by omega) (by omega)
theorem lcm_0 {a b : Int} : lcm_ a b = 0 ↔ a = b := by
  unfold lcm_
  split
  · constructor <;> intro h <;> omega
  · split <;> constructor <;> intro h <;> omega
theorem lcm_lt {a b : Int} : lcm_ a b < 0 ↔ a < b := by
  unfold lcm_
  split
  · constructor <;> intro h <;> omega
  · split <;> constructor <;> intro h <;> omega
theorem lcm_gt {a b : Int} : 0 < lcm_ a b ↔ b < a := by
  unfold lcm_
  split
  · constructor <;> intro h <;> omega
  · split <;> constructor <;> intro h <;> omega
-- memory
theorem up_eq (I : ME) (c : Nat) (i v : Int) : upd_ I c i v c i = v := by unfold upd_; rw [if_pos ⟨rfl, rfl⟩]
theorem up_c {I : ME} {c c' : Nat} {i v : Int} (h : c' ≠ c) : upd_ I c i v c' = I c' := by
  funext j; unfold upd_; rw [if_neg (fun q => h q.1)]
theorem up_ne {I : ME} {c : Nat} {i v i' : Int} (h : i' ≠ i) : upd_ I c i v c i' = I c i' := by
  unfold upd_; rw [if_neg (fun q => h q.2)]
theorem up_any (I : ME) (c : Nat) (i v : Int) (i' : Int) : upd_ I c i v c i' = if i' = i then v else I c i' := by
  unfold upd_
  by_cases h : i' = i
  · rw [if_pos ⟨rfl, h⟩, if_pos h]
  · rw [if_neg (fun q => h q.2), if_neg h]
theorem up_id {I : ME} {c : Nat} {i v : Int} (h : I c i = v) : upd_ I c i v = I := by
  funext c' i'
  unfold upd_
  split
  · rename_i q; rw [q.1, q.2, h]
  · rfl
theorem up_up (I : ME) (c : Nat) (i v w : Int) : upd_ (upd_ I c i v) c i w = upd_ I c i w := by
  funext c' i'
  unfold upd_
  split
  · rfl
  · rfl
-- bits
theorem bv_nat {a : Nat} (h : a < 2147483648) : (Int32.ofInt (a : Int)).toBitVec.toNat = a := by
  rw [Int32.toBitVec_ofInt, BitVec.toNat_ofInt]
  omega
theorem i32_nat {x : BitVec 32} {a : Nat} (h : x.toNat = a) (ha : a < 2147483648) : x.toInt = (a : Int) := by
  rw [BitVec.toInt_eq_toNat_of_lt (by omega), h]
theorem ian_nat {a b : Nat} (ha : a < 2147483648) (hb : b < 2147483648) : ian (a : Int) (b : Int) = ((a &&& b : Nat) : Int) := by
  unfold ian
  refine i32_nat (x := (Int32.ofInt a &&& Int32.ofInt b).toBitVec) ?_ (Nat.lt_of_le_of_lt Nat.and_le_left ha)
  rw [Int32.toBitVec_and, BitVec.toNat_and, bv_nat ha, bv_nat hb]
theorem iro_nat {a b : Nat} (ha : a < 2147483648) (hb : b < 2147483648) : iro (a : Int) (b : Int) = ((a ||| b : Nat) : Int) := by
  unfold iro
  refine i32_nat (x := (Int32.ofInt a ||| Int32.ofInt b).toBitVec) ?_ (Nat.or_lt_two_pow (n := 31) ha hb)
  rw [Int32.toBitVec_or, BitVec.toNat_or, bv_nat ha, bv_nat hb]
theorem bv_not {s : Nat} (hs : s < 2147483648) : (Int32.ofInt (ixr (s : Int) (-1))).toBitVec.toNat = 4294967295 - s := by
  unfold ixr
  rw [of_to32, Int32.toBitVec_xor, BitVec.toNat_xor, bv_nat hs]
  have e : (Int32.ofInt (-1)).toBitVec.toNat = 2 ^ 32 - (0 + 1) := by decide
  rw [e]
  refine Nat.eq_of_testBit_eq fun i => ?_
  rw [Nat.testBit_xor, Nat.testBit_two_pow_sub_succ (by decide), show 4294967295 - s = 2 ^ 32 - (s + 1) by omega, Nat.testBit_two_pow_sub_succ (by omega)]
  by_cases hi : i < 32
  · simp [hi]
  · rw [Nat.testBit_lt_two_pow (Nat.lt_of_lt_of_le hs (Nat.pow_le_pow_right (n := 2) (by decide) (show 31 ≤ i by omega)))]
    simp [hi]
/-- a without b -/
def ndf (a b : Nat) : Nat := a ^^^ (a &&& b)
theorem ndf_bit (a b i : Nat) : (ndf a b).testBit i = (a.testBit i && !b.testBit i) := by
  unfold ndf
  rw [Nat.testBit_xor, Nat.testBit_and]
  cases a.testBit i <;> cases b.testBit i <;> rfl
theorem ndf_le (a b : Nat) : ndf a b ≤ a := by
  refine Nat.le_of_testBit ?_
  intro i h
  rw [ndf_bit] at h
  simp only [Bool.and_eq_true] at h
  exact h.1
theorem ian_not {a s : Nat} (ha : a < 2147483648) (hs : s < 2147483648) : ian (a : Int) (ixr (s : Int) (-1)) = ((ndf a s : Nat) : Int) := by
  unfold ian
  refine i32_nat (x := (Int32.ofInt a &&& Int32.ofInt (ixr (s : Int) (-1))).toBitVec) ?_ (Nat.lt_of_le_of_lt (ndf_le a s) ha)
  rw [Int32.toBitVec_and, BitVec.toNat_and, bv_nat ha, bv_not hs]
  refine Nat.eq_of_testBit_eq fun i => ?_
  rw [Nat.testBit_and, ndf_bit, show 4294967295 - s = 2 ^ 32 - (s + 1) by omega, Nat.testBit_two_pow_sub_succ (by omega)]
  by_cases hi : i < 32
  · simp [hi]
  · rw [Nat.testBit_lt_two_pow (Nat.lt_of_lt_of_le ha (Nat.pow_le_pow_right (n := 2) (by decide) (show 31 ≤ i by omega)))]
    rfl
