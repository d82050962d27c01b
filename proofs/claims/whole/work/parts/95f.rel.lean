/-! WHAT TIES THE CLASS'S CELLS AND THE MODEL'S -/
/-- the law: lines, loves, laid-by losses -/
abbrev gF : Type := Int → Int
/-- the class's own: tickets and loves -/
def cA (sz inS dr : Int) (lov th ho bl lo : gF) : Prop :=
  (0 ≤ sz ∧ sz ≤ 12) ∧ (0 ≤ inS ∧ inS < 4096 ∧ ∀ t, sz ≤ t → t < 12 → ¬ hasb inS t) ∧ (0 ≤ dr ∧ dr + pI inS ≤ sz) ∧
  (∀ j, 0 ≤ j → j < 48 → 0 ≤ lov j ∧ lov j ≤ 99) ∧ (∀ t, 0 ≤ t → t < 12 → pT (th t) ∧ pH (ho t) ∧ (bl t = 0 ∨ bl t = 1)) ∧ (∀ p, pP p → 0 ≤ lo p ∧ lo p < 256)
/-- the tape -/
def cB (len : Int) (by_ : gF) : Prop := (0 ≤ len ∧ len ≤ 120) ∧ ∀ j, 0 ≤ j → j < len → 0 ≤ by_ j ∧ by_ j ≤ 255
/-- a change that is kept -/
def cE (sz n w v v' : Int) : Prop := ((w = 0 ∧ lvC n) ∨ (1 ≤ w ∧ w ≤ 3 ∧ 0 ≤ n ∧ n < sz)) ∧ alC w v ∧ alC w v'
def cC (sz st kp : Int) (nu wh be af : gF) : Prop := (0 ≤ st ∧ st ≤ kp ∧ kp ≤ 40) ∧ ∀ i, 0 ≤ i → i < kp → cE sz (nu i) (wh i) (be i) (af i)
/-- the image -/
def cD (sz has isz iin idr : Int) (ih il : gF) : Prop := (has = 0 ∨ has = 1) ∧ (has = 1 →
  (0 ≤ isz ∧ isz ≤ sz) ∧ (0 ≤ iin ∧ iin < 4096 ∧ ∀ t, isz ≤ t → t < 12 → ¬ hasb iin t) ∧ (0 ≤ idr ∧ idr + pI iin ≤ isz) ∧ (∀ t, 0 ≤ t → t < isz → pH (ih t)) ∧ (∀ p, pP p → 0 ≤ il p ∧ il p < 256))
/-- bodies, shelves -/
def cG (n ran : Int) (kd : gF) : Prop := (0 ≤ n ∧ n ≤ 50) ∧ (0 ≤ ran ∧ ran ≤ 100) ∧ ∀ i, 0 ≤ i → i < n → 0 ≤ kd i ∧ kd i < 8
def cH (n : Int) (ho bo so le : gF) : Prop := ∀ s, pP s → (ho s = 0 ∨ (ho s = 1 ∧ 0 ≤ bo s ∧ bo s < n) ∨ (ho s = 2 ∧ (0 ≤ so s ∧ so s ≤ 4) ∧ (0 ≤ le s ∧ le s ≤ 60)))
/-- the laws' cells: lines as code, one after another -/
def lz_code : lz_L → List Int
  | [] => []
  | (c, e) :: r => c ++ e ++ lz_code r
def lz_ends (mid en : gF) : lz_L → Nat → Nat → Prop
  | [], _, _ => True
  | (c, e) :: r, i, a => mid i = ((a + c.length : Nat) : Int) ∧ en i = ((a + c.length + e.length : Nat) : Int) ∧ lz_ends mid en r (i + 1) (a + c.length + e.length)
def cL (ln : lz_L) (size lines : Int) (stp mid en : gF) : Prop :=
  size = ((lz_code ln).length : Int) ∧ (lz_code ln).length ≤ 120 ∧ lines = (ln.length : Int) ∧ ln.length ≤ 120 ∧ (∀ i, i < (lz_code ln).length → some (stp i) = (lz_code ln)[i]?) ∧ lz_ends mid en ln 0 0 ∧ (∀ q ∈ ln, q.2 ≠ []) ∧
  ∀ nm : Int → Int, ∀ q ∈ ln, (∃ v, lz_V nm q.2 v 40) ∧ (q.1 ≠ [] → ∃ v, lz_V nm q.1 v 40)
/-- losses laid by: T changes of law and loves so far -/
def cK (ln : lz_L) (lov : gF) (T : Int) (kn : gF) : Prop := ∀ k th g d : Int, pP k → pT th → 0 ≤ g → g ≤ 8 → 0 ≤ d → d ≤ 12 →
  0 ≤ kn (((k * 8 + th) * 9 + g) * 13 + d) ∧ kn (((k * 8 + th) * 9 + g) * 13 + d) / 256 < (T + 1) * 16 ∧
  ∀ n, 0 ≤ n → n ≤ 12 → kn (((k * 8 + th) * 9 + g) * 13 + d) / 256 = T * 16 + n + 1 → kn (((k * 8 + th) * 9 + g) * 13 + d) % 256 - 128 = lz_loss ln lov k th n g d
/-- the class: c calls so far at most -/
def CI (ln : lz_L) (c : Int) (I : ME) : Prop :=
  cA (I 1 5) (I 1 6) (I 1 7) (I 2) (I 3) (I 4) (I 5) (I 6) ∧ cB (I 14 2) (I 15) ∧ cC (I 1 5) (I 39 5) (I 39 6) (I 40) (I 41) (I 42) (I 43) ∧
  cD (I 1 5) (I 34 3) (I 34 4) (I 34 5) (I 34 6) (I 36) (I 37) ∧ cG (I 44 2) (I 44 3) (I 45) ∧ cH (I 44 2) (I 48) (I 49) (I 50) (I 51) ∧
  cL ln (I 7 4) (I 7 5) (I 8) (I 9) (I 10) ∧ (0 ≤ I 7 9 ∧ 0 ≤ I 1 8 ∧ I 7 9 + I 1 8 ≤ c) ∧ cK ln (I 2) (I 7 9 + I 1 8) (I 13)
-- the model's
def mA (sz inS dr : Int) (lov th ho bl lo : gF) (msz min_ mdr : Int) (may mlo : gF) : Prop :=
  msz = sz ∧ min_ = inS ∧ mdr = dr ∧ (∀ j, 0 ≤ j → j < 48 → may j = lov j) ∧ (∀ t, 0 ≤ t → t < 12 → may (48 + 3 * t) = th t ∧ may (48 + 3 * t + 1) = ho t ∧ may (48 + 3 * t + 2) = bl t) ∧ ∀ p, pP p → mlo p = lo p
def mB (len : Int) (by_ : gF) (mlen : Int) (mby : gF) : Prop := mlen = len ∧ ∀ j, 0 ≤ j → j < len → mby j = by_ j
def plM (n w : Int) : Int := if w = 0 then 8 * (n / 10) + n % 10 else 48 + 3 * n + w - 1
def mC (st kp : Int) (nu wh be af : gF) (mdone mkept : Int) (mat mwas mis : gF) : Prop := mdone = st ∧ mkept = kp ∧ ∀ i, 0 ≤ i → i < kp → mat i = plM (nu i) (wh i) ∧ mwas i = be i ∧ mis i = af i
def mD (tot : gF) (has isz iin idr : Int) (ih il it : gF) (m32 m33 m34 m36 m37 m38 m39 : Int) (mll mih mil mil2 mled : gF) : Prop :=
  m32 = tot 0 ∧ m33 = tot 1 ∧ m34 = tot 2 ∧ (∀ p, pP p → mll p = tot (3 + p)) ∧ m36 = has ∧ (has = 1 → m37 = isz ∧ m38 = iin ∧ m39 = idr ∧ (∀ t, 0 ≤ t → t < isz → mih t = ih t) ∧ (∀ p, pP p → mil p = il p) ∧ (∀ p, pP p → mil2 p = it (3 + p)) ∧ ∀ k, 0 ≤ k → k < 3 → mled k = it k)
def mG (n ran : Int) (kd be : gF) (m44 m47 : Int) (mk mt : gF) : Prop := m44 = n ∧ m47 = ran ∧ (∀ i, 0 ≤ i → i < n → mk i = kd i) ∧ ∀ i, 0 ≤ i → i < ran → i < 24 → mt i = be i
def mH (ho bo so le el : gF) (msh mma mit : gF) : Prop := ∀ s, pP s → (ho s = 0 → msh s = -1) ∧ (ho s = 1 → msh s = bo s) ∧ (ho s = 2 → msh s = 50 + so s ∧ mma s = le s ∧ ∀ i, 0 ≤ i → i < 60 → mit (60 * s + i) = el (60 * s + i)) ∧ (ho s = 2 → so s = 0 → ∀ i, 0 ≤ i → i < 60 → -128 ≤ el (60 * s + i) ∧ el (60 * s + i) ≤ 127)
def mL (ln : lz_L) (mn : Int) (mtx : gF) : Prop := (mn = -1 ∧ ln = [([], [-1])]) ∨ ∃ n : Nat, mn = (n : Int) ∧ n ≤ 120 ∧ ((lz_T (fun j => mtx j) n).1 = true ∧ (lz_T (fun j => mtx j) n).2.2 = ln)
def MR_ (ln : lz_L) (C I : ME) : Prop :=
  mA (C 1 5) (C 1 6) (C 1 7) (C 2) (C 3) (C 4) (C 5) (C 6) (I 53 6) (I 53 7) (I 53 8) (I 54) (I 58) ∧ mB (C 14 2) (C 15) (I 53 11) (I 59) ∧
  mC (C 39 5) (C 39 6) (C 40) (C 41) (C 42) (C 43) (I 53 5) (I 53 4) (I 55) (I 56) (I 57) ∧
  mD (C 35) (C 34 3) (C 34 4) (C 34 5) (C 34 6) (C 36) (C 37) (C 38) (I 53 32) (I 53 33) (I 53 34) (I 53 36) (I 53 37) (I 53 38) (I 53 39) (I 69) (I 70) (I 71) (I 72) (I 73) ∧
  mG (C 44 2) (C 44 3) (C 45) (C 46) (I 53 44) (I 53 47) (I 74) (I 75) ∧ mH (C 48) (C 49) (C 50) (C 51) (C 52) (I 76) (I 77) (I 78) ∧ mL ln (I 53 13) (I 60)
/-- all that holds between two calls -/
def Rel (c : Int) (I : ME) : Prop := ∃ ln, CI ln c I ∧ MR_ ln I I
