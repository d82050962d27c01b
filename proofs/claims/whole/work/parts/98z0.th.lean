/-! OPERATIONS in thought: they change what ties nothing -/
def scC : List Nat := [11, 12, 13, 16, 17, 18, 19, 20, 21, 22, 23, 24, 25, 26, 27, 28, 29, 30, 31, 32, 33]
def scM : List Nat := [53, 61, 62, 63, 64, 65, 66, 67, 68]
def mF (I J : ME) : Prop := (∀ j, j < 14 ∨ 31 < j → J 53 j = I 53 j) ∧ Fr scM I J
theorem Fr.sub {A B : List Nat} {I J : ME} (h : Fr A I J) (hs : ∀ c ∈ A, c ∈ B) : Fr B I J := fun c hc => h c (fun z => hc (hs c z))
theorem mF.tr {I J K : ME} (h : mF I J) (h2 : mF J K) : mF I K := ⟨fun j hj => (h2.1 j hj).trans (h.1 j hj), h.2.tr h2.2⟩
theorem drM.mF {I J : ME} (h : drM I J) : mF I J := ⟨fun j hj => h.1 j (by omega), h.2.sub (by decide)⟩
theorem MX.mf {ln : lz_L} {L : LT} {I J : ME} (h : MX ln L I) (hD : mF I J) : MX ln L J :=
  h.keep (hD.1 6 (by omega)) (hD.1 7 (by omega)) (hD.1 8 (by omega)) (hD.1 13 (by omega)) (hD.2 54 (by decide)) (hD.2 58 (by decide)) (hD.2 60 (by decide))
theorem Rel.th {c : Int} {I : ME} (hc : c < 512) (h : Rel c I) : ∃ ln, CX ln (ltC I) I ∧ MX ln (ltC I) I ∧ ∀ J J2, Fr scC I J → CX ln (ltC I) J → mF J J2 → Rel (c + 1) J2 := by
  obtain ⟨ln, hC, hM⟩ := h
  have hC' := hC
  have hM' := hM
  obtain ⟨a, b, g, d, f, r, l, u, v⟩ := hC
  obtain ⟨a', b', g', d', f', r', l'⟩ := hM
  have hO : LTok (ltC I) := a
  refine ⟨ln, ⟨rfl, hO, l, ⟨u.1, u.2.1, by omega⟩, v⟩, ⟨hO, a', l'⟩, fun J J2 hF hX hm => ⟨ln, ?_, ?_⟩⟩
  · obtain ⟨x1, x2, x3, x4, x5⟩ := hX
    have e : ∀ c, c ∉ scC → c ∉ scM → J2 c = I c := fun c h1 h2 => (hm.2 c h2).trans (hF c h1)
    have e13 : J2 13 = J 13 := hm.2 13 (by decide)
    have eJ2 : J 2 = I 2 := hF 2 (by decide)
    have eJ7 : J 7 = I 7 := hF 7 (by decide)
    have eJ1 : J 1 = I 1 := hF 1 (by decide)
    rw [eJ2, eJ7, eJ1] at x5
    unfold CI
    rw [e13, e 1 (by decide) (by decide), e 2 (by decide) (by decide), e 3 (by decide) (by decide), e 4 (by decide) (by decide), e 5 (by decide) (by decide), e 6 (by decide) (by decide), e 7 (by decide) (by decide), e 8 (by decide) (by decide), e 9 (by decide) (by decide), e 10 (by decide) (by decide),
      e 14 (by decide) (by decide), e 15 (by decide) (by decide), e 39 (by decide) (by decide), e 40 (by decide) (by decide), e 41 (by decide) (by decide), e 42 (by decide) (by decide), e 43 (by decide) (by decide), e 34 (by decide) (by decide), e 36 (by decide) (by decide), e 37 (by decide) (by decide),
      e 44 (by decide) (by decide), e 45 (by decide) (by decide), e 48 (by decide) (by decide), e 49 (by decide) (by decide), e 50 (by decide) (by decide), e 51 (by decide) (by decide)]
    exact ⟨a, b, g, d, f, r, l, ⟨u.1, u.2.1, by omega⟩, x5⟩
  · have e : ∀ c, c ∉ scC → c ∉ scM → J2 c = I c := fun c h1 h2 => (hm.2 c h2).trans (hF c h1)
    have k : ∀ j, j < 14 ∨ 31 < j → J2 53 j = I 53 j := fun j hj => (hm.1 j hj).trans (by rw [hF 53 (by decide)])
    unfold MR_
    rw [k 4 (by omega), k 5 (by omega), k 6 (by omega), k 7 (by omega), k 8 (by omega), k 11 (by omega), k 13 (by omega), k 32 (by omega), k 33 (by omega), k 34 (by omega), k 36 (by omega), k 37 (by omega), k 38 (by omega), k 39 (by omega), k 44 (by omega), k 47 (by omega),
      e 1 (by decide) (by decide), e 2 (by decide) (by decide), e 3 (by decide) (by decide), e 4 (by decide) (by decide), e 5 (by decide) (by decide), e 6 (by decide) (by decide),
      e 14 (by decide) (by decide), e 15 (by decide) (by decide), e 39 (by decide) (by decide), e 40 (by decide) (by decide), e 41 (by decide) (by decide), e 42 (by decide) (by decide), e 43 (by decide) (by decide), e 34 (by decide) (by decide), e 35 (by decide) (by decide), e 36 (by decide) (by decide), e 37 (by decide) (by decide), e 38 (by decide) (by decide),
      e 44 (by decide) (by decide), e 45 (by decide) (by decide), e 46 (by decide) (by decide), e 48 (by decide) (by decide), e 49 (by decide) (by decide), e 50 (by decide) (by decide), e 51 (by decide) (by decide), e 52 (by decide) (by decide),
      e 54 (by decide) (by decide), e 55 (by decide) (by decide), e 56 (by decide) (by decide), e 57 (by decide) (by decide), e 58 (by decide) (by decide), e 59 (by decide) (by decide), e 60 (by decide) (by decide), e 69 (by decide) (by decide), e 70 (by decide) (by decide), e 71 (by decide) (by decide), e 72 (by decide) (by decide), e 73 (by decide) (by decide), e 74 (by decide) (by decide), e 75 (by decide) (by decide), e 76 (by decide) (by decide), e 77 (by decide) (by decide), e 78 (by decide) (by decide)]
    exact ⟨a', b', g', d', f', r', l'⟩
/-- both sides alike, all holds again; the sum of nobody stays 0 -/
def Op3 (kx km : Nat) (as : List MV) (T : Int → MV) : Prop := ∀ (c : Int) (I : ME), 0 ≤ c → c < 512 → Rel c I → I 27 0 = 0 → EvM 799 kx (rf 0 :: as) I (fun v I1 => ∃ a, v = some (T a) ∧ EvM 799 km (rf 53 :: as) I1 (fun w I2 => w = some (T a) ∧ Rel (c + 1) I2 ∧ I2 1000 = I 1000 ∧ I2 27 0 = 0))
def Xi (kx : Nat) (as : List MV) (T : Int → MV) (F : lz_L → LT → Int) : Prop := ∀ (ln : lz_L) (L : LT) (I : ME) (Q : Option MV → ME → Prop), CX ln L I → I 27 0 = 0 → (∀ J, Fr scC I J → CX ln L J → J 27 0 = 0 → Q (some (T (F ln L))) J) → EvM 799 kx (rf 0 :: as) I Q
def Mi (km : Nat) (as : List MV) (T : Int → MV) (F : lz_L → LT → Int) : Prop := ∀ (ln : lz_L) (L : LT) (I : ME) (Q : Option MV → ME → Prop), MX ln L I → (∀ J, mF I J → Q (some (T (F ln L))) J) → EvM 799 km (rf 53 :: as) I Q
theorem Op3.mk {kx km : Nat} {as : List MV} {T : Int → MV} {F : lz_L → LT → Int} (hx : Xi kx as T F) (hm : Mi km as T F) : Op3 kx km as T := by
  intro c I hc0 hc h h27
  obtain ⟨ln, hX, hM, hB⟩ := h.th hc
  refine hx ln _ I _ hX h27 (fun J hF hX2 hJ => ⟨_, rfl, hm ln _ J _ (hM.keep ?_ ?_ ?_ ?_ (hF 54 (by decide)) (hF 58 (by decide)) (hF 60 (by decide))) (fun J2 hm2 => ⟨rfl, hB J J2 hF hX2 hm2, ?_, ?_⟩)⟩)
  · rw [hF 53 (by decide)]
  · rw [hF 53 (by decide)]
  · rw [hF 53 (by decide)]
  · rw [hF 53 (by decide)]
  · rw [hm2.2 1000 (by decide), hF 1000 (by decide)]
  · rw [hm2.2 27 (by decide)]; exact hJ
theorem areIn_L {L : LT} (hL : LTok L) {s : Int} (hs : -2147483648 ≤ s ∧ s ≤ 2147483647) (h : ian s (ixr (tIn L) (-1)) = 0) : suB s (tIn L) := areIn_sub hs hL.f.2.1.1 hL.f.2.1.2 h
noncomputable def F6 (k s : Int) (ln : lz_L) (L : LT) : Int := if pP k ∧ ian s (ixr (tIn L) (-1)) = 0 then lsS ln L k s else -2000000000
theorem op6 {k s : Int} (hs : -2147483648 ≤ s ∧ s ≤ 2147483647) : Op3 136 228 [nt k, nt s] nt := by
  refine Op3.mk (F := F6 k s) (fun ln L I Q hX h27 h => ?_) (fun ln L I Q hM h => ?_)
  · have f := hX.f
    refine EvM.go [] (T := T_136) rfl rfl rfl rfl ?_
    conv => whnf
    refine ⟨by omega, x175 (fun hk => ?_) (fun hk => ?_)⟩ <;> conv => whnf
    · refine ⟨by omega, x38 (fun z => ?_) (fun z => ?_)⟩ <;> conv => whnf
      · rw [f.2.1] at z
        refine ⟨by omega, x123 (by omega) hX (areIn_L hX.2.1 hs z) hk (fun J hF hX2 hp => ?_)⟩
        conv => whnf
        refine ⟨trivial, ?_⟩
        have := h J (hF.sub (by decide)) hX2 (by rw [hF 27 (by decide)]; exact h27)
        unfold F6 at this
        rw [if_pos ⟨hk, z⟩] at this
        exact this
      · rw [f.2.1] at z
        refine ⟨trivial, ?_⟩
        have := h I Fr.rfl' hX h27
        unfold F6 at this
        rw [if_neg (fun q => z q.2)] at this
        exact this
    · refine ⟨trivial, ?_⟩
      have := h I Fr.rfl' hX h27
      unfold F6 at this
      rw [if_neg (fun q => hk q.1)] at this
      exact this
  · have f := hM.f
    have hO := hM.1
    refine EvM.go [] (T := T_228) rfl rfl rfl rfl ?_
    conv => whnf
    refine ⟨by omega, m195 (by omega) (fun hk => ?_) (fun hk => ?_)⟩ <;> conv => whnf
    · refine ⟨by omega, m227 (fun z => ?_) (fun z => ?_)⟩ <;> conv => whnf
      · rw [f.2.1] at z ⊢
        refine ⟨by omega, m226 (by omega) hM ⟨⟨hO.f.2.1.1, hO.f.2.1.2⟩, fun u _ _ q => q⟩ (areIn_L hO hs z.2) (fun J hF hp => ?_)⟩
        conv => whnf
        refine anI (by omega) ?_
        conv => whnf
        rw [hp k hk]
        refine ⟨trivial, ?_⟩
        have := h J hF.mF
        unfold F6 at this
        rw [if_pos ⟨hk, z.2⟩] at this
        exact this
      · rw [f.2.1] at z
        refine ⟨trivial, ?_⟩
        have := h I ⟨fun _ _ => rfl, Fr.rfl'⟩
        unfold F6 at this
        rw [if_neg (fun q => z ⟨(areIn_L hO hs q.2).1.1, q.2⟩)] at this
        exact this
    · refine ⟨trivial, ?_⟩
      have := h I ⟨fun _ _ => rfl, Fr.rfl'⟩
      unfold F6 at this
      rw [if_neg (fun q => hk q.1)] at this
      exact this
