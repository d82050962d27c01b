/-! TICKETS HANDED on in thought -/
theorem fu_fu (f : gF) (i v w : Int) : fu (fu f i v) i w = fu f i w := by
  funext j
  unfold fu
  split
  · rfl
  · rfl
theorem fu_id {f : gF} {i v : Int} (h : f i = v) : fu f i v = f := by
  funext j
  unfold fu
  split
  · rename_i q; rw [q, h]
  · rfl
def Lho (L : LT) (t k : Int) : LT := (tSz L, tIn L, tDr L, tLv L, tTh L, fu (tHo L) t k, tBl L, tLo L)
theorem Lho_2 (L : LT) (t k k' : Int) : Lho (Lho L t k) t k' = Lho L t k' := by
  show (tSz L, tIn L, tDr L, tLv L, tTh L, fu (fu (tHo L) t k) t k', tBl L, tLo L) = _
  rw [fu_fu]
  rfl
theorem Lho_id (L : LT) (t : Int) : Lho L t (tHo L t) = L := by
  unfold Lho
  rw [fu_id rfl]
  rfl
theorem Lho_bk {L : LT} {t k k' : Int} (h : tHo L t = k') : Lho (Lho L t k) t k' = L := by rw [Lho_2, ← h, Lho_id]
theorem Lho.ok {L : LT} (hL : LTok L) {t k : Int} (t0 : 0 ≤ t) (t1 : t < 12) (hk : pH k) : LTok (Lho L t k) := by
  obtain ⟨a, b, c, d, e, f⟩ := hL
  refine ⟨a, b, c, d, fun u u0 u1 => ?_, f⟩
  obtain ⟨x, y, z⟩ := e u u0 u1
  refine ⟨x, ?_, z⟩
  show pH (fu (tHo L) t k u)
  by_cases w : u = t
  · rw [w, fu_eq]; exact hk
  · rw [fu_ne w]; exact y
theorem CX.hand {ln : lz_L} {L : LT} {I : ME} (h : CX ln L I) {t k : Int} (t0 : 0 ≤ t) (t1 : t < 12) (hk : pH k) : CX ln (Lho L t k) (upd_ I 4 t k) := by
  obtain ⟨a, b, c, d, e⟩ := h
  refine ⟨?_, Lho.ok b t0 t1 hk, ?_, ?_, ?_⟩
  · rw [← a]
    unfold ltC
    simp (disch := decide) only [up_c, up_g]
    rfl
  · rw [up_c (by decide), up_c (by decide), up_c (by decide), up_c (by decide)]; exact c
  · rw [up_c (by decide), up_c (by decide)]; exact d
  · rw [up_c (by decide), up_c (by decide), up_c (by decide), up_c (by decide)]; exact e
theorem MX.hand {ln : lz_L} {L : LT} {I : ME} (h : MX ln L I) {t k : Int} (t0 : 0 ≤ t) (t1 : t < 12) (hk : pH k) : MX ln (Lho L t k) (upd_ I 54 (48 + 3 * t + 1) k) := by
  obtain ⟨a, b, c⟩ := h
  refine ⟨Lho.ok a t0 t1 hk, ?_, ?_⟩
  · obtain ⟨b1, b2, b3, b4, b5, b6⟩ := b
    simp (disch := decide) only [up_c, up_g]
    refine ⟨b1, b2, b3, fun j j0 j1 => ?_, fun u u0 u1 => ?_, b6⟩
    · rw [fu_ne (by omega)]; exact b4 j j0 j1
    · obtain ⟨x, y, z⟩ := b5 u u0 u1
      refine ⟨?_, ?_, ?_⟩
      · rw [fu_ne (by omega)]; exact x
      · show fu (I 54) (48 + 3 * t + 1) k (48 + 3 * u + 1) = fu (tHo L) t k u
        by_cases w : u = t
        · rw [w, fu_eq, fu_eq]
        · rw [fu_ne w, fu_ne (by omega)]; exact y
      · rw [fu_ne (by omega)]; exact z
  · rw [up_c (by decide), up_c (by decide)]; exact c
theorem drM.put {J K : ME} {a q v : Int} (h : drM (upd_ J 54 a q) K) (hv : J 54 a = v) : drM J (upd_ K 54 a v) := by
  refine ⟨fun j hj => ?_, fun c hc => ?_⟩
  · rw [up_c (by decide), h.1 j hj, up_c (by decide)]
  · by_cases w : c = 54
    · subst w
      rw [up_g, h.2 54 (by decide), up_g, fu_fu, fu_id hv]
    · rw [up_c w, h.2 c hc, up_c w]
theorem mF.put {J K : ME} {a q v : Int} (h : mF (upd_ J 54 a q) K) (hv : J 54 a = v) : mF J (upd_ K 54 a v) := by
  refine ⟨fun j hj => ?_, fun c hc => ?_⟩
  · rw [up_c (by decide), h.1 j hj, up_c (by decide)]
  · by_cases w : c = 54
    · subst w
      rw [up_g, h.2 54 (by decide), up_g, fu_fu, fu_id hv]
    · rw [up_c w, h.2 c hc, up_c w]
/-- cells of a thought, and the holders, which come back -/
theorem Fr.back {A : List Nat} {I J : ME} (h : Fr (4 :: A) I J) (h4 : J 4 = I 4) : Fr A I J := fun c hc => by
  by_cases w : c = 4
  · subst w; exact h4
  · exact h c (fun z => by rcases List.mem_cons.mp z with z | z; exact w z; exact hc z)
theorem x45L {d : Nat} {ln : lz_L} {L : LT} {t k : Int} {I : ME} {Q : Option MV → ME → Prop} (hd : 1 ≤ d) (hC : CX ln L I) (ht : 0 ≤ t ∧ t < tSz L) (hk : pH k) (h : CX ln (Lho L t k) (upd_ I 4 t k) → Q none (upd_ I 4 t k)) : EvM d 45 [rf 1, nt t, nt k] I Q := by
  have f := hC.f
  have g := hC.2.1.f
  exact x45 hd (by omega) (fun _ => h (hC.hand ht.1 (by omega) hk)) (fun z => absurd (show tkC I t by unfold tkC; omega) z)
