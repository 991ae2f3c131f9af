theorem cs_win0 {c i j : Nat} {A S R L H : Nat → Int32} (hi : i < 64) (hj : j < 3) (h : A (3 * i + j) < L j ∨ H j < A (3 * i + j)) (post : Int32 → Prop) (hp : post 0) : wpX_isWithinRange post (nI c, A, S, R, L, H) (nI i) (nI j) := by
  have hin : vp_in (nI j) 3 := vp_in_nI hj (by decide)
  unfold wpX_isWithinRange
  dsimp only
  refine cs_cell hi hj _ ?_
  rw [nI_clamp (by omega)]
  by_cases h1 : A (3 * i + j) < L j
  · exact ⟨hin, br_t h1 hp⟩
  · rcases h with h | h
    · exact absurd h h1
    · exact ⟨hin, br_f h1 ⟨hin, br_t h hp⟩⟩
theorem cs_win1 {c i j : Nat} {A S R L H : Nat → Int32} (hi : i < 64) (hj : j < 3) (h1 : ¬ A (3 * i + j) < L j) (h2 : ¬ H j < A (3 * i + j)) (post : Int32 → Prop) (hp : post 1) : wpX_isWithinRange post (nI c, A, S, R, L, H) (nI i) (nI j) := by
  have hin : vp_in (nI j) 3 := vp_in_nI hj (by decide)
  unfold wpX_isWithinRange
  dsimp only
  refine cs_cell hi hj _ ?_
  rw [nI_clamp (by omega)]
  exact ⟨hin, br_f h1 ⟨hin, br_f h2 hp⟩⟩
theorem cs_pass {c i : Nat} {A S V R L H : Nat → Int32} (hi : i < 64) : ∀ d j : Nat, j + d = 3 → ∃ r : Int32, (∀ post : Int32 → Prop, post r → wX_passes_13 post (nI i) (nI c) A S R L H (d + 1) (nI j)) ∧ (∀ post : Int32 → Prop, post r → wY_passes_13 post (nI i) (nI c) A V R L H (d + 1) (nI j)) := by
  intro d
  induction d with
  | zero =>
    intro j hj
    have h : (3 : Int32) ≤ nI j := nI_le (a := 3) (by omega) (by omega)
    exact ⟨1, fun _ hp => br_t h hp, fun _ hp => br_t h hp⟩
  | succ d ih =>
    intro j hj
    have hj3 : j < 3 := by omega
    have h : ¬ (3 : Int32) ≤ nI j := nI_ge (b := 3) hj3 (by decide)
    have hin : vp_in (nI j) 3 := vp_in_nI hj3 (by decide)
    have e : (nI j).toNatClampNeg = j := nI_clamp (by omega)
    have hy : vp_in (3 * nI i + nI j) 192 := cs_inY hi hj3
    have ey : A (3 * nI i + nI j).toNatClampNeg = A (3 * i + j) := cs_atY A hi hj3
    obtain ⟨r, hX, hY⟩ := ih (j + 1) (by omega)
    by_cases z : R (nI j).toNatClampNeg = 0
    · exact ⟨r, fun post hp => br_f h ⟨hin, br_t z (nm_r (nI_1 j) (hX post hp))⟩, fun post hp => br_f h ⟨hy, nm_r ey ⟨hin, br_t z (nm_r (nI_1 j) (hY post hp))⟩⟩⟩
    · by_cases h1 : A (3 * i + j) < L j
      · have h1' : A (3 * i + j) < L (nI j).toNatClampNeg := by rw [e]; exact h1
        exact ⟨0, fun post hp => br_f h ⟨hin, br_f z (cs_win0 hi hj3 (Or.inl h1) _ (br_t rfl hp))⟩, fun post hp => br_f h ⟨hy, nm_r ey ⟨hin, br_f z ⟨hin, br_t h1' hp⟩⟩⟩⟩
      · have h1' : ¬ A (3 * i + j) < L (nI j).toNatClampNeg := by rw [e]; exact h1
        by_cases h2 : H j < A (3 * i + j)
        · have h2' : ¬ A (3 * i + j) ≤ H (nI j).toNatClampNeg := by rw [e]; exact Int32.not_le.mpr h2
          exact ⟨0, fun post hp => br_f h ⟨hin, br_f z (cs_win0 hi hj3 (Or.inr h2) _ (br_t rfl hp))⟩, fun post hp => br_f h ⟨hy, nm_r ey ⟨hin, br_f z ⟨hin, br_f h1' ⟨hin, br_f h2' hp⟩⟩⟩⟩⟩
        · have h2' : A (3 * i + j) ≤ H (nI j).toNatClampNeg := by rw [e]; exact Int32.not_lt.mp h2
          exact ⟨r, fun post hp => br_f h ⟨hin, br_f z (cs_win1 hi hj3 h1 h2 _ (br_f cs_10 (nm_r (nI_1 j) (hX post hp))))⟩, fun post hp => br_f h ⟨hy, nm_r ey ⟨hin, br_f z ⟨hin, br_f h1' ⟨hin, br_t h2' (nm_r (nI_1 j) (hY post hp))⟩⟩⟩⟩⟩
/-- a row passes on both sides, or on neither -/
theorem cs_passes {c i : Nat} {A S V R L H : Nat → Int32} (hc : c ≤ 64) (hT : cs_T c S V) (hi : i < c) : ∃ r : Int32, (∀ post : Int32 → Prop, post r → wpX_passes post (nI c, A, S, R, L, H) (nI i)) ∧ (∀ post : Int32 → Prop, post r → wpY_passes post (nI c, A, V, R, L, H) (nI i)) := by
  have hin : vp_in (nI i) 64 := vp_in_nI (by omega) (by decide)
  have e : (nI i).toNatClampNeg = i := nI_clamp (by omega)
  by_cases z : S i = 0
  · have zX : S (nI i).toNatClampNeg = 0 := by rw [e]; exact z
    have zY : ¬ V (nI i).toNatClampNeg = 0 := by rw [e]; exact (hT.1 i hi).mp z
    obtain ⟨r, hX, hY⟩ := cs_pass (c := c) (i := i) (A := A) (S := S) (V := V) (R := R) (L := L) (H := H) (by omega) 3 0 rfl
    rw [nI_0] at hX hY
    exact ⟨r, fun post hp => ⟨hin, br_t zX ⟨_, hX post hp⟩⟩, fun post hp => ⟨hin, br_f zY ⟨_, hY post hp⟩⟩⟩
  · have zX : ¬ S (nI i).toNatClampNeg = 0 := by rw [e]; exact z
    have zY : V (nI i).toNatClampNeg = 0 := by
      rw [e]
      by_cases y : V i = 0
      · exact y
      · exact absurd ((hT.1 i hi).mpr y) z
    exact ⟨0, fun post hp => ⟨hin, br_f zX hp⟩, fun post hp => ⟨hin, br_t zY hp⟩⟩
