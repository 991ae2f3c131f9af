section
/-- rows of kit/rows, pasted: pk_us, pk_un, pk_mul, pk_ix -/
theorem pk_us {f : Nat → Int32} {k : Nat} {x : Int32} : upd f k x k = x := if_pos rfl
theorem pk_un {f : Nat → Int32} {k j : Nat} {x : Int32} (h : j ≠ k) : upd f k x j = f j := if_neg h
theorem pk_mul (a b : Nat) : nI a * nI b = nI (a * b) := (Int32.ofNat_mul a b).symm
theorem pk_ix (x : Int32) {n : Nat} (hn : n < 2 ^ 31) : x < 0 ∨ nI n ≤ x ∨ ∃ j : Nat, j < n ∧ x = nI j := by
  by_cases h : x < 0
  · exact Or.inl h
  · obtain ⟨j, hj, rfl⟩ := nI_of h
    by_cases h2 : j < n
    · exact Or.inr (Or.inr ⟨j, h2, rfl⟩)
    · exact Or.inr (Or.inl (nI_le (by omega) hj))
theorem cs_b0 : vp_nar .boolean 0 = 0 := by decide
theorem cs_b1 : vp_nar .boolean 1 = 1 := by decide
theorem cs_10 : ¬ (1 : Int32) = 0 := by decide
theorem cs_3 : (3 : Int32) = nI 3 := by decide
theorem cs_64 : (64 : Int32) = nI 64 := by decide
/-- of the rows below c: struck just where not alive; from c on nothing is struck -/
def cs_T (c : Nat) (S V : Nat → Int32) : Prop := (∀ i, i < c → (S i = 0 ↔ ¬ V i = 0)) ∧ (∀ i, c ≤ i → S i = 0)
/-- the two hold the same rows, ranges and number of rows; what is struck in one is not alive in the other -/
def i_Rel (k : Nat) (u : SX) (v : SY) : Prop := ∃ (c : Nat) (A S V R L H : Nat → Int32), c ≤ 64 ∧ u = (nI c, A, S, R, L, H) ∧ v = (nI c, A, V, R, L, H) ∧ cs_T c S V
theorem i_up {k : Nat} {u : SX} {v : SY} (h : i_Rel k u v) : i_Rel (k + 4) u v := h
theorem cs_mk {k c : Nat} {A S V R L H : Nat → Int32} (hc : c ≤ 64) (hT : cs_T c S V) : i_Rel k (nI c, A, S, R, L, H) (nI c, A, V, R, L, H) := ⟨c, A, S, V, R, L, H, hc, rfl, rfl, hT⟩
theorem i_vc0 : wpX_init (fun u => wpY_init (fun v => i_Rel 0 u v)) :=
  cs_mk (k := 0) (c := 0) (by decide) ⟨fun i hi => absurd hi (by omega), fun i _ => rfl⟩
theorem cs_ixX (i j : Nat) : nI i * 3 + nI j = nI (3 * i + j) := by
  rw [cs_3, pk_mul, nI_add, Nat.mul_comm]
theorem cs_ixY (i j : Nat) : 3 * nI i + nI j = nI (3 * i + j) := by
  rw [cs_3, pk_mul, nI_add]
theorem cs_inY {i j : Nat} (hi : i < 64) (hj : j < 3) : vp_in (3 * nI i + nI j) 192 := by
  rw [cs_ixY]; exact vp_in_nI (by omega) (by decide)
theorem cs_atY (A : Nat → Int32) {i j : Nat} (hi : i < 64) (hj : j < 3) : A (3 * nI i + nI j).toNatClampNeg = A (3 * i + j) := by
  rw [cs_ixY, nI_clamp (by omega)]
theorem cs_cell {c i j : Nat} {A S R L H : Nat → Int32} (hi : i < 64) (hj : j < 3) (post : Int32 → Prop) (hp : post (A (3 * i + j))) : wpX_cell post (nI c, A, S, R, L, H) (nI i) (nI j) := by
  unfold wpX_cell
  dsimp only
  rw [cs_ixX, nI_clamp (by omega)]
  exact ⟨vp_in_nI (by omega) (by decide), hp⟩
/-- a column that is none, or one of the three: what each side's own question answers -/
theorem cs_col (v : Int32) : ((∀ (post : Int32 → Prop) (c : Int32) (A S R L H : Nat → Int32), post 0 → wpX_isColumn post (c, A, S, R, L, H) v) ∧ (∀ post : Int32 → Prop, post 1 → wpY_bad post v)) ∨ (∃ j : Nat, j < 3 ∧ v = nI j ∧ (∀ (post : Int32 → Prop) (c : Int32) (A S R L H : Nat → Int32), post 1 → wpX_isColumn post (c, A, S, R, L, H) v) ∧ (∀ post : Int32 → Prop, post 0 → wpY_bad post v)) := by
  rcases pk_ix v (n := 3) (by decide) with h | h | ⟨j, hj, rfl⟩
  · exact Or.inl ⟨fun post c A S R L H hp => br_t h hp, fun post hp => br_t h hp⟩
  · by_cases h0 : v < 0
    · exact Or.inl ⟨fun post c A S R L H hp => br_t h0 hp, fun post hp => br_t h0 hp⟩
    · obtain ⟨j, hj, rfl⟩ := nI_of h0
      have h3 : 3 ≤ j := (nI_leI (by decide) hj).mp h
      have h2 : ¬ nI j ≤ 2 := nI_ge (a := 2) (by omega) hj
      exact Or.inl ⟨fun post c A S R L H hp => br_f h0 (br_t h hp), fun post hp => br_f h0 (br_f h2 hp)⟩
  · have h0 : ¬ nI j < 0 := nI_pos (by omega)
    have h3 : ¬ (3 : Int32) ≤ nI j := nI_ge (b := 3) hj (by decide)
    have h2 : nI j ≤ 2 := nI_le (b := 2) (by omega) (by decide)
    exact Or.inr ⟨j, hj, rfl, fun post c A S R L H hp => br_f h0 (br_f h3 hp), fun post hp => br_f h0 (br_t h2 hp)⟩
end
section
theorem cs_win0 {c i j : Nat} {A S R L H : Nat → Int32} (hi : i < 64) (hj : j < 3) (h : A (3 * i + j) < L j ∨ H j < A (3 * i + j)) (post : Int32 → Prop) (hp : post 0) : wpX_isWithinRange post (nI c, A, S, R, L, H) (nI i) (nI j) := by
  have hin : vp_in (nI j) 3 := vp_in_nI hj (by decide)
  unfold wpX_isWithinRange
  dsimp only
  refine cs_cell hi hj _ ?_
  rw [nI_clamp (by omega)]
  by_cases h1 : A (3 * i + j) < L j
  · exact ⟨hin, br_t h1 hp⟩
  · rcases h with h | h
    · exact absurd h h1
    · exact ⟨hin, br_f h1 ⟨hin, br_t h hp⟩⟩
theorem cs_win1 {c i j : Nat} {A S R L H : Nat → Int32} (hi : i < 64) (hj : j < 3) (h1 : ¬ A (3 * i + j) < L j) (h2 : ¬ H j < A (3 * i + j)) (post : Int32 → Prop) (hp : post 1) : wpX_isWithinRange post (nI c, A, S, R, L, H) (nI i) (nI j) := by
  have hin : vp_in (nI j) 3 := vp_in_nI hj (by decide)
  unfold wpX_isWithinRange
  dsimp only
  refine cs_cell hi hj _ ?_
  rw [nI_clamp (by omega)]
  exact ⟨hin, br_f h1 ⟨hin, br_f h2 hp⟩⟩
theorem cs_pass {c i : Nat} {A S V R L H : Nat → Int32} (hi : i < 64) : ∀ d j : Nat, j + d = 3 → ∃ r : Int32, (∀ post : Int32 → Prop, post r → wX_passes_13 post (nI i) (nI c) A S R L H (d + 1) (nI j)) ∧ (∀ post : Int32 → Prop, post r → wY_passes_13 post (nI i) (nI c) A V R L H (d + 1) (nI j)) := by
  intro d
  induction d with
  | zero =>
    intro j hj
    have h : (3 : Int32) ≤ nI j := nI_le (a := 3) (by omega) (by omega)
    exact ⟨1, fun _ hp => br_t h hp, fun _ hp => br_t h hp⟩
  | succ d ih =>
    intro j hj
    have hj3 : j < 3 := by omega
    have h : ¬ (3 : Int32) ≤ nI j := nI_ge (b := 3) hj3 (by decide)
    have hin : vp_in (nI j) 3 := vp_in_nI hj3 (by decide)
    have e : (nI j).toNatClampNeg = j := nI_clamp (by omega)
    have hy : vp_in (3 * nI i + nI j) 192 := cs_inY hi hj3
    have ey : A (3 * nI i + nI j).toNatClampNeg = A (3 * i + j) := cs_atY A hi hj3
    obtain ⟨r, hX, hY⟩ := ih (j + 1) (by omega)
    by_cases z : R (nI j).toNatClampNeg = 0
    · exact ⟨r, fun post hp => br_f h ⟨hin, br_t z (nm_r (nI_1 j) (hX post hp))⟩, fun post hp => br_f h ⟨hy, nm_r ey ⟨hin, br_t z (nm_r (nI_1 j) (hY post hp))⟩⟩⟩
    · by_cases h1 : A (3 * i + j) < L j
      · have h1' : A (3 * i + j) < L (nI j).toNatClampNeg := by rw [e]; exact h1
        exact ⟨0, fun post hp => br_f h ⟨hin, br_f z (cs_win0 hi hj3 (Or.inl h1) _ (br_t rfl hp))⟩, fun post hp => br_f h ⟨hy, nm_r ey ⟨hin, br_f z ⟨hin, br_t h1' hp⟩⟩⟩⟩
      · have h1' : ¬ A (3 * i + j) < L (nI j).toNatClampNeg := by rw [e]; exact h1
        by_cases h2 : H j < A (3 * i + j)
        · have h2' : ¬ A (3 * i + j) ≤ H (nI j).toNatClampNeg := by rw [e]; exact Int32.not_le.mpr h2
          exact ⟨0, fun post hp => br_f h ⟨hin, br_f z (cs_win0 hi hj3 (Or.inr h2) _ (br_t rfl hp))⟩, fun post hp => br_f h ⟨hy, nm_r ey ⟨hin, br_f z ⟨hin, br_f h1' ⟨hin, br_f h2' hp⟩⟩⟩⟩⟩
        · have h2' : A (3 * i + j) ≤ H (nI j).toNatClampNeg := by rw [e]; exact Int32.not_lt.mp h2
          exact ⟨r, fun post hp => br_f h ⟨hin, br_f z (cs_win1 hi hj3 h1 h2 _ (br_f cs_10 (nm_r (nI_1 j) (hX post hp))))⟩, fun post hp => br_f h ⟨hy, nm_r ey ⟨hin, br_f z ⟨hin, br_f h1' ⟨hin, br_t h2' (nm_r (nI_1 j) (hY post hp))⟩⟩⟩⟩⟩
/-- a row passes on both sides, or on neither -/
theorem cs_passes {c i : Nat} {A S V R L H : Nat → Int32} (hc : c ≤ 64) (hT : cs_T c S V) (hi : i < c) : ∃ r : Int32, (∀ post : Int32 → Prop, post r → wpX_passes post (nI c, A, S, R, L, H) (nI i)) ∧ (∀ post : Int32 → Prop, post r → wpY_passes post (nI c, A, V, R, L, H) (nI i)) := by
  have hin : vp_in (nI i) 64 := vp_in_nI (by omega) (by decide)
  have e : (nI i).toNatClampNeg = i := nI_clamp (by omega)
  by_cases z : S i = 0
  · have zX : S (nI i).toNatClampNeg = 0 := by rw [e]; exact z
    have zY : ¬ V (nI i).toNatClampNeg = 0 := by rw [e]; exact (hT.1 i hi).mp z
    obtain ⟨r, hX, hY⟩ := cs_pass (c := c) (i := i) (A := A) (S := S) (V := V) (R := R) (L := L) (H := H) (by omega) 3 0 rfl
    rw [nI_0] at hX hY
    exact ⟨r, fun post hp => ⟨hin, br_t zX ⟨_, hX post hp⟩⟩, fun post hp => ⟨hin, br_f zY ⟨_, hY post hp⟩⟩⟩
  · have zX : ¬ S (nI i).toNatClampNeg = 0 := by rw [e]; exact z
    have zY : V (nI i).toNatClampNeg = 0 := by
      rw [e]
      by_cases y : V i = 0
      · exact y
      · exact absurd ((hT.1 i hi).mpr y) z
    exact ⟨0, fun post hp => ⟨hin, br_f zX hp⟩, fun post hp => ⟨hin, br_t zY hp⟩⟩
end
section
theorem cs_le {a c : Nat} (h : c ≤ a) (ha : a ≤ 64) : nI c ≤ nI a := nI_le h (by omega)
theorem cs_ge {a c : Nat} (h : a < c) (hc : c ≤ 64) : ¬ nI c ≤ nI a := nI_ge h (by omega)
theorem cs_count {c : Nat} {A S V R L H : Nat → Int32} (hc : c ≤ 64) (hT : cs_T c S V) : ∀ d i : Nat, i + d = c → ∀ x : Int32, ∃ r : Int32, (∀ post : Int32 → Prop, post r → wX_count_4 post (nI c) A S R L H (d + 1) x (nI i)) ∧ (∀ post : Int32 → Prop, post r → wY_count_4 post (nI c) A V R L H (d + 1) x (nI i)) := by
  intro d
  induction d with
  | zero =>
    intro i hi x
    have h : nI c ≤ nI i := cs_le (by omega) (by omega)
    exact ⟨x, fun _ hp => br_t h hp, fun _ hp => br_t h hp⟩
  | succ d ih =>
    intro i hi x
    have h : ¬ nI c ≤ nI i := cs_ge (by omega) hc
    obtain ⟨q, pX, pY⟩ := cs_passes (A := A) (R := R) (L := L) (H := H) hc hT (i := i) (by omega)
    by_cases z : q = 0
    · obtain ⟨r, hX, hY⟩ := ih (i + 1) (by omega) x
      exact ⟨r, fun post hp => br_f h (pX _ (br_t z (nm_r (nI_1 i) (hX post hp)))), fun post hp => br_f h (pY _ (br_t z (nm_r (nI_1 i) (hY post hp))))⟩
    · obtain ⟨r, hX, hY⟩ := ih (i + 1) (by omega) (x + 1)
      exact ⟨r, fun post hp => br_f h (pX _ (br_f z (nm_e (nm_r (nI_1 i) (hX post hp))))), fun post hp => br_f h (pY _ (br_f z (nm_e (nm_r (nI_1 i) (hY post hp)))))⟩
theorem cs_sum {c j : Nat} {A S V R L H : Nat → Int32} (hc : c ≤ 64) (hT : cs_T c S V) (hj : j < 3) : ∀ d i : Nat, i + d = c → ∀ x : Int64, ∃ r : Int64, (∀ post : Int64 → Prop, post r → wX_sum_15 post (nI j) (nI c) A S R L H (d + 1) x (nI i)) ∧ (∀ post : Int64 → Prop, post r → wY_sum_14 post (nI j) (nI c) A V R L H (d + 1) x (nI i)) := by
  intro d
  induction d with
  | zero =>
    intro i hi x
    have h : nI c ≤ nI i := cs_le (by omega) (by omega)
    exact ⟨x, fun _ hp => br_t h hp, fun _ hp => br_t h hp⟩
  | succ d ih =>
    intro i hi x
    have h : ¬ nI c ≤ nI i := cs_ge (by omega) hc
    have hi64 : i < 64 := by omega
    obtain ⟨q, pX, pY⟩ := cs_passes (A := A) (R := R) (L := L) (H := H) hc hT (i := i) (by omega)
    by_cases z : q = 0
    · obtain ⟨r, hX, hY⟩ := ih (i + 1) (by omega) x
      exact ⟨r, fun post hp => br_f h (pX _ (br_t z (nm_r (nI_1 i) (hX post hp)))), fun post hp => br_f h (pY _ (br_t z (nm_r (nI_1 i) (hY post hp))))⟩
    · obtain ⟨r, hX, hY⟩ := ih (i + 1) (by omega) (x + (A (3 * i + j)).toInt64)
      have ey : x + (A (3 * nI i + nI j).toNatClampNeg).toInt64 = x + (A (3 * i + j)).toInt64 := by rw [cs_atY A hi64 hj]
      exact ⟨r, fun post hp => br_f h (pX _ (br_f z (cs_cell hi64 hj _ (nm_e (nm_r (nI_1 i) (hX post hp)))))), fun post hp => br_f h (pY _ (br_f z ⟨cs_inY hi64 hj, nm_r ey (nm_r (nI_1 i) (hY post hp))⟩))⟩
theorem cs_ext {c j : Nat} {g : Int32} {A S V R L H : Nat → Int32} (hc : c ≤ 64) (hT : cs_T c S V) (hj : j < 3) : ∀ d i : Nat, i + d = c → ∀ f b : Int32, ∃ r : Int32, (∀ post : Int32 → Prop, post r → wX_extreme_18 post (nI j) g (nI c) A S R L H (d + 1) f b (nI i)) ∧ (∀ post : Int32 → Prop, post r → wY_extreme_17 post (nI j) g (nI c) A V R L H (d + 1) f b (nI i)) := by
  intro d
  induction d with
  | zero =>
    intro i hi f b
    have h : nI c ≤ nI i := cs_le (by omega) (by omega)
    exact ⟨b, fun _ hp => br_t h hp, fun _ hp => br_t h hp⟩
  | succ d ih =>
    intro i hi f b
    have h : ¬ nI c ≤ nI i := cs_ge (by omega) hc
    have hi64 : i < 64 := by omega
    have hy : vp_in (3 * nI i + nI j) 192 := cs_inY hi64 hj
    have ey : A (3 * nI i + nI j).toNatClampNeg = A (3 * i + j) := cs_atY A hi64 hj
    obtain ⟨q, pX, pY⟩ := cs_passes (A := A) (R := R) (L := L) (H := H) hc hT (i := i) (by omega)
    by_cases z : q = 0
    · obtain ⟨r, hX, hY⟩ := ih (i + 1) (by omega) f b
      exact ⟨r, fun post hp => br_f h (pX _ (br_t z (nm_r (nI_1 i) (hX post hp)))), fun post hp => br_f h ⟨hy, nm_r ey (pY _ (br_t z (nm_r (nI_1 i) (hY post hp))))⟩⟩
    · by_cases y : f = 0
      · obtain ⟨r, hX, hY⟩ := ih (i + 1) (by omega) 1 (A (3 * i + j))
        exact ⟨r, fun post hp => br_f h (pX _ (br_f z (cs_cell hi64 hj _ (br_t y (nm_r (nI_1 i) (hX post hp)))))), fun post hp => br_f h ⟨hy, nm_r ey (pY _ (br_f z (br_t y (nm_r (nI_1 i) (hY post hp)))))⟩⟩
      · by_cases w : g = 0
        · by_cases o : b ≤ A (3 * i + j)
          · obtain ⟨r, hX, hY⟩ := ih (i + 1) (by omega) f b
            exact ⟨r, fun post hp => br_f h (pX _ (br_f z (cs_cell hi64 hj _ (br_f y (br_t w (br_t o (nm_r (nI_1 i) (hX post hp)))))))), fun post hp => br_f h ⟨hy, nm_r ey (pY _ (br_f z (br_f y (br_t w (br_t o (nm_r (nI_1 i) (hY post hp)))))))⟩⟩
          · obtain ⟨r, hX, hY⟩ := ih (i + 1) (by omega) 1 (A (3 * i + j))
            exact ⟨r, fun post hp => br_f h (pX _ (br_f z (cs_cell hi64 hj _ (br_f y (br_t w (br_f o (nm_r (nI_1 i) (hX post hp)))))))), fun post hp => br_f h ⟨hy, nm_r ey (pY _ (br_f z (br_f y (br_t w (br_f o (nm_r (nI_1 i) (hY post hp)))))))⟩⟩
        · by_cases o : A (3 * i + j) ≤ b
          · obtain ⟨r, hX, hY⟩ := ih (i + 1) (by omega) f b
            exact ⟨r, fun post hp => br_f h (pX _ (br_f z (cs_cell hi64 hj _ (br_f y (br_f w (br_t o (nm_r (nI_1 i) (hX post hp)))))))), fun post hp => br_f h ⟨hy, nm_r ey (pY _ (br_f z (br_f y (br_f w (br_t o (nm_r (nI_1 i) (hY post hp)))))))⟩⟩
          · obtain ⟨r, hX, hY⟩ := ih (i + 1) (by omega) 1 (A (3 * i + j))
            exact ⟨r, fun post hp => br_f h (pX _ (br_f z (cs_cell hi64 hj _ (br_f y (br_f w (br_f o (nm_r (nI_1 i) (hX post hp)))))))), fun post hp => br_f h ⟨hy, nm_r ey (pY _ (br_f z (br_f y (br_f w (br_f o (nm_r (nI_1 i) (hY post hp)))))))⟩⟩
theorem cs_place {c : Nat} {p : Int32} {A S V R L H : Nat → Int32} (hc : c ≤ 64) (hT : cs_T c S V) : ∀ d i : Nat, i + d = c → ∀ x : Int32, ∃ r : Int32, (∀ post : Int32 → Prop, post r → wX_passing_4 post p (nI c) A S R L H (d + 1) x (nI i)) ∧ (∀ post : Int32 → Prop, post r → wY_passing_4 post p (nI c) A V R L H (d + 1) x (nI i)) := by
  intro d
  induction d with
  | zero =>
    intro i hi x
    have h : nI c ≤ nI i := cs_le (by omega) (by omega)
    exact ⟨-1, fun _ hp => br_t h hp, fun _ hp => br_t h hp⟩
  | succ d ih =>
    intro i hi x
    have h : ¬ nI c ≤ nI i := cs_ge (by omega) hc
    obtain ⟨q, pX, pY⟩ := cs_passes (A := A) (R := R) (L := L) (H := H) hc hT (i := i) (by omega)
    by_cases z : q = 0
    · obtain ⟨r, hX, hY⟩ := ih (i + 1) (by omega) x
      exact ⟨r, fun post hp => br_f h (pX _ (br_t z (nm_r (nI_1 i) (hX post hp)))), fun post hp => br_f h (pY _ (br_t z (nm_r (nI_1 i) (hY post hp))))⟩
    · by_cases y : x = p
      · exact ⟨nI i, fun post hp => br_f h (pX _ (br_f z (br_t y hp))), fun post hp => br_f h (pY _ (br_f z (br_t y hp)))⟩
      · obtain ⟨r, hX, hY⟩ := ih (i + 1) (by omega) (x + 1)
        exact ⟨r, fun post hp => br_f h (pX _ (br_f z (br_f y (nm_e (nm_r (nI_1 i) (hX post hp)))))), fun post hp => br_f h (pY _ (br_f z (br_f y (nm_e (nm_r (nI_1 i) (hY post hp))))))⟩
/-- the first of its value on one side just where it is not seen before on the other -/
theorem cs_first {c i j : Nat} {A S V R L H : Nat → Int32} (hc : c ≤ 64) (hT : cs_T c S V) (hj : j < 3) (hi : i < c) : ∀ d e : Nat, e + d = i → ∃ r s : Int32, (r = 0 ↔ ¬ s = 0) ∧ (∀ post : Int32 → Prop, post r → wX_isFirstOfItsValue_10 post (nI i) (nI j) (A (3 * i + j)) (nI c) A S R L H (d + 1) (nI e)) ∧ (∀ post : Int32 → Prop, post s → wY_seen_2 post (nI i) (nI j) (nI c) A V R L H (d + 1) (nI e)) := by
  intro d
  induction d with
  | zero =>
    intro e he
    have h : nI i ≤ nI e := cs_le (by omega) (by omega)
    exact ⟨1, 0, by decide, fun _ hp => br_t h hp, fun _ hp => br_t h hp⟩
  | succ d ih =>
    intro e he
    have h : ¬ nI i ≤ nI e := cs_ge (by omega) (by omega)
    have hi64 : i < 64 := by omega
    have he64 : e < 64 := by omega
    obtain ⟨q, pX, pY⟩ := cs_passes (A := A) (R := R) (L := L) (H := H) hc hT (i := e) (by omega)
    obtain ⟨r, s, hrs, hX, hY⟩ := ih (e + 1) (by omega)
    by_cases z : q = 0
    · exact ⟨r, s, hrs, fun post hp => br_f h (pX _ (br_t z (nm_r (nI_1 e) (hX post hp)))), fun post hp => br_f h (pY _ (br_t z (nm_r (nI_1 e) (hY post hp))))⟩
    · by_cases y : A (3 * e + j) = A (3 * i + j)
      · have y' : A (3 * nI e + nI j).toNatClampNeg = A (3 * nI i + nI j).toNatClampNeg := by rw [cs_atY A he64 hj, cs_atY A hi64 hj]; exact y
        exact ⟨0, 1, by decide, fun post hp => br_f h (pX _ (br_f z (cs_cell he64 hj _ (br_t y hp)))), fun post hp => br_f h (pY _ (br_f z ⟨cs_inY he64 hj, cs_inY hi64 hj, br_t y' hp⟩))⟩
      · have y' : ¬ A (3 * nI e + nI j).toNatClampNeg = A (3 * nI i + nI j).toNatClampNeg := by rw [cs_atY A he64 hj, cs_atY A hi64 hj]; exact y
        exact ⟨r, s, hrs, fun post hp => br_f h (pX _ (br_f z (cs_cell he64 hj _ (br_f y (nm_r (nI_1 e) (hX post hp)))))), fun post hp => br_f h (pY _ (br_f z ⟨cs_inY he64 hj, cs_inY hi64 hj, br_f y' (nm_r (nI_1 e) (hY post hp))⟩))⟩
theorem cs_seen {c i j : Nat} {A S V R L H : Nat → Int32} (hc : c ≤ 64) (hT : cs_T c S V) (hj : j < 3) (hi : i < c) : ∃ r s : Int32, (r = 0 ↔ ¬ s = 0) ∧ (∀ post : Int32 → Prop, post r → wpX_isFirstOfItsValue post (nI c, A, S, R, L, H) (nI i) (nI j)) ∧ (∀ post : Int32 → Prop, post s → wpY_seen post (nI c, A, V, R, L, H) (nI i) (nI j)) := by
  obtain ⟨r, s, hrs, hX, hY⟩ := cs_first (A := A) (R := R) (L := L) (H := H) hc hT hj hi i 0 (by omega)
  rw [nI_0] at hX hY
  refine ⟨r, s, hrs, fun post hp => ?_, fun post hp => ?_⟩
  · unfold wpX_isFirstOfItsValue
    dsimp only
    exact cs_cell (by omega) hj _ ⟨_, hX post hp⟩
  · exact ⟨_, hY post hp⟩
theorem cs_diff {c j : Nat} {A S V R L H : Nat → Int32} (hc : c ≤ 64) (hT : cs_T c S V) (hj : j < 3) : ∀ d i : Nat, i + d = c → ∀ x : Int32, ∃ r : Int32, (∀ post : Int32 → Prop, post r → wX_different_14 post (nI j) (nI c) A S R L H (d + 1) x (nI i)) ∧ (∀ post : Int32 → Prop, post r → wY_different_13 post (nI j) (nI c) A V R L H (d + 1) x (nI i)) := by
  intro d
  induction d with
  | zero =>
    intro i hi x
    have h : nI c ≤ nI i := cs_le (by omega) (by omega)
    exact ⟨x, fun _ hp => br_t h hp, fun _ hp => br_t h hp⟩
  | succ d ih =>
    intro i hi x
    have h : ¬ nI c ≤ nI i := cs_ge (by omega) hc
    obtain ⟨q, pX, pY⟩ := cs_passes (A := A) (R := R) (L := L) (H := H) hc hT (i := i) (by omega)
    by_cases z : q = 0
    · obtain ⟨r, hX, hY⟩ := ih (i + 1) (by omega) x
      exact ⟨r, fun post hp => br_f h (pX _ (br_t z (nm_r (nI_1 i) (hX post hp)))), fun post hp => br_f h (pY _ (br_t z (nm_r (nI_1 i) (hY post hp))))⟩
    · obtain ⟨a, b, hab, aX, aY⟩ := cs_seen (A := A) (R := R) (L := L) (H := H) hc hT hj (i := i) (by omega)
      by_cases y : a = 0
      · have y' : ¬ b = 0 := hab.mp y
        obtain ⟨r, hX, hY⟩ := ih (i + 1) (by omega) x
        exact ⟨r, fun post hp => br_f h (pX _ (br_f z (aX _ (br_t y (nm_r (nI_1 i) (hX post hp)))))), fun post hp => br_f h (pY _ (br_f z (aY _ (br_f y' (nm_r (nI_1 i) (hY post hp))))))⟩
      · have y' : b = 0 := Classical.byContradiction fun n => y (hab.mpr n)
        obtain ⟨r, hX, hY⟩ := ih (i + 1) (by omega) (x + 1)
        exact ⟨r, fun post hp => br_f h (pX _ (br_f z (aX _ (br_f y (nm_e (nm_r (nI_1 i) (hX post hp))))))), fun post hp => br_f h (pY _ (br_f z (aY _ (br_t y' (nm_e (nm_r (nI_1 i) (hY post hp)))))))⟩
theorem cs_live {c : Nat} {A S V R L H : Nat → Int32} (hc : c ≤ 64) (hT : cs_T c S V) : ∀ d i : Nat, i + d = c → ∀ x : Int32, ∃ r : Int32, (∀ post : Int32 → Prop, post r → wX_live_4 post (nI c) A S R L H (d + 1) x (nI i)) ∧ (∀ post : Int32 → Prop, post r → wY_live_4 post (nI c) A V R L H (d + 1) x (nI i)) := by
  intro d
  induction d with
  | zero =>
    intro i hi x
    have h : nI c ≤ nI i := cs_le (by omega) (by omega)
    exact ⟨x, fun _ hp => br_t h hp, fun _ hp => br_t h hp⟩
  | succ d ih =>
    intro i hi x
    have h : ¬ nI c ≤ nI i := cs_ge (by omega) hc
    have hin : vp_in (nI i) 64 := vp_in_nI (by omega) (by decide)
    have e : (nI i).toNatClampNeg = i := nI_clamp (by omega)
    have t := hT.1 i (by omega)
    rw [← e] at t
    by_cases z : S (nI i).toNatClampNeg = 0
    · have zY : ¬ V (nI i).toNatClampNeg = 0 := t.mp z
      obtain ⟨r, hX, hY⟩ := ih (i + 1) (by omega) (x + 1)
      exact ⟨r, fun post hp => br_f h ⟨hin, br_t z (nm_e (nm_r (nI_1 i) (hX post hp)))⟩, fun post hp => br_f h ⟨hin, br_f zY (nm_e (nm_r (nI_1 i) (hY post hp)))⟩⟩
    · have zY : V (nI i).toNatClampNeg = 0 := Classical.byContradiction fun n => z (t.mpr n)
      obtain ⟨r, hX, hY⟩ := ih (i + 1) (by omega) x
      exact ⟨r, fun post hp => br_f h ⟨hin, br_f z (nm_r (nI_1 i) (hX post hp))⟩, fun post hp => br_f h ⟨hin, br_t zY (nm_r (nI_1 i) (hY post hp))⟩⟩
end
section
theorem i_vc_append {k : Nat} {u : SX} {v : SY} (I : i_Rel k u v) (hk : k + 4 ≤ 2048) (v1 : Int32) (v2 : Int32) (v3 : Int32) : wpX_append (fun r u' => wpY_append (fun r' v' => r' = r ∧ i_Rel (k + 4) u' v') v v1 v2 v3) u v1 v2 v3 := by
  obtain ⟨c, A, S, V, R, L, H, hc, rfl, rfl, hT⟩ := I
  by_cases h : c < 64
  · have hX : nI c < (64 : Int32) := nI_lt (b := 64) h (by decide)
    have hY : ¬ nI c = (64 : Int32) := fun z => absurd ((nI_eq (b := 64) (by omega) (by decide)).mp z) (by omega)
    have eX : nI c * 3 = nI (3 * c) := by rw [cs_3, pk_mul, Nat.mul_comm]
    have eY : 3 * nI c = nI (3 * c) := by rw [cs_3, pk_mul]
    have e1 : nI (3 * c) + 1 = nI (3 * c + 1) := nI_1 _
    have e2 : nI (3 * c) + 2 = nI (3 * c + 2) := nI_add (3 * c) 2
    have i0 : vp_in (nI (3 * c)) 192 := vp_in_nI (by omega) (by decide)
    have i1 : vp_in (nI (3 * c) + 1) 192 := by rw [e1]; exact vp_in_nI (by omega) (by decide)
    have i2 : vp_in (nI (3 * c) + 2) 192 := by rw [e2]; exact vp_in_nI (by omega) (by decide)
    have j0 : vp_in (3 * nI c) 192 := by rw [eY]; exact i0
    have j1 : vp_in (3 * nI c + 1) 192 := by rw [eY]; exact i1
    have j2 : vp_in (3 * nI c + 2) 192 := by rw [eY]; exact i2
    have jc : vp_in (nI c) 64 := vp_in_nI h (by decide)
    refine br_t hX (nm_r eX ⟨i0, fun a ea => ⟨i1, fun a2 ea2 => ⟨i2, fun a3 ea3 => nm_r (nI_1 c) (br_f hY ⟨j0, fun b eb => ⟨j1, fun b2 eb2 => ⟨j2, fun b3 eb3 => ⟨jc, fun w ew => nm_r (nI_1 c) ⟨nI_pred c, ?_⟩⟩⟩⟩⟩)⟩⟩⟩)
    rw [eY] at eb eb2 eb3
    have eab : b3 = a3 := by rw [eb3, eb2, eb, ea3, ea2, ea]
    rw [nI_clamp (by omega), cs_b1] at ew
    subst eab ew
    refine cs_mk (by omega) ⟨fun i hi => ?_, fun i hi => hT.2 i (by omega)⟩
    by_cases y : i = c
    · subst y
      rw [pk_us]
      exact ⟨fun _ => cs_10, fun _ => hT.2 i (Nat.le_refl i)⟩
    · rw [pk_un y]
      exact hT.1 i (by omega)
  · have e : c = 64 := by omega
    subst e
    have hX : ¬ nI 64 < (64 : Int32) := by decide
    have hY : nI 64 = (64 : Int32) := by decide
    exact br_f hX (br_t hY ⟨rfl, cs_mk hc hT⟩)
theorem i_vc_strike {k : Nat} {u : SX} {v : SY} (I : i_Rel k u v) (hk : k + 4 ≤ 2048) (v1 : Int32) : wpX_strike (fun r u' => wpY_strike (fun r' v' => r' = r ∧ i_Rel (k + 4) u' v') v v1) u v1 := by
  obtain ⟨c, A, S, V, R, L, H, hc, rfl, rfl, hT⟩ := I
  unfold wpX_strike wpY_strike
  dsimp only
  rcases pk_ix v1 (n := c) (by omega) with h | h | ⟨j, hj, rfl⟩
  · exact br_t h (br_t rfl (br_t h ⟨rfl, cs_mk hc hT⟩))
  · by_cases h0 : v1 < 0
    · exact br_t h0 (br_t rfl (br_t h0 ⟨rfl, cs_mk hc hT⟩))
    · exact br_f h0 (br_t h (br_t rfl (br_f h0 (br_t h ⟨rfl, cs_mk hc hT⟩))))
  · have h0 : ¬ nI j < 0 := nI_pos (by omega)
    have h1 : ¬ nI c ≤ nI j := cs_ge hj hc
    have hin : vp_in (nI j) 64 := vp_in_nI (by omega) (by decide)
    have e : (nI j).toNatClampNeg = j := nI_clamp (by omega)
    have t := hT.1 j hj
    by_cases z : S j = 0
    · have zX : S (nI j).toNatClampNeg = 0 := by rw [e]; exact z
      have zY : ¬ V (nI j).toNatClampNeg = 0 := by rw [e]; exact t.mp z
      refine br_f h0 (br_f h1 (br_f cs_10 ⟨hin, br_t zX ⟨hin, fun a ea => br_f h0 (br_f h1 ⟨hin, br_f zY ⟨hin, fun b eb => ⟨rfl, ?_⟩⟩⟩)⟩⟩))
      rw [e, cs_b1] at ea
      rw [e, cs_b0] at eb
      subst ea eb
      refine cs_mk hc ⟨fun i hi => ?_, fun i hi => ?_⟩
      · by_cases y : i = j
        · subst y
          rw [pk_us, pk_us]
          decide
        · rw [pk_un y, pk_un y]
          exact hT.1 i hi
      · rw [pk_un (by omega)]
        exact hT.2 i hi
    · have zX : ¬ S (nI j).toNatClampNeg = 0 := by rw [e]; exact z
      have zY : V (nI j).toNatClampNeg = 0 := by rw [e]; exact Classical.byContradiction fun n => z (t.mpr n)
      exact br_f h0 (br_f h1 (br_f cs_10 ⟨hin, br_f zX (br_f h0 (br_f h1 ⟨hin, br_t zY ⟨rfl, cs_mk hc hT⟩⟩))⟩))
theorem i_vc_range {k : Nat} {u : SX} {v : SY} (I : i_Rel k u v) (hk : k + 4 ≤ 2048) (v1 : Int32) (v2 : Int32) (v3 : Int32) : wpX_range (fun r u' => wpY_range (fun r' v' => r' = r ∧ i_Rel (k + 4) u' v') v v1 v2 v3) u v1 v2 v3 := by
  obtain ⟨c, A, S, V, R, L, H, hc, rfl, rfl, hT⟩ := I
  unfold wpX_range wpY_range
  dsimp only
  rcases cs_col v1 with ⟨cX, cY⟩ | ⟨j, hj, rfl, cX, cY⟩
  · exact cX _ _ _ _ _ _ _ (br_t rfl (cY _ (br_f cs_10 ⟨rfl, cs_mk hc hT⟩)))
  · have hin : vp_in (nI j) 3 := vp_in_nI hj (by decide)
    exact cX _ _ _ _ _ _ _ (br_f cs_10 ⟨hin, nm_e ⟨hin, nm_e ⟨hin, nm_e (cY _ (br_t rfl ⟨hin, nm_e ⟨hin, nm_e ⟨hin, nm_e ⟨rfl, cs_mk hc hT⟩⟩⟩⟩))⟩⟩⟩)
/-- no column ranged: what the loop of open leaves of the array -/
def cs_op (R : Nat → Int32) : Nat → Int32 := upd (upd (upd R (0 : Int32).toNatClampNeg (vp_nar .boolean 0)) ((0 : Int32) + 1).toNatClampNeg (vp_nar .boolean 0)) ((0 : Int32) + 1 + 1).toNatClampNeg (vp_nar .boolean 0)
theorem cs_o0 : vp_in (0 : Int32) 3 := vp_in_iff.mpr (by decide)
theorem cs_o1 : vp_in ((0 : Int32) + 1) 3 := vp_in_iff.mpr (by decide)
theorem cs_o2 : vp_in ((0 : Int32) + 1 + 1) 3 := vp_in_iff.mpr (by decide)
theorem cs_n0 : ¬ (3 : Int32) ≤ 0 := by decide
theorem cs_n1 : ¬ (3 : Int32) ≤ 0 + 1 := by decide
theorem cs_n2 : ¬ (3 : Int32) ≤ 0 + 1 + 1 := by decide
theorem cs_n3 : (3 : Int32) ≤ 0 + 1 + 1 + 1 := by decide
theorem cs_opX {f : Int32} {A S R L H : Nat → Int32} (post : SX → Prop) (hp : post (f, A, S, cs_op R, L, H)) : wX_open_2 post f 4 0 A S R L H :=
  br_f cs_n0 ⟨cs_o0, nm_e (nm_e (br_f cs_n1 ⟨cs_o1, nm_e (nm_e (br_f cs_n2 ⟨cs_o2, nm_e (nm_e (br_t cs_n3 hp))⟩))⟩))⟩
theorem cs_opY {f : Int32} {A S R L H : Nat → Int32} (post : SY → Prop) (hp : post (f, A, S, cs_op R, L, H)) : wY_open_2 post f 4 0 A S R L H :=
  br_f cs_n0 ⟨cs_o0, nm_e (nm_e (br_f cs_n1 ⟨cs_o1, nm_e (nm_e (br_f cs_n2 ⟨cs_o2, nm_e (nm_e (br_t cs_n3 hp))⟩))⟩))⟩
theorem i_vc_open {k : Nat} {u : SX} {v : SY} (I : i_Rel k u v) (hk : k + 4 ≤ 2048) : wpX_open (fun u' => wpY_open (fun v' => i_Rel (k + 4) u' v') v) u := by
  obtain ⟨c, A, S, V, R, L, H, hc, rfl, rfl, hT⟩ := I
  exact ⟨4, cs_opX _ ⟨4, cs_opY _ (cs_mk hc hT)⟩⟩
theorem i_vc_count {k : Nat} {u : SX} {v : SY} (I : i_Rel k u v) (hk : k + 4 ≤ 2048) : wpX_count (fun r => wpY_count (fun r' => r' = r ∧ i_Rel (k + 4) u v) v) u := by
  obtain ⟨c, A, S, V, R, L, H, hc, rfl, rfl, hT⟩ := I
  obtain ⟨r, hX, hY⟩ := cs_count (A := A) (R := R) (L := L) (H := H) hc hT c 0 (by omega) 0
  rw [nI_0] at hX hY
  exact ⟨_, hX _ ⟨_, hY _ ⟨rfl, cs_mk hc hT⟩⟩⟩
theorem i_vc_sum {k : Nat} {u : SX} {v : SY} (I : i_Rel k u v) (hk : k + 4 ≤ 2048) (v1 : Int32) : wpX_sum (fun r => wpY_sum (fun r' => r' = r ∧ i_Rel (k + 4) u v) v v1) u v1 := by
  obtain ⟨c, A, S, V, R, L, H, hc, rfl, rfl, hT⟩ := I
  unfold wpX_sum wpY_sum
  dsimp only
  rcases cs_col v1 with ⟨cX, cY⟩ | ⟨j, hj, rfl, cX, cY⟩
  · exact cX _ _ _ _ _ _ _ (br_t rfl (cY _ (br_f cs_10 ⟨rfl, cs_mk hc hT⟩)))
  · obtain ⟨r, hX, hY⟩ := cs_sum (A := A) (R := R) (L := L) (H := H) hc hT hj c 0 (by omega) 0
    rw [nI_0] at hX hY
    exact cX _ _ _ _ _ _ _ (br_f cs_10 ⟨_, hX _ (cY _ (br_t rfl ⟨_, hY _ ⟨rfl, cs_mk hc hT⟩⟩))⟩)
theorem i_vc_extreme {k : Nat} {u : SX} {v : SY} (I : i_Rel k u v) (hk : k + 4 ≤ 2048) (v1 : Int32) (v2 : Int32) : wpX_extreme (fun r => wpY_extreme (fun r' => r' = r ∧ i_Rel (k + 4) u v) v v1 (lw_bz v2)) u v1 (lw_bz v2) := by
  obtain ⟨c, A, S, V, R, L, H, hc, rfl, rfl, hT⟩ := I
  unfold wpX_extreme wpY_extreme
  dsimp only
  rcases cs_col v1 with ⟨cX, cY⟩ | ⟨j, hj, rfl, cX, cY⟩
  · exact cX _ _ _ _ _ _ _ (br_t rfl (cY _ (br_f cs_10 ⟨rfl, cs_mk hc hT⟩)))
  · obtain ⟨r, hX, hY⟩ := cs_ext (g := lw_bz v2) (A := A) (R := R) (L := L) (H := H) hc hT hj c 0 (by omega) 0 0
    rw [nI_0] at hX hY
    exact cX _ _ _ _ _ _ _ (br_f cs_10 ⟨_, hX _ (cY _ (br_t rfl ⟨_, hY _ ⟨rfl, cs_mk hc hT⟩⟩))⟩)
theorem i_vc_passing {k : Nat} {u : SX} {v : SY} (I : i_Rel k u v) (hk : k + 4 ≤ 2048) (v1 : Int32) : wpX_passing (fun r => wpY_passing (fun r' => r' = r ∧ i_Rel (k + 4) u v) v v1) u v1 := by
  obtain ⟨c, A, S, V, R, L, H, hc, rfl, rfl, hT⟩ := I
  obtain ⟨r, hX, hY⟩ := cs_place (p := v1) (A := A) (R := R) (L := L) (H := H) hc hT c 0 (by omega) 0
  rw [nI_0] at hX hY
  exact ⟨_, hX _ ⟨_, hY _ ⟨rfl, cs_mk hc hT⟩⟩⟩
theorem i_vc_value {k : Nat} {u : SX} {v : SY} (I : i_Rel k u v) (hk : k + 4 ≤ 2048) (v1 : Int32) (v2 : Int32) : wpX_value (fun r => wpY_value (fun r' => r' = r ∧ i_Rel (k + 4) u v) v v1 v2) u v1 v2 := by
  obtain ⟨c, A, S, V, R, L, H, hc, rfl, rfl, hT⟩ := I
  unfold wpX_value wpY_value
  dsimp only
  rcases pk_ix v1 (n := c) (by omega) with h | h | ⟨i, hi, rfl⟩
  · exact br_t h (br_t rfl (br_t h ⟨rfl, cs_mk hc hT⟩))
  · by_cases h0 : v1 < 0
    · exact br_t h0 (br_t rfl (br_t h0 ⟨rfl, cs_mk hc hT⟩))
    · exact br_f h0 (br_t h (br_t rfl (br_f h0 (br_t h ⟨rfl, cs_mk hc hT⟩))))
  · have h0 : ¬ nI i < 0 := nI_pos (by omega)
    have h1 : ¬ nI c ≤ nI i := cs_ge hi hc
    rcases cs_col v2 with ⟨cX, cY⟩ | ⟨j, hj, rfl, cX, cY⟩
    · exact br_f h0 (br_f h1 (br_f cs_10 (cX _ _ _ _ _ _ _ (br_t rfl (br_f h0 (br_f h1 (cY _ (br_f cs_10 ⟨rfl, cs_mk hc hT⟩))))))))
    · have hi64 : i < 64 := by omega
      exact br_f h0 (br_f h1 (br_f cs_10 (cX _ _ _ _ _ _ _ (br_f cs_10 (cs_cell hi64 hj _ (br_f h0 (br_f h1 (cY _ (br_t rfl ⟨cs_inY hi64 hj, cs_atY A hi64 hj, cs_mk hc hT⟩)))))))))
theorem i_vc_different {k : Nat} {u : SX} {v : SY} (I : i_Rel k u v) (hk : k + 4 ≤ 2048) (v1 : Int32) : wpX_different (fun r => wpY_different (fun r' => r' = r ∧ i_Rel (k + 4) u v) v v1) u v1 := by
  obtain ⟨c, A, S, V, R, L, H, hc, rfl, rfl, hT⟩ := I
  unfold wpX_different wpY_different
  dsimp only
  rcases cs_col v1 with ⟨cX, cY⟩ | ⟨j, hj, rfl, cX, cY⟩
  · exact cX _ _ _ _ _ _ _ (br_t rfl (cY _ (br_f cs_10 ⟨rfl, cs_mk hc hT⟩)))
  · obtain ⟨r, hX, hY⟩ := cs_diff (A := A) (R := R) (L := L) (H := H) hc hT hj c 0 (by omega) 0
    rw [nI_0] at hX hY
    exact cX _ _ _ _ _ _ _ (br_f cs_10 ⟨_, hX _ (cY _ (br_t rfl ⟨_, hY _ ⟨rfl, cs_mk hc hT⟩⟩))⟩)
theorem i_vc_live {k : Nat} {u : SX} {v : SY} (I : i_Rel k u v) (hk : k + 4 ≤ 2048) : wpX_live (fun r => wpY_live (fun r' => r' = r ∧ i_Rel (k + 4) u v) v) u := by
  obtain ⟨c, A, S, V, R, L, H, hc, rfl, rfl, hT⟩ := I
  obtain ⟨r, hX, hY⟩ := cs_live (A := A) (R := R) (L := L) (H := H) hc hT c 0 (by omega) 0
  rw [nI_0] at hX hY
  exact ⟨_, hX _ ⟨_, hY _ ⟨rfl, cs_mk hc hT⟩⟩⟩
end
