section
/-- rows of kit/rows, pasted: pk_us, pk_un, pk_mul, pk_ix -/
theorem pk_us {f : Nat → Int32} {k : Nat} {x : Int32} : upd f k x k = x := if_pos rfl
theorem pk_un {f : Nat → Int32} {k j : Nat} {x : Int32} (h : j ≠ k) : upd f k x j = f j := if_neg h
theorem pk_mul (a b : Nat) : nI a * nI b = nI (a * b) := (Int32.ofNat_mul a b).symm
theorem pk_ix (x : Int32) {n : Nat} (hn : n < 2 ^ 31) : x < 0 ∨ nI n ≤ x ∨ ∃ j : Nat, j < n ∧ x = nI j := by
  by_cases h : x < 0
  · exact Or.inl h
  · obtain ⟨j, hj, rfl⟩ := nI_of h
    by_cases h2 : j < n
    · exact Or.inr (Or.inr ⟨j, h2, rfl⟩)
    · exact Or.inr (Or.inl (nI_le (by omega) hj))
theorem cs_b0 : vp_nar .boolean 0 = 0 := by decide
theorem cs_b1 : vp_nar .boolean 1 = 1 := by decide
theorem cs_10 : ¬ (1 : Int32) = 0 := by decide
theorem cs_3 : (3 : Int32) = nI 3 := by decide
theorem cs_64 : (64 : Int32) = nI 64 := by decide
/-- of the rows below c: struck just where not alive; from c on nothing is struck -/
def cs_T (c : Nat) (S V : Nat → Int32) : Prop := (∀ i, i < c → (S i = 0 ↔ ¬ V i = 0)) ∧ (∀ i, c ≤ i → S i = 0)
/-- the two hold the same rows, ranges and number of rows; what is struck in one is not alive in the other -/
def i_Rel (k : Nat) (u : SX) (v : SY) : Prop := ∃ (c : Nat) (A S V R L H : Nat → Int32), c ≤ 64 ∧ u = (nI c, A, S, R, L, H) ∧ v = (nI c, A, V, R, L, H) ∧ cs_T c S V
theorem i_up {k : Nat} {u : SX} {v : SY} (h : i_Rel k u v) : i_Rel (k + 4) u v := h
theorem cs_mk {k c : Nat} {A S V R L H : Nat → Int32} (hc : c ≤ 64) (hT : cs_T c S V) : i_Rel k (nI c, A, S, R, L, H) (nI c, A, V, R, L, H) := ⟨c, A, S, V, R, L, H, hc, rfl, rfl, hT⟩
theorem i_vc0 : wpX_init (fun u => wpY_init (fun v => i_Rel 0 u v)) :=
  cs_mk (k := 0) (c := 0) (by decide) ⟨fun i hi => absurd hi (by omega), fun i _ => rfl⟩
theorem cs_ixX (i j : Nat) : nI i * 3 + nI j = nI (3 * i + j) := by
  rw [cs_3, pk_mul, nI_add, Nat.mul_comm]
theorem cs_ixY (i j : Nat) : 3 * nI i + nI j = nI (3 * i + j) := by
  rw [cs_3, pk_mul, nI_add]
theorem cs_inY {i j : Nat} (hi : i < 64) (hj : j < 3) : vp_in (3 * nI i + nI j) 192 := by
  rw [cs_ixY]; exact vp_in_nI (by omega) (by decide)
theorem cs_atY (A : Nat → Int32) {i j : Nat} (hi : i < 64) (hj : j < 3) : A (3 * nI i + nI j).toNatClampNeg = A (3 * i + j) := by
  rw [cs_ixY, nI_clamp (by omega)]
theorem cs_cell {c i j : Nat} {A S R L H : Nat → Int32} (hi : i < 64) (hj : j < 3) (post : Int32 → Prop) (hp : post (A (3 * i + j))) : wpX_cell post (nI c, A, S, R, L, H) (nI i) (nI j) := by
  unfold wpX_cell
  dsimp only
  rw [cs_ixX, nI_clamp (by omega)]
  exact ⟨vp_in_nI (by omega) (by decide), hp⟩
/-- a column that is none, or one of the three: what each side's own question answers -/
theorem cs_col (v : Int32) : ((∀ (post : Int32 → Prop) (c : Int32) (A S R L H : Nat → Int32), post 0 → wpX_isColumn post (c, A, S, R, L, H) v) ∧ (∀ post : Int32 → Prop, post 1 → wpY_bad post v)) ∨ (∃ j : Nat, j < 3 ∧ v = nI j ∧ (∀ (post : Int32 → Prop) (c : Int32) (A S R L H : Nat → Int32), post 1 → wpX_isColumn post (c, A, S, R, L, H) v) ∧ (∀ post : Int32 → Prop, post 0 → wpY_bad post v)) := by
  rcases pk_ix v (n := 3) (by decide) with h | h | ⟨j, hj, rfl⟩
  · exact Or.inl ⟨fun post c A S R L H hp => br_t h hp, fun post hp => br_t h hp⟩
  · by_cases h0 : v < 0
    · exact Or.inl ⟨fun post c A S R L H hp => br_t h0 hp, fun post hp => br_t h0 hp⟩
    · obtain ⟨j, hj, rfl⟩ := nI_of h0
      have h3 : 3 ≤ j := (nI_leI (by decide) hj).mp h
      have h2 : ¬ nI j ≤ 2 := nI_ge (a := 2) (by omega) hj
      exact Or.inl ⟨fun post c A S R L H hp => br_f h0 (br_t h hp), fun post hp => br_f h0 (br_f h2 hp)⟩
  · have h0 : ¬ nI j < 0 := nI_pos (by omega)
    have h3 : ¬ (3 : Int32) ≤ nI j := nI_ge (b := 3) hj (by decide)
    have h2 : nI j ≤ 2 := nI_le (b := 2) (by omega) (by decide)
    exact Or.inr ⟨j, hj, rfl, fun post c A S R L H hp => br_f h0 (br_f h3 hp), fun post hp => br_f h0 (br_t h2 hp)⟩
end
section
theorem cs_win0 {c i j : Nat} {A S R L H : Nat → Int32} (hi : i < 64) (hj : j < 3) (h : A (3 * i + j) < L j ∨ H j < A (3 * i + j)) (post : Int32 → Prop) (hp : post 0) : wpX_isWithinRange post (nI c, A, S, R, L, H) (nI i) (nI j) := by
  have hin : vp_in (nI j) 3 := vp_in_nI hj (by decide)
  unfold wpX_isWithinRange
  dsimp only
  refine cs_cell hi hj _ ?_
  rw [nI_clamp (by omega)]
  by_cases h1 : A (3 * i + j) < L j
  · exact ⟨hin, br_t h1 hp⟩
  · rcases h with h | h
    · exact absurd h h1
    · exact ⟨hin, br_f h1 ⟨hin, br_t h hp⟩⟩
theorem cs_win1 {c i j : Nat} {A S R L H : Nat → Int32} (hi : i < 64) (hj : j < 3) (h1 : ¬ A (3 * i + j) < L j) (h2 : ¬ H j < A (3 * i + j)) (post : Int32 → Prop) (hp : post 1) : wpX_isWithinRange post (nI c, A, S, R, L, H) (nI i) (nI j) := by
  have hin : vp_in (nI j) 3 := vp_in_nI hj (by decide)
  unfold wpX_isWithinRange
  dsimp only
  refine cs_cell hi hj _ ?_
  rw [nI_clamp (by omega)]
  exact ⟨hin, br_f h1 ⟨hin, br_f h2 hp⟩⟩
theorem cs_pass {c i : Nat} {A S V R L H : Nat → Int32} (hi : i < 64) : ∀ d j : Nat, j + d = 3 → ∃ r : Int32, (∀ post : Int32 → Prop, post r → wX_passes_13 post (nI i) (nI c) A S R L H (d + 1) (nI j)) ∧ (∀ post : Int32 → Prop, post r → wY_passes_13 post (nI i) (nI c) A V R L H (d + 1) (nI j)) := by
  intro d
  induction d with
  | zero =>
    intro j hj
    have h : (3 : Int32) ≤ nI j := nI_le (a := 3) (by omega) (by omega)
    exact ⟨1, fun _ hp => br_t h hp, fun _ hp => br_t h hp⟩
  | succ d ih =>
    intro j hj
    have hj3 : j < 3 := by omega
    have h : ¬ (3 : Int32) ≤ nI j := nI_ge (b := 3) hj3 (by decide)
    have hin : vp_in (nI j) 3 := vp_in_nI hj3 (by decide)
    have e : (nI j).toNatClampNeg = j := nI_clamp (by omega)
    have hy : vp_in (3 * nI i + nI j) 192 := cs_inY hi hj3
    have ey : A (3 * nI i + nI j).toNatClampNeg = A (3 * i + j) := cs_atY A hi hj3
    obtain ⟨r, hX, hY⟩ := ih (j + 1) (by omega)
    by_cases z : R (nI j).toNatClampNeg = 0
    · exact ⟨r, fun post hp => br_f h ⟨hin, br_t z (nm_r (nI_1 j) (hX post hp))⟩, fun post hp => br_f h ⟨hy, nm_r ey ⟨hin, br_t z (nm_r (nI_1 j) (hY post hp))⟩⟩⟩
    · by_cases h1 : A (3 * i + j) < L j
      · have h1' : A (3 * i + j) < L (nI j).toNatClampNeg := by rw [e]; exact h1
        exact ⟨0, fun post hp => br_f h ⟨hin, br_f z (cs_win0 hi hj3 (Or.inl h1) _ (br_t rfl hp))⟩, fun post hp => br_f h ⟨hy, nm_r ey ⟨hin, br_f z ⟨hin, br_t h1' hp⟩⟩⟩⟩
      · have h1' : ¬ A (3 * i + j) < L (nI j).toNatClampNeg := by rw [e]; exact h1
        by_cases h2 : H j < A (3 * i + j)
        · have h2' : ¬ A (3 * i + j) ≤ H (nI j).toNatClampNeg := by rw [e]; exact Int32.not_le.mpr h2
          exact ⟨0, fun post hp => br_f h ⟨hin, br_f z (cs_win0 hi hj3 (Or.inr h2) _ (br_t rfl hp))⟩, fun post hp => br_f h ⟨hy, nm_r ey ⟨hin, br_f z ⟨hin, br_f h1' ⟨hin, br_f h2' hp⟩⟩⟩⟩⟩
        · have h2' : A (3 * i + j) ≤ H (nI j).toNatClampNeg := by rw [e]; exact Int32.not_lt.mp h2
          exact ⟨r, fun post hp => br_f h ⟨hin, br_f z (cs_win1 hi hj3 h1 h2 _ (br_f cs_10 (nm_r (nI_1 j) (hX post hp))))⟩, fun post hp => br_f h ⟨hy, nm_r ey ⟨hin, br_f z ⟨hin, br_f h1' ⟨hin, br_t h2' (nm_r (nI_1 j) (hY post hp))⟩⟩⟩⟩⟩
/-- a row passes on both sides, or on neither -/
theorem cs_passes {c i : Nat} {A S V R L H : Nat → Int32} (hc : c ≤ 64) (hT : cs_T c S V) (hi : i < c) : ∃ r : Int32, (∀ post : Int32 → Prop, post r → wpX_passes post (nI c, A, S, R, L, H) (nI i)) ∧ (∀ post : Int32 → Prop, post r → wpY_passes post (nI c, A, V, R, L, H) (nI i)) := by
  have hin : vp_in (nI i) 64 := vp_in_nI (by omega) (by decide)
  have e : (nI i).toNatClampNeg = i := nI_clamp (by omega)
  by_cases z : S i = 0
  · have zX : S (nI i).toNatClampNeg = 0 := by rw [e]; exact z
    have zY : ¬ V (nI i).toNatClampNeg = 0 := by rw [e]; exact (hT.1 i hi).mp z
    obtain ⟨r, hX, hY⟩ := cs_pass (c := c) (i := i) (A := A) (S := S) (V := V) (R := R) (L := L) (H := H) (by omega) 3 0 rfl
    rw [nI_0] at hX hY
    exact ⟨r, fun post hp => ⟨hin, br_t zX ⟨_, hX post hp⟩⟩, fun post hp => ⟨hin, br_f zY ⟨_, hY post hp⟩⟩⟩
  · have zX : ¬ S (nI i).toNatClampNeg = 0 := by rw [e]; exact z
    have zY : V (nI i).toNatClampNeg = 0 := by
      rw [e]
      by_cases y : V i = 0
      · exact y
      · exact absurd ((hT.1 i hi).mpr y) z
    exact ⟨0, fun post hp => ⟨hin, br_f zX hp⟩, fun post hp => ⟨hin, br_t zY hp⟩⟩
end
section
theorem cs_le {a c : Nat} (h : c ≤ a) (ha : a ≤ 64) : nI c ≤ nI a := nI_le h (by omega)
theorem cs_ge {a c : Nat} (h : a < c) (hc : c ≤ 64) : ¬ nI c ≤ nI a := nI_ge h (by omega)
theorem cs_count {c : Nat} {A S V R L H : Nat → Int32} (hc : c ≤ 64) (hT : cs_T c S V) : ∀ d i : Nat, i + d = c → ∀ x : Int32, ∃ r : Int32, (∀ post : Int32 → Prop, post r → wX_count_4 post (nI c) A S R L H (d + 1) x (nI i)) ∧ (∀ post : Int32 → Prop, post r → wY_count_4 post (nI c) A V R L H (d + 1) x (nI i)) := by
  intro d
  induction d with
  | zero =>
    intro i hi x
    have h : nI c ≤ nI i := cs_le (by omega) (by omega)
    exact ⟨x, fun _ hp => br_t h hp, fun _ hp => br_t h hp⟩
  | succ d ih =>
    intro i hi x
    have h : ¬ nI c ≤ nI i := cs_ge (by omega) hc
    obtain ⟨q, pX, pY⟩ := cs_passes (A := A) (R := R) (L := L) (H := H) hc hT (i := i) (by omega)
    by_cases z : q = 0
    · obtain ⟨r, hX, hY⟩ := ih (i + 1) (by omega) x
      exact ⟨r, fun post hp => br_f h (pX _ (br_t z (nm_r (nI_1 i) (hX post hp)))), fun post hp => br_f h (pY _ (br_t z (nm_r (nI_1 i) (hY post hp))))⟩
    · obtain ⟨r, hX, hY⟩ := ih (i + 1) (by omega) (x + 1)
      exact ⟨r, fun post hp => br_f h (pX _ (br_f z (nm_e (nm_r (nI_1 i) (hX post hp))))), fun post hp => br_f h (pY _ (br_f z (nm_e (nm_r (nI_1 i) (hY post hp)))))⟩
theorem cs_sum {c j : Nat} {A S V R L H : Nat → Int32} (hc : c ≤ 64) (hT : cs_T c S V) (hj : j < 3) : ∀ d i : Nat, i + d = c → ∀ x : Int64, ∃ r : Int64, (∀ post : Int64 → Prop, post r → wX_sum_15 post (nI j) (nI c) A S R L H (d + 1) x (nI i)) ∧ (∀ post : Int64 → Prop, post r → wY_sum_14 post (nI j) (nI c) A V R L H (d + 1) x (nI i)) := by
  intro d
  induction d with
  | zero =>
    intro i hi x
    have h : nI c ≤ nI i := cs_le (by omega) (by omega)
    exact ⟨x, fun _ hp => br_t h hp, fun _ hp => br_t h hp⟩
  | succ d ih =>
    intro i hi x
    have h : ¬ nI c ≤ nI i := cs_ge (by omega) hc
    have hi64 : i < 64 := by omega
    obtain ⟨q, pX, pY⟩ := cs_passes (A := A) (R := R) (L := L) (H := H) hc hT (i := i) (by omega)
    by_cases z : q = 0
    · obtain ⟨r, hX, hY⟩ := ih (i + 1) (by omega) x
      exact ⟨r, fun post hp => br_f h (pX _ (br_t z (nm_r (nI_1 i) (hX post hp)))), fun post hp => br_f h (pY _ (br_t z (nm_r (nI_1 i) (hY post hp))))⟩
    · obtain ⟨r, hX, hY⟩ := ih (i + 1) (by omega) (x + (A (3 * i + j)).toInt64)
      have ey : x + (A (3 * nI i + nI j).toNatClampNeg).toInt64 = x + (A (3 * i + j)).toInt64 := by rw [cs_atY A hi64 hj]
      exact ⟨r, fun post hp => br_f h (pX _ (br_f z (cs_cell hi64 hj _ (nm_e (nm_r (nI_1 i) (hX post hp)))))), fun post hp => br_f h (pY _ (br_f z ⟨cs_inY hi64 hj, nm_r ey (nm_r (nI_1 i) (hY post hp))⟩))⟩
theorem cs_ext {c j : Nat} {g : Int32} {A S V R L H : Nat → Int32} (hc : c ≤ 64) (hT : cs_T c S V) (hj : j < 3) : ∀ d i : Nat, i + d = c → ∀ f b : Int32, ∃ r : Int32, (∀ post : Int32 → Prop, post r → wX_extreme_18 post (nI j) g (nI c) A S R L H (d + 1) f b (nI i)) ∧ (∀ post : Int32 → Prop, post r → wY_extreme_17 post (nI j) g (nI c) A V R L H (d + 1) f b (nI i)) := by
  intro d
  induction d with
  | zero =>
    intro i hi f b
    have h : nI c ≤ nI i := cs_le (by omega) (by omega)
    exact ⟨b, fun _ hp => br_t h hp, fun _ hp => br_t h hp⟩
  | succ d ih =>
    intro i hi f b
    have h : ¬ nI c ≤ nI i := cs_ge (by omega) hc
    have hi64 : i < 64 := by omega
    have hy : vp_in (3 * nI i + nI j) 192 := cs_inY hi64 hj
    have ey : A (3 * nI i + nI j).toNatClampNeg = A (3 * i + j) := cs_atY A hi64 hj
    obtain ⟨q, pX, pY⟩ := cs_passes (A := A) (R := R) (L := L) (H := H) hc hT (i := i) (by omega)
    by_cases z : q = 0
    · obtain ⟨r, hX, hY⟩ := ih (i + 1) (by omega) f b
      exact ⟨r, fun post hp => br_f h (pX _ (br_t z (nm_r (nI_1 i) (hX post hp)))), fun post hp => br_f h ⟨hy, nm_r ey (pY _ (br_t z (nm_r (nI_1 i) (hY post hp))))⟩⟩
    · by_cases y : f = 0
      · obtain ⟨r, hX, hY⟩ := ih (i + 1) (by omega) 1 (A (3 * i + j))
        exact ⟨r, fun post hp => br_f h (pX _ (br_f z (cs_cell hi64 hj _ (br_t y (nm_r (nI_1 i) (hX post hp)))))), fun post hp => br_f h ⟨hy, nm_r ey (pY _ (br_f z (br_t y (nm_r (nI_1 i) (hY post hp)))))⟩⟩
      · by_cases w : g = 0
        · by_cases o : b ≤ A (3 * i + j)
          · obtain ⟨r, hX, hY⟩ := ih (i + 1) (by omega) f b
            exact ⟨r, fun post hp => br_f h (pX _ (br_f z (cs_cell hi64 hj _ (br_f y (br_t w (br_t o (nm_r (nI_1 i) (hX post hp)))))))), fun post hp => br_f h ⟨hy, nm_r ey (pY _ (br_f z (br_f y (br_t w (br_t o (nm_r (nI_1 i) (hY post hp)))))))⟩⟩
          · obtain ⟨r, hX, hY⟩ := ih (i + 1) (by omega) 1 (A (3 * i + j))
            exact ⟨r, fun post hp => br_f h (pX _ (br_f z (cs_cell hi64 hj _ (br_f y (br_t w (br_f o (nm_r (nI_1 i) (hX post hp)))))))), fun post hp => br_f h ⟨hy, nm_r ey (pY _ (br_f z (br_f y (br_t w (br_f o (nm_r (nI_1 i) (hY post hp)))))))⟩⟩
        · by_cases o : A (3 * i + j) ≤ b
          · obtain ⟨r, hX, hY⟩ := ih (i + 1) (by omega) f b
            exact ⟨r, fun post hp => br_f h (pX _ (br_f z (cs_cell hi64 hj _ (br_f y (br_f w (br_t o (nm_r (nI_1 i) (hX post hp)))))))), fun post hp => br_f h ⟨hy, nm_r ey (pY _ (br_f z (br_f y (br_f w (br_t o (nm_r (nI_1 i) (hY post hp)))))))⟩⟩
          · obtain ⟨r, hX, hY⟩ := ih (i + 1) (by omega) 1 (A (3 * i + j))
            exact ⟨r, fun post hp => br_f h (pX _ (br_f z (cs_cell hi64 hj _ (br_f y (br_f w (br_f o (nm_r (nI_1 i) (hX post hp)))))))), fun post hp => br_f h ⟨hy, nm_r ey (pY _ (br_f z (br_f y (br_f w (br_f o (nm_r (nI_1 i) (hY post hp)))))))⟩⟩
theorem cs_place {c : Nat} {p : Int32} {A S V R L H : Nat → Int32} (hc : c ≤ 64) (hT : cs_T c S V) : ∀ d i : Nat, i + d = c → ∀ x : Int32, ∃ r : Int32, (∀ post : Int32 → Prop, post r → wX_passing_4 post p (nI c) A S R L H (d + 1) x (nI i)) ∧ (∀ post : Int32 → Prop, post r → wY_passing_4 post p (nI c) A V R L H (d + 1) x (nI i)) := by
  intro d
  induction d with
  | zero =>
    intro i hi x
    have h : nI c ≤ nI i := cs_le (by omega) (by omega)
    exact ⟨-1, fun _ hp => br_t h hp, fun _ hp => br_t h hp⟩
  | succ d ih =>
    intro i hi x
    have h : ¬ nI c ≤ nI i := cs_ge (by omega) hc
    obtain ⟨q, pX, pY⟩ := cs_passes (A := A) (R := R) (L := L) (H := H) hc hT (i := i) (by omega)
    by_cases z : q = 0
    · obtain ⟨r, hX, hY⟩ := ih (i + 1) (by omega) x
      exact ⟨r, fun post hp => br_f h (pX _ (br_t z (nm_r (nI_1 i) (hX post hp)))), fun post hp => br_f h (pY _ (br_t z (nm_r (nI_1 i) (hY post hp))))⟩
    · by_cases y : x = p
      · exact ⟨nI i, fun post hp => br_f h (pX _ (br_f z (br_t y hp))), fun post hp => br_f h (pY _ (br_f z (br_t y hp)))⟩
      · obtain ⟨r, hX, hY⟩ := ih (i + 1) (by omega) (x + 1)
        exact ⟨r, fun post hp => br_f h (pX _ (br_f z (br_f y (nm_e (nm_r (nI_1 i) (hX post hp)))))), fun post hp => br_f h (pY _ (br_f z (br_f y (nm_e (nm_r (nI_1 i) (hY post hp))))))⟩
/-- the first of its value on one side just where it is not seen before on the other -/
theorem cs_first {c i j : Nat} {A S V R L H : Nat → Int32} (hc : c ≤ 64) (hT : cs_T c S V) (hj : j < 3) (hi : i < c) : ∀ d e : Nat, e + d = i → ∃ r s : Int32, (r = 0 ↔ ¬ s = 0) ∧ (∀ post : Int32 → Prop, post r → wX_isFirstOfItsValue_10 post (nI i) (nI j) (A (3 * i + j)) (nI c) A S R L H (d + 1) (nI e)) ∧ (∀ post : Int32 → Prop, post s → wY_seen_2 post (nI i) (nI j) (nI c) A V R L H (d + 1) (nI e)) := by
  intro d
  induction d with
  | zero =>
    intro e he
    have h : nI i ≤ nI e := cs_le (by omega) (by omega)
    exact ⟨1, 0, by decide, fun _ hp => br_t h hp, fun _ hp => br_t h hp⟩
  | succ d ih =>
    intro e he
    have h : ¬ nI i ≤ nI e := cs_ge (by omega) (by omega)
    have hi64 : i < 64 := by omega
    have he64 : e < 64 := by omega
    obtain ⟨q, pX, pY⟩ := cs_passes (A := A) (R := R) (L := L) (H := H) hc hT (i := e) (by omega)
    obtain ⟨r, s, hrs, hX, hY⟩ := ih (e + 1) (by omega)
    by_cases z : q = 0
    · exact ⟨r, s, hrs, fun post hp => br_f h (pX _ (br_t z (nm_r (nI_1 e) (hX post hp)))), fun post hp => br_f h (pY _ (br_t z (nm_r (nI_1 e) (hY post hp))))⟩
    · by_cases y : A (3 * e + j) = A (3 * i + j)
      · have y' : A (3 * nI e + nI j).toNatClampNeg = A (3 * nI i + nI j).toNatClampNeg := by rw [cs_atY A he64 hj, cs_atY A hi64 hj]; exact y
        exact ⟨0, 1, by decide, fun post hp => br_f h (pX _ (br_f z (cs_cell he64 hj _ (br_t y hp)))), fun post hp => br_f h (pY _ (br_f z ⟨cs_inY he64 hj, cs_inY hi64 hj, br_t y' hp⟩))⟩
      · have y' : ¬ A (3 * nI e + nI j).toNatClampNeg = A (3 * nI i + nI j).toNatClampNeg := by rw [cs_atY A he64 hj, cs_atY A hi64 hj]; exact y
        exact ⟨r, s, hrs, fun post hp => br_f h (pX _ (br_f z (cs_cell he64 hj _ (br_f y (nm_r (nI_1 e) (hX post hp)))))), fun post hp => br_f h (pY _ (br_f z ⟨cs_inY he64 hj, cs_inY hi64 hj, br_f y' (nm_r (nI_1 e) (hY post hp))⟩))⟩
theorem cs_seen {c i j : Nat} {A S V R L H : Nat → Int32} (hc : c ≤ 64) (hT : cs_T c S V) (hj : j < 3) (hi : i < c) : ∃ r s : Int32, (r = 0 ↔ ¬ s = 0) ∧ (∀ post : Int32 → Prop, post r → wpX_isFirstOfItsValue post (nI c, A, S, R, L, H) (nI i) (nI j)) ∧ (∀ post : Int32 → Prop, post s → wpY_seen post (nI c, A, V, R, L, H) (nI i) (nI j)) := by
  obtain ⟨r, s, hrs, hX, hY⟩ := cs_first (A := A) (R := R) (L := L) (H := H) hc hT hj hi i 0 (by omega)
  rw [nI_0] at hX hY
  refine ⟨r, s, hrs, fun post hp => ?_, fun post hp => ?_⟩
  · unfold wpX_isFirstOfItsValue
    dsimp only
    exact cs_cell (by omega) hj _ ⟨_, hX post hp⟩
  · exact ⟨_, hY post hp⟩
theorem cs_diff {c j : Nat} {A S V R L H : Nat → Int32} (hc : c ≤ 64) (hT : cs_T c S V) (hj : j < 3) : ∀ d i : Nat, i + d = c → ∀ x : Int32, ∃ r : Int32, (∀ post : Int32 → Prop, post r → wX_different_14 post (nI j) (nI c) A S R L H (d + 1) x (nI i)) ∧ (∀ post : Int32 → Prop, post r → wY_different_13 post (nI j) (nI c) A V R L H (d + 1) x (nI i)) := by
  intro d
  induction d with
  | zero =>
    intro i hi x
    have h : nI c ≤ nI i := cs_le (by omega) (by omega)
    exact ⟨x, fun _ hp => br_t h hp, fun _ hp => br_t h hp⟩
  | succ d ih =>
    intro i hi x
    have h : ¬ nI c ≤ nI i := cs_ge (by omega) hc
    obtain ⟨q, pX, pY⟩ := cs_passes (A := A) (R := R) (L := L) (H := H) hc hT (i := i) (by omega)
    by_cases z : q = 0
    · obtain ⟨r, hX, hY⟩ := ih (i + 1) (by omega) x
      exact ⟨r, fun post hp => br_f h (pX _ (br_t z (nm_r (nI_1 i) (hX post hp)))), fun post hp => br_f h (pY _ (br_t z (nm_r (nI_1 i) (hY post hp))))⟩
    · obtain ⟨a, b, hab, aX, aY⟩ := cs_seen (A := A) (R := R) (L := L) (H := H) hc hT hj (i := i) (by omega)
      by_cases y : a = 0
      · have y' : ¬ b = 0 := hab.mp y
        obtain ⟨r, hX, hY⟩ := ih (i + 1) (by omega) x
        exact ⟨r, fun post hp => br_f h (pX _ (br_f z (aX _ (br_t y (nm_r (nI_1 i) (hX post hp)))))), fun post hp => br_f h (pY _ (br_f z (aY _ (br_f y' (nm_r (nI_1 i) (hY post hp))))))⟩
      · have y' : b = 0 := Classical.byContradiction fun n => y (hab.mpr n)
        obtain ⟨r, hX, hY⟩ := ih (i + 1) (by omega) (x + 1)
        exact ⟨r, fun post hp => br_f h (pX _ (br_f z (aX _ (br_f y (nm_e (nm_r (nI_1 i) (hX post hp))))))), fun post hp => br_f h (pY _ (br_f z (aY _ (br_t y' (nm_e (nm_r (nI_1 i) (hY post hp)))))))⟩
theorem cs_live {c : Nat} {A S V R L H : Nat → Int32} (hc : c ≤ 64) (hT : cs_T c S V) : ∀ d i : Nat, i + d = c → ∀ x : Int32, ∃ r : Int32, (∀ post : Int32 → Prop, post r → wX_live_4 post (nI c) A S R L H (d + 1) x (nI i)) ∧ (∀ post : Int32 → Prop, post r → wY_live_4 post (nI c) A V R L H (d + 1) x (nI i)) := by
  intro d
  induction d with
  | zero =>
    intro i hi x
    have h : nI c ≤ nI i := cs_le (by omega) (by omega)
    exact ⟨x, fun _ hp => br_t h hp, fun _ hp => br_t h hp⟩
  | succ d ih =>
    intro i hi x
    have h : ¬ nI c ≤ nI i := cs_ge (by omega) hc
    have hin : vp_in (nI i) 64 := vp_in_nI (by omega) (by decide)
    have e : (nI i).toNatClampNeg = i := nI_clamp (by omega)
    have t := hT.1 i (by omega)
    rw [← e] at t
    by_cases z : S (nI i).toNatClampNeg = 0
    · have zY : ¬ V (nI i).toNatClampNeg = 0 := t.mp z
      obtain ⟨r, hX, hY⟩ := ih (i + 1) (by omega) (x + 1)
      exact ⟨r, fun post hp => br_f h ⟨hin, br_t z (nm_e (nm_r (nI_1 i) (hX post hp)))⟩, fun post hp => br_f h ⟨hin, br_f zY (nm_e (nm_r (nI_1 i) (hY post hp)))⟩⟩
    · have zY : V (nI i).toNatClampNeg = 0 := Classical.byContradiction fun n => z (t.mpr n)
      obtain ⟨r, hX, hY⟩ := ih (i + 1) (by omega) x
      exact ⟨r, fun post hp => br_f h ⟨hin, br_f z (nm_r (nI_1 i) (hX post hp))⟩, fun post hp => br_f h ⟨hin, br_t zY (nm_r (nI_1 i) (hY post hp))⟩⟩
end
