/-- rows of kit/rows, pasted: pk_us, pk_un, pk_mul, pk_ix -/
theorem pk_us {f : Nat → Int32} {k : Nat} {x : Int32} : upd f k x k = x := if_pos rfl
theorem pk_un {f : Nat → Int32} {k j : Nat} {x : Int32} (h : j ≠ k) : upd f k x j = f j := if_neg h
theorem pk_mul (a b : Nat) : nI a * nI b = nI (a * b) := (Int32.ofNat_mul a b).symm
theorem pk_ix (x : Int32) {n : Nat} (hn : n < 2 ^ 31) : x < 0 ∨ nI n ≤ x ∨ ∃ j : Nat, j < n ∧ x = nI j := by
  by_cases h : x < 0
  · exact Or.inl h
  · obtain ⟨j, hj, rfl⟩ := nI_of h
    by_cases h2 : j < n
    · exact Or.inr (Or.inr ⟨j, h2, rfl⟩)
    · exact Or.inr (Or.inl (nI_le (by omega) hj))
theorem cs_b0 : vp_nar .boolean 0 = 0 := by decide
theorem cs_b1 : vp_nar .boolean 1 = 1 := by decide
theorem cs_10 : ¬ (1 : Int32) = 0 := by decide
theorem cs_3 : (3 : Int32) = nI 3 := by decide
theorem cs_64 : (64 : Int32) = nI 64 := by decide
/-- of the rows below c: struck just where not alive; from c on nothing is struck -/
def cs_T (c : Nat) (S V : Nat → Int32) : Prop := (∀ i, i < c → (S i = 0 ↔ ¬ V i = 0)) ∧ (∀ i, c ≤ i → S i = 0)
/-- the two hold the same rows, ranges and number of rows; what is struck in one is not alive in the other -/
def i_Rel (k : Nat) (u : SX) (v : SY) : Prop := ∃ (c : Nat) (A S V R L H : Nat → Int32), c ≤ 64 ∧ u = (nI c, A, S, R, L, H) ∧ v = (nI c, A, V, R, L, H) ∧ cs_T c S V
theorem i_up {k : Nat} {u : SX} {v : SY} (h : i_Rel k u v) : i_Rel (k + 4) u v := h
theorem cs_mk {k c : Nat} {A S V R L H : Nat → Int32} (hc : c ≤ 64) (hT : cs_T c S V) : i_Rel k (nI c, A, S, R, L, H) (nI c, A, V, R, L, H) := ⟨c, A, S, V, R, L, H, hc, rfl, rfl, hT⟩
theorem i_vc0 : wpX_init (fun u => wpY_init (fun v => i_Rel 0 u v)) :=
  cs_mk (k := 0) (c := 0) (by decide) ⟨fun i hi => absurd hi (by omega), fun i _ => rfl⟩
theorem cs_ixX (i j : Nat) : nI i * 3 + nI j = nI (3 * i + j) := by
  rw [cs_3, pk_mul, nI_add, Nat.mul_comm]
theorem cs_ixY (i j : Nat) : 3 * nI i + nI j = nI (3 * i + j) := by
  rw [cs_3, pk_mul, nI_add]
theorem cs_inY {i j : Nat} (hi : i < 64) (hj : j < 3) : vp_in (3 * nI i + nI j) 192 := by
  rw [cs_ixY]; exact vp_in_nI (by omega) (by decide)
theorem cs_atY (A : Nat → Int32) {i j : Nat} (hi : i < 64) (hj : j < 3) : A (3 * nI i + nI j).toNatClampNeg = A (3 * i + j) := by
  rw [cs_ixY, nI_clamp (by omega)]
theorem cs_cell {c i j : Nat} {A S R L H : Nat → Int32} (hi : i < 64) (hj : j < 3) (post : Int32 → Prop) (hp : post (A (3 * i + j))) : wpX_cell post (nI c, A, S, R, L, H) (nI i) (nI j) := by
  unfold wpX_cell
  dsimp only
  rw [cs_ixX, nI_clamp (by omega)]
  exact ⟨vp_in_nI (by omega) (by decide), hp⟩
/-- a column that is none, or one of the three: what each side's own question answers -/
theorem cs_col (v : Int32) : ((∀ (post : Int32 → Prop) (c : Int32) (A S R L H : Nat → Int32), post 0 → wpX_isColumn post (c, A, S, R, L, H) v) ∧ (∀ post : Int32 → Prop, post 1 → wpY_bad post v)) ∨ (∃ j : Nat, j < 3 ∧ v = nI j ∧ (∀ (post : Int32 → Prop) (c : Int32) (A S R L H : Nat → Int32), post 1 → wpX_isColumn post (c, A, S, R, L, H) v) ∧ (∀ post : Int32 → Prop, post 0 → wpY_bad post v)) := by
  rcases pk_ix v (n := 3) (by decide) with h | h | ⟨j, hj, rfl⟩
  · exact Or.inl ⟨fun post c A S R L H hp => br_t h hp, fun post hp => br_t h hp⟩
  · by_cases h0 : v < 0
    · exact Or.inl ⟨fun post c A S R L H hp => br_t h0 hp, fun post hp => br_t h0 hp⟩
    · obtain ⟨j, hj, rfl⟩ := nI_of h0
      have h3 : 3 ≤ j := (nI_leI (by decide) hj).mp h
      have h2 : ¬ nI j ≤ 2 := nI_ge (a := 2) (by omega) hj
      exact Or.inl ⟨fun post c A S R L H hp => br_f h0 (br_t h hp), fun post hp => br_f h0 (br_f h2 hp)⟩
  · have h0 : ¬ nI j < 0 := nI_pos (by omega)
    have h3 : ¬ (3 : Int32) ≤ nI j := nI_ge (b := 3) hj (by decide)
    have h2 : nI j ≤ 2 := nI_le (b := 2) (by omega) (by decide)
    exact Or.inr ⟨j, hj, rfl, fun post c A S R L H hp => br_f h0 (br_f h3 hp), fun post hp => br_f h0 (br_t h2 hp)⟩
