theorem cs_le {a c : Nat} (h : c ≤ a) (ha : a ≤ 64) : nI c ≤ nI a := nI_le h (by omega)
theorem cs_ge {a c : Nat} (h : a < c) (hc : c ≤ 64) : ¬ nI c ≤ nI a := nI_ge h (by omega)
theorem cs_count {c : Nat} {A S V R L H : Nat → Int32} (hc : c ≤ 64) (hT : cs_T c S V) : ∀ d i : Nat, i + d = c → ∀ x : Int32, ∃ r : Int32, (∀ post : Int32 → Prop, post r → wX_count_4 post (nI c) A S R L H (d + 1) x (nI i)) ∧ (∀ post : Int32 → Prop, post r → wY_count_4 post (nI c) A V R L H (d + 1) x (nI i)) := by
  intro d
  induction d with
  | zero =>
    intro i hi x
    have h : nI c ≤ nI i := cs_le (by omega) (by omega)
    exact ⟨x, fun _ hp => br_t h hp, fun _ hp => br_t h hp⟩
  | succ d ih =>
    intro i hi x
    have h : ¬ nI c ≤ nI i := cs_ge (by omega) hc
    obtain ⟨q, pX, pY⟩ := cs_passes (A := A) (R := R) (L := L) (H := H) hc hT (i := i) (by omega)
    by_cases z : q = 0
    · obtain ⟨r, hX, hY⟩ := ih (i + 1) (by omega) x
      exact ⟨r, fun post hp => br_f h (pX _ (br_t z (nm_r (nI_1 i) (hX post hp)))), fun post hp => br_f h (pY _ (br_t z (nm_r (nI_1 i) (hY post hp))))⟩
    · obtain ⟨r, hX, hY⟩ := ih (i + 1) (by omega) (x + 1)
      exact ⟨r, fun post hp => br_f h (pX _ (br_f z (nm_e (nm_r (nI_1 i) (hX post hp))))), fun post hp => br_f h (pY _ (br_f z (nm_e (nm_r (nI_1 i) (hY post hp)))))⟩
theorem cs_sum {c j : Nat} {A S V R L H : Nat → Int32} (hc : c ≤ 64) (hT : cs_T c S V) (hj : j < 3) : ∀ d i : Nat, i + d = c → ∀ x : Int64, ∃ r : Int64, (∀ post : Int64 → Prop, post r → wX_sum_15 post (nI j) (nI c) A S R L H (d + 1) x (nI i)) ∧ (∀ post : Int64 → Prop, post r → wY_sum_14 post (nI j) (nI c) A V R L H (d + 1) x (nI i)) := by
  intro d
  induction d with
  | zero =>
    intro i hi x
    have h : nI c ≤ nI i := cs_le (by omega) (by omega)
    exact ⟨x, fun _ hp => br_t h hp, fun _ hp => br_t h hp⟩
  | succ d ih =>
    intro i hi x
    have h : ¬ nI c ≤ nI i := cs_ge (by omega) hc
    have hi64 : i < 64 := by omega
    obtain ⟨q, pX, pY⟩ := cs_passes (A := A) (R := R) (L := L) (H := H) hc hT (i := i) (by omega)
    by_cases z : q = 0
    · obtain ⟨r, hX, hY⟩ := ih (i + 1) (by omega) x
      exact ⟨r, fun post hp => br_f h (pX _ (br_t z (nm_r (nI_1 i) (hX post hp)))), fun post hp => br_f h (pY _ (br_t z (nm_r (nI_1 i) (hY post hp))))⟩
    · obtain ⟨r, hX, hY⟩ := ih (i + 1) (by omega) (x + (A (3 * i + j)).toInt64)
      have ey : x + (A (3 * nI i + nI j).toNatClampNeg).toInt64 = x + (A (3 * i + j)).toInt64 := by rw [cs_atY A hi64 hj]
      exact ⟨r, fun post hp => br_f h (pX _ (br_f z (cs_cell hi64 hj _ (nm_e (nm_r (nI_1 i) (hX post hp)))))), fun post hp => br_f h (pY _ (br_f z ⟨cs_inY hi64 hj, nm_r ey (nm_r (nI_1 i) (hY post hp))⟩))⟩
theorem cs_ext {c j : Nat} {g : Int32} {A S V R L H : Nat → Int32} (hc : c ≤ 64) (hT : cs_T c S V) (hj : j < 3) : ∀ d i : Nat, i + d = c → ∀ f b : Int32, ∃ r : Int32, (∀ post : Int32 → Prop, post r → wX_extreme_18 post (nI j) g (nI c) A S R L H (d + 1) f b (nI i)) ∧ (∀ post : Int32 → Prop, post r → wY_extreme_17 post (nI j) g (nI c) A V R L H (d + 1) f b (nI i)) := by
  intro d
  induction d with
  | zero =>
    intro i hi f b
    have h : nI c ≤ nI i := cs_le (by omega) (by omega)
    exact ⟨b, fun _ hp => br_t h hp, fun _ hp => br_t h hp⟩
  | succ d ih =>
    intro i hi f b
    have h : ¬ nI c ≤ nI i := cs_ge (by omega) hc
    have hi64 : i < 64 := by omega
    have hy : vp_in (3 * nI i + nI j) 192 := cs_inY hi64 hj
    have ey : A (3 * nI i + nI j).toNatClampNeg = A (3 * i + j) := cs_atY A hi64 hj
    obtain ⟨q, pX, pY⟩ := cs_passes (A := A) (R := R) (L := L) (H := H) hc hT (i := i) (by omega)
    by_cases z : q = 0
    · obtain ⟨r, hX, hY⟩ := ih (i + 1) (by omega) f b
      exact ⟨r, fun post hp => br_f h (pX _ (br_t z (nm_r (nI_1 i) (hX post hp)))), fun post hp => br_f h ⟨hy, nm_r ey (pY _ (br_t z (nm_r (nI_1 i) (hY post hp))))⟩⟩
    · by_cases y : f = 0
      · obtain ⟨r, hX, hY⟩ := ih (i + 1) (by omega) 1 (A (3 * i + j))
        exact ⟨r, fun post hp => br_f h (pX _ (br_f z (cs_cell hi64 hj _ (br_t y (nm_r (nI_1 i) (hX post hp)))))), fun post hp => br_f h ⟨hy, nm_r ey (pY _ (br_f z (br_t y (nm_r (nI_1 i) (hY post hp)))))⟩⟩
      · by_cases w : g = 0
        · by_cases o : b ≤ A (3 * i + j)
          · obtain ⟨r, hX, hY⟩ := ih (i + 1) (by omega) f b
            exact ⟨r, fun post hp => br_f h (pX _ (br_f z (cs_cell hi64 hj _ (br_f y (br_t w (br_t o (nm_r (nI_1 i) (hX post hp)))))))), fun post hp => br_f h ⟨hy, nm_r ey (pY _ (br_f z (br_f y (br_t w (br_t o (nm_r (nI_1 i) (hY post hp)))))))⟩⟩
          · obtain ⟨r, hX, hY⟩ := ih (i + 1) (by omega) 1 (A (3 * i + j))
            exact ⟨r, fun post hp => br_f h (pX _ (br_f z (cs_cell hi64 hj _ (br_f y (br_t w (br_f o (nm_r (nI_1 i) (hX post hp)))))))), fun post hp => br_f h ⟨hy, nm_r ey (pY _ (br_f z (br_f y (br_t w (br_f o (nm_r (nI_1 i) (hY post hp)))))))⟩⟩
        · by_cases o : A (3 * i + j) ≤ b
          · obtain ⟨r, hX, hY⟩ := ih (i + 1) (by omega) f b
            exact ⟨r, fun post hp => br_f h (pX _ (br_f z (cs_cell hi64 hj _ (br_f y (br_f w (br_t o (nm_r (nI_1 i) (hX post hp)))))))), fun post hp => br_f h ⟨hy, nm_r ey (pY _ (br_f z (br_f y (br_f w (br_t o (nm_r (nI_1 i) (hY post hp)))))))⟩⟩
          · obtain ⟨r, hX, hY⟩ := ih (i + 1) (by omega) 1 (A (3 * i + j))
            exact ⟨r, fun post hp => br_f h (pX _ (br_f z (cs_cell hi64 hj _ (br_f y (br_f w (br_f o (nm_r (nI_1 i) (hX post hp)))))))), fun post hp => br_f h ⟨hy, nm_r ey (pY _ (br_f z (br_f y (br_f w (br_f o (nm_r (nI_1 i) (hY post hp)))))))⟩⟩
theorem cs_place {c : Nat} {p : Int32} {A S V R L H : Nat → Int32} (hc : c ≤ 64) (hT : cs_T c S V) : ∀ d i : Nat, i + d = c → ∀ x : Int32, ∃ r : Int32, (∀ post : Int32 → Prop, post r → wX_passing_4 post p (nI c) A S R L H (d + 1) x (nI i)) ∧ (∀ post : Int32 → Prop, post r → wY_passing_4 post p (nI c) A V R L H (d + 1) x (nI i)) := by
  intro d
  induction d with
  | zero =>
    intro i hi x
    have h : nI c ≤ nI i := cs_le (by omega) (by omega)
    exact ⟨-1, fun _ hp => br_t h hp, fun _ hp => br_t h hp⟩
  | succ d ih =>
    intro i hi x
    have h : ¬ nI c ≤ nI i := cs_ge (by omega) hc
    obtain ⟨q, pX, pY⟩ := cs_passes (A := A) (R := R) (L := L) (H := H) hc hT (i := i) (by omega)
    by_cases z : q = 0
    · obtain ⟨r, hX, hY⟩ := ih (i + 1) (by omega) x
      exact ⟨r, fun post hp => br_f h (pX _ (br_t z (nm_r (nI_1 i) (hX post hp)))), fun post hp => br_f h (pY _ (br_t z (nm_r (nI_1 i) (hY post hp))))⟩
    · by_cases y : x = p
      · exact ⟨nI i, fun post hp => br_f h (pX _ (br_f z (br_t y hp))), fun post hp => br_f h (pY _ (br_f z (br_t y hp)))⟩
      · obtain ⟨r, hX, hY⟩ := ih (i + 1) (by omega) (x + 1)
        exact ⟨r, fun post hp => br_f h (pX _ (br_f z (br_f y (nm_e (nm_r (nI_1 i) (hX post hp)))))), fun post hp => br_f h (pY _ (br_f z (br_f y (nm_e (nm_r (nI_1 i) (hY post hp))))))⟩
/-- the first of its value on one side just where it is not seen before on the other -/
theorem cs_first {c i j : Nat} {A S V R L H : Nat → Int32} (hc : c ≤ 64) (hT : cs_T c S V) (hj : j < 3) (hi : i < c) : ∀ d e : Nat, e + d = i → ∃ r s : Int32, (r = 0 ↔ ¬ s = 0) ∧ (∀ post : Int32 → Prop, post r → wX_isFirstOfItsValue_10 post (nI i) (nI j) (A (3 * i + j)) (nI c) A S R L H (d + 1) (nI e)) ∧ (∀ post : Int32 → Prop, post s → wY_seen_2 post (nI i) (nI j) (nI c) A V R L H (d + 1) (nI e)) := by
  intro d
  induction d with
  | zero =>
    intro e he
    have h : nI i ≤ nI e := cs_le (by omega) (by omega)
    exact ⟨1, 0, by decide, fun _ hp => br_t h hp, fun _ hp => br_t h hp⟩
  | succ d ih =>
    intro e he
    have h : ¬ nI i ≤ nI e := cs_ge (by omega) (by omega)
    have hi64 : i < 64 := by omega
    have he64 : e < 64 := by omega
    obtain ⟨q, pX, pY⟩ := cs_passes (A := A) (R := R) (L := L) (H := H) hc hT (i := e) (by omega)
    obtain ⟨r, s, hrs, hX, hY⟩ := ih (e + 1) (by omega)
    by_cases z : q = 0
    · exact ⟨r, s, hrs, fun post hp => br_f h (pX _ (br_t z (nm_r (nI_1 e) (hX post hp)))), fun post hp => br_f h (pY _ (br_t z (nm_r (nI_1 e) (hY post hp))))⟩
    · by_cases y : A (3 * e + j) = A (3 * i + j)
      · have y' : A (3 * nI e + nI j).toNatClampNeg = A (3 * nI i + nI j).toNatClampNeg := by rw [cs_atY A he64 hj, cs_atY A hi64 hj]; exact y
        exact ⟨0, 1, by decide, fun post hp => br_f h (pX _ (br_f z (cs_cell he64 hj _ (br_t y hp)))), fun post hp => br_f h (pY _ (br_f z ⟨cs_inY he64 hj, cs_inY hi64 hj, br_t y' hp⟩))⟩
      · have y' : ¬ A (3 * nI e + nI j).toNatClampNeg = A (3 * nI i + nI j).toNatClampNeg := by rw [cs_atY A he64 hj, cs_atY A hi64 hj]; exact y
        exact ⟨r, s, hrs, fun post hp => br_f h (pX _ (br_f z (cs_cell he64 hj _ (br_f y (nm_r (nI_1 e) (hX post hp)))))), fun post hp => br_f h (pY _ (br_f z ⟨cs_inY he64 hj, cs_inY hi64 hj, br_f y' (nm_r (nI_1 e) (hY post hp))⟩))⟩
theorem cs_seen {c i j : Nat} {A S V R L H : Nat → Int32} (hc : c ≤ 64) (hT : cs_T c S V) (hj : j < 3) (hi : i < c) : ∃ r s : Int32, (r = 0 ↔ ¬ s = 0) ∧ (∀ post : Int32 → Prop, post r → wpX_isFirstOfItsValue post (nI c, A, S, R, L, H) (nI i) (nI j)) ∧ (∀ post : Int32 → Prop, post s → wpY_seen post (nI c, A, V, R, L, H) (nI i) (nI j)) := by
  obtain ⟨r, s, hrs, hX, hY⟩ := cs_first (A := A) (R := R) (L := L) (H := H) hc hT hj hi i 0 (by omega)
  rw [nI_0] at hX hY
  refine ⟨r, s, hrs, fun post hp => ?_, fun post hp => ?_⟩
  · unfold wpX_isFirstOfItsValue
    dsimp only
    exact cs_cell (by omega) hj _ ⟨_, hX post hp⟩
  · exact ⟨_, hY post hp⟩
theorem cs_diff {c j : Nat} {A S V R L H : Nat → Int32} (hc : c ≤ 64) (hT : cs_T c S V) (hj : j < 3) : ∀ d i : Nat, i + d = c → ∀ x : Int32, ∃ r : Int32, (∀ post : Int32 → Prop, post r → wX_different_14 post (nI j) (nI c) A S R L H (d + 1) x (nI i)) ∧ (∀ post : Int32 → Prop, post r → wY_different_13 post (nI j) (nI c) A V R L H (d + 1) x (nI i)) := by
  intro d
  induction d with
  | zero =>
    intro i hi x
    have h : nI c ≤ nI i := cs_le (by omega) (by omega)
    exact ⟨x, fun _ hp => br_t h hp, fun _ hp => br_t h hp⟩
  | succ d ih =>
    intro i hi x
    have h : ¬ nI c ≤ nI i := cs_ge (by omega) hc
    obtain ⟨q, pX, pY⟩ := cs_passes (A := A) (R := R) (L := L) (H := H) hc hT (i := i) (by omega)
    by_cases z : q = 0
    · obtain ⟨r, hX, hY⟩ := ih (i + 1) (by omega) x
      exact ⟨r, fun post hp => br_f h (pX _ (br_t z (nm_r (nI_1 i) (hX post hp)))), fun post hp => br_f h (pY _ (br_t z (nm_r (nI_1 i) (hY post hp))))⟩
    · obtain ⟨a, b, hab, aX, aY⟩ := cs_seen (A := A) (R := R) (L := L) (H := H) hc hT hj (i := i) (by omega)
      by_cases y : a = 0
      · have y' : ¬ b = 0 := hab.mp y
        obtain ⟨r, hX, hY⟩ := ih (i + 1) (by omega) x
        exact ⟨r, fun post hp => br_f h (pX _ (br_f z (aX _ (br_t y (nm_r (nI_1 i) (hX post hp)))))), fun post hp => br_f h (pY _ (br_f z (aY _ (br_f y' (nm_r (nI_1 i) (hY post hp))))))⟩
      · have y' : b = 0 := Classical.byContradiction fun n => y (hab.mpr n)
        obtain ⟨r, hX, hY⟩ := ih (i + 1) (by omega) (x + 1)
        exact ⟨r, fun post hp => br_f h (pX _ (br_f z (aX _ (br_f y (nm_e (nm_r (nI_1 i) (hX post hp))))))), fun post hp => br_f h (pY _ (br_f z (aY _ (br_t y' (nm_e (nm_r (nI_1 i) (hY post hp)))))))⟩
theorem cs_live {c : Nat} {A S V R L H : Nat → Int32} (hc : c ≤ 64) (hT : cs_T c S V) : ∀ d i : Nat, i + d = c → ∀ x : Int32, ∃ r : Int32, (∀ post : Int32 → Prop, post r → wX_live_4 post (nI c) A S R L H (d + 1) x (nI i)) ∧ (∀ post : Int32 → Prop, post r → wY_live_4 post (nI c) A V R L H (d + 1) x (nI i)) := by
  intro d
  induction d with
  | zero =>
    intro i hi x
    have h : nI c ≤ nI i := cs_le (by omega) (by omega)
    exact ⟨x, fun _ hp => br_t h hp, fun _ hp => br_t h hp⟩
  | succ d ih =>
    intro i hi x
    have h : ¬ nI c ≤ nI i := cs_ge (by omega) hc
    have hin : vp_in (nI i) 64 := vp_in_nI (by omega) (by decide)
    have e : (nI i).toNatClampNeg = i := nI_clamp (by omega)
    have t := hT.1 i (by omega)
    rw [← e] at t
    by_cases z : S (nI i).toNatClampNeg = 0
    · have zY : ¬ V (nI i).toNatClampNeg = 0 := t.mp z
      obtain ⟨r, hX, hY⟩ := ih (i + 1) (by omega) (x + 1)
      exact ⟨r, fun post hp => br_f h ⟨hin, br_t z (nm_e (nm_r (nI_1 i) (hX post hp)))⟩, fun post hp => br_f h ⟨hin, br_f zY (nm_e (nm_r (nI_1 i) (hY post hp)))⟩⟩
    · have zY : V (nI i).toNatClampNeg = 0 := Classical.byContradiction fun n => z (t.mpr n)
      obtain ⟨r, hX, hY⟩ := ih (i + 1) (by omega) x
      exact ⟨r, fun post hp => br_f h ⟨hin, br_f z (nm_r (nI_1 i) (hX post hp))⟩, fun post hp => br_f h ⟨hin, br_t zY (nm_r (nI_1 i) (hY post hp))⟩⟩
