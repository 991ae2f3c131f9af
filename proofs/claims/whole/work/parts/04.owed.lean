theorem i_vc_append {k : Nat} {u : SX} {v : SY} (I : i_Rel k u v) (hk : k + 4 ≤ 2048) (v1 : Int32) (v2 : Int32) (v3 : Int32) : wpX_append (fun r u' => wpY_append (fun r' v' => r' = r ∧ i_Rel (k + 4) u' v') v v1 v2 v3) u v1 v2 v3 := by
  obtain ⟨c, A, S, V, R, L, H, hc, rfl, rfl, hT⟩ := I
  by_cases h : c < 64
  · have hX : nI c < (64 : Int32) := nI_lt (b := 64) h (by decide)
    have hY : ¬ nI c = (64 : Int32) := fun z => absurd ((nI_eq (b := 64) (by omega) (by decide)).mp z) (by omega)
    have eX : nI c * 3 = nI (3 * c) := by rw [cs_3, pk_mul, Nat.mul_comm]
    have eY : 3 * nI c = nI (3 * c) := by rw [cs_3, pk_mul]
    have e1 : nI (3 * c) + 1 = nI (3 * c + 1) := nI_1 _
    have e2 : nI (3 * c) + 2 = nI (3 * c + 2) := nI_add (3 * c) 2
    have i0 : vp_in (nI (3 * c)) 192 := vp_in_nI (by omega) (by decide)
    have i1 : vp_in (nI (3 * c) + 1) 192 := by rw [e1]; exact vp_in_nI (by omega) (by decide)
    have i2 : vp_in (nI (3 * c) + 2) 192 := by rw [e2]; exact vp_in_nI (by omega) (by decide)
    have j0 : vp_in (3 * nI c) 192 := by rw [eY]; exact i0
    have j1 : vp_in (3 * nI c + 1) 192 := by rw [eY]; exact i1
    have j2 : vp_in (3 * nI c + 2) 192 := by rw [eY]; exact i2
    have jc : vp_in (nI c) 64 := vp_in_nI h (by decide)
    refine br_t hX (nm_r eX ⟨i0, fun a ea => ⟨i1, fun a2 ea2 => ⟨i2, fun a3 ea3 => nm_r (nI_1 c) (br_f hY ⟨j0, fun b eb => ⟨j1, fun b2 eb2 => ⟨j2, fun b3 eb3 => ⟨jc, fun w ew => nm_r (nI_1 c) ⟨nI_pred c, ?_⟩⟩⟩⟩⟩)⟩⟩⟩)
    rw [eY] at eb eb2 eb3
    have eab : b3 = a3 := by rw [eb3, eb2, eb, ea3, ea2, ea]
    rw [nI_clamp (by omega), cs_b1] at ew
    subst eab ew
    refine cs_mk (by omega) ⟨fun i hi => ?_, fun i hi => hT.2 i (by omega)⟩
    by_cases y : i = c
    · subst y
      rw [pk_us]
      exact ⟨fun _ => cs_10, fun _ => hT.2 i (Nat.le_refl i)⟩
    · rw [pk_un y]
      exact hT.1 i (by omega)
  · have e : c = 64 := by omega
    subst e
    have hX : ¬ nI 64 < (64 : Int32) := by decide
    have hY : nI 64 = (64 : Int32) := by decide
    exact br_f hX (br_t hY ⟨rfl, cs_mk hc hT⟩)
theorem i_vc_strike {k : Nat} {u : SX} {v : SY} (I : i_Rel k u v) (hk : k + 4 ≤ 2048) (v1 : Int32) : wpX_strike (fun r u' => wpY_strike (fun r' v' => r' = r ∧ i_Rel (k + 4) u' v') v v1) u v1 := by
  obtain ⟨c, A, S, V, R, L, H, hc, rfl, rfl, hT⟩ := I
  unfold wpX_strike wpY_strike
  dsimp only
  rcases pk_ix v1 (n := c) (by omega) with h | h | ⟨j, hj, rfl⟩
  · exact br_t h (br_t rfl (br_t h ⟨rfl, cs_mk hc hT⟩))
  · by_cases h0 : v1 < 0
    · exact br_t h0 (br_t rfl (br_t h0 ⟨rfl, cs_mk hc hT⟩))
    · exact br_f h0 (br_t h (br_t rfl (br_f h0 (br_t h ⟨rfl, cs_mk hc hT⟩))))
  · have h0 : ¬ nI j < 0 := nI_pos (by omega)
    have h1 : ¬ nI c ≤ nI j := cs_ge hj hc
    have hin : vp_in (nI j) 64 := vp_in_nI (by omega) (by decide)
    have e : (nI j).toNatClampNeg = j := nI_clamp (by omega)
    have t := hT.1 j hj
    by_cases z : S j = 0
    · have zX : S (nI j).toNatClampNeg = 0 := by rw [e]; exact z
      have zY : ¬ V (nI j).toNatClampNeg = 0 := by rw [e]; exact t.mp z
      refine br_f h0 (br_f h1 (br_f cs_10 ⟨hin, br_t zX ⟨hin, fun a ea => br_f h0 (br_f h1 ⟨hin, br_f zY ⟨hin, fun b eb => ⟨rfl, ?_⟩⟩⟩)⟩⟩))
      rw [e, cs_b1] at ea
      rw [e, cs_b0] at eb
      subst ea eb
      refine cs_mk hc ⟨fun i hi => ?_, fun i hi => ?_⟩
      · by_cases y : i = j
        · subst y
          rw [pk_us, pk_us]
          decide
        · rw [pk_un y, pk_un y]
          exact hT.1 i hi
      · rw [pk_un (by omega)]
        exact hT.2 i hi
    · have zX : ¬ S (nI j).toNatClampNeg = 0 := by rw [e]; exact z
      have zY : V (nI j).toNatClampNeg = 0 := by rw [e]; exact Classical.byContradiction fun n => z (t.mpr n)
      exact br_f h0 (br_f h1 (br_f cs_10 ⟨hin, br_f zX (br_f h0 (br_f h1 ⟨hin, br_t zY ⟨rfl, cs_mk hc hT⟩⟩))⟩))
theorem i_vc_range {k : Nat} {u : SX} {v : SY} (I : i_Rel k u v) (hk : k + 4 ≤ 2048) (v1 : Int32) (v2 : Int32) (v3 : Int32) : wpX_range (fun r u' => wpY_range (fun r' v' => r' = r ∧ i_Rel (k + 4) u' v') v v1 v2 v3) u v1 v2 v3 := by
  obtain ⟨c, A, S, V, R, L, H, hc, rfl, rfl, hT⟩ := I
  unfold wpX_range wpY_range
  dsimp only
  rcases cs_col v1 with ⟨cX, cY⟩ | ⟨j, hj, rfl, cX, cY⟩
  · exact cX _ _ _ _ _ _ _ (br_t rfl (cY _ (br_f cs_10 ⟨rfl, cs_mk hc hT⟩)))
  · have hin : vp_in (nI j) 3 := vp_in_nI hj (by decide)
    exact cX _ _ _ _ _ _ _ (br_f cs_10 ⟨hin, nm_e ⟨hin, nm_e ⟨hin, nm_e (cY _ (br_t rfl ⟨hin, nm_e ⟨hin, nm_e ⟨hin, nm_e ⟨rfl, cs_mk hc hT⟩⟩⟩⟩))⟩⟩⟩)
/-- no column ranged: what the loop of open leaves of the array -/
def cs_op (R : Nat → Int32) : Nat → Int32 := upd (upd (upd R (0 : Int32).toNatClampNeg (vp_nar .boolean 0)) ((0 : Int32) + 1).toNatClampNeg (vp_nar .boolean 0)) ((0 : Int32) + 1 + 1).toNatClampNeg (vp_nar .boolean 0)
theorem cs_o0 : vp_in (0 : Int32) 3 := vp_in_iff.mpr (by decide)
theorem cs_o1 : vp_in ((0 : Int32) + 1) 3 := vp_in_iff.mpr (by decide)
theorem cs_o2 : vp_in ((0 : Int32) + 1 + 1) 3 := vp_in_iff.mpr (by decide)
theorem cs_n0 : ¬ (3 : Int32) ≤ 0 := by decide
theorem cs_n1 : ¬ (3 : Int32) ≤ 0 + 1 := by decide
theorem cs_n2 : ¬ (3 : Int32) ≤ 0 + 1 + 1 := by decide
theorem cs_n3 : (3 : Int32) ≤ 0 + 1 + 1 + 1 := by decide
theorem cs_opX {f : Int32} {A S R L H : Nat → Int32} (post : SX → Prop) (hp : post (f, A, S, cs_op R, L, H)) : wX_open_2 post f 4 0 A S R L H :=
  br_f cs_n0 ⟨cs_o0, nm_e (nm_e (br_f cs_n1 ⟨cs_o1, nm_e (nm_e (br_f cs_n2 ⟨cs_o2, nm_e (nm_e (br_t cs_n3 hp))⟩))⟩))⟩
theorem cs_opY {f : Int32} {A S R L H : Nat → Int32} (post : SY → Prop) (hp : post (f, A, S, cs_op R, L, H)) : wY_open_2 post f 4 0 A S R L H :=
  br_f cs_n0 ⟨cs_o0, nm_e (nm_e (br_f cs_n1 ⟨cs_o1, nm_e (nm_e (br_f cs_n2 ⟨cs_o2, nm_e (nm_e (br_t cs_n3 hp))⟩))⟩))⟩
theorem i_vc_open {k : Nat} {u : SX} {v : SY} (I : i_Rel k u v) (hk : k + 4 ≤ 2048) : wpX_open (fun u' => wpY_open (fun v' => i_Rel (k + 4) u' v') v) u := by
  obtain ⟨c, A, S, V, R, L, H, hc, rfl, rfl, hT⟩ := I
  exact ⟨4, cs_opX _ ⟨4, cs_opY _ (cs_mk hc hT)⟩⟩
theorem i_vc_count {k : Nat} {u : SX} {v : SY} (I : i_Rel k u v) (hk : k + 4 ≤ 2048) : wpX_count (fun r => wpY_count (fun r' => r' = r ∧ i_Rel (k + 4) u v) v) u := by
  obtain ⟨c, A, S, V, R, L, H, hc, rfl, rfl, hT⟩ := I
  obtain ⟨r, hX, hY⟩ := cs_count (A := A) (R := R) (L := L) (H := H) hc hT c 0 (by omega) 0
  rw [nI_0] at hX hY
  exact ⟨_, hX _ ⟨_, hY _ ⟨rfl, cs_mk hc hT⟩⟩⟩
theorem i_vc_sum {k : Nat} {u : SX} {v : SY} (I : i_Rel k u v) (hk : k + 4 ≤ 2048) (v1 : Int32) : wpX_sum (fun r => wpY_sum (fun r' => r' = r ∧ i_Rel (k + 4) u v) v v1) u v1 := by
  obtain ⟨c, A, S, V, R, L, H, hc, rfl, rfl, hT⟩ := I
  unfold wpX_sum wpY_sum
  dsimp only
  rcases cs_col v1 with ⟨cX, cY⟩ | ⟨j, hj, rfl, cX, cY⟩
  · exact cX _ _ _ _ _ _ _ (br_t rfl (cY _ (br_f cs_10 ⟨rfl, cs_mk hc hT⟩)))
  · obtain ⟨r, hX, hY⟩ := cs_sum (A := A) (R := R) (L := L) (H := H) hc hT hj c 0 (by omega) 0
    rw [nI_0] at hX hY
    exact cX _ _ _ _ _ _ _ (br_f cs_10 ⟨_, hX _ (cY _ (br_t rfl ⟨_, hY _ ⟨rfl, cs_mk hc hT⟩⟩))⟩)
theorem i_vc_extreme {k : Nat} {u : SX} {v : SY} (I : i_Rel k u v) (hk : k + 4 ≤ 2048) (v1 : Int32) (v2 : Int32) : wpX_extreme (fun r => wpY_extreme (fun r' => r' = r ∧ i_Rel (k + 4) u v) v v1 (lw_bz v2)) u v1 (lw_bz v2) := by
  obtain ⟨c, A, S, V, R, L, H, hc, rfl, rfl, hT⟩ := I
  unfold wpX_extreme wpY_extreme
  dsimp only
  rcases cs_col v1 with ⟨cX, cY⟩ | ⟨j, hj, rfl, cX, cY⟩
  · exact cX _ _ _ _ _ _ _ (br_t rfl (cY _ (br_f cs_10 ⟨rfl, cs_mk hc hT⟩)))
  · obtain ⟨r, hX, hY⟩ := cs_ext (g := lw_bz v2) (A := A) (R := R) (L := L) (H := H) hc hT hj c 0 (by omega) 0 0
    rw [nI_0] at hX hY
    exact cX _ _ _ _ _ _ _ (br_f cs_10 ⟨_, hX _ (cY _ (br_t rfl ⟨_, hY _ ⟨rfl, cs_mk hc hT⟩⟩))⟩)
theorem i_vc_passing {k : Nat} {u : SX} {v : SY} (I : i_Rel k u v) (hk : k + 4 ≤ 2048) (v1 : Int32) : wpX_passing (fun r => wpY_passing (fun r' => r' = r ∧ i_Rel (k + 4) u v) v v1) u v1 := by
  obtain ⟨c, A, S, V, R, L, H, hc, rfl, rfl, hT⟩ := I
  obtain ⟨r, hX, hY⟩ := cs_place (p := v1) (A := A) (R := R) (L := L) (H := H) hc hT c 0 (by omega) 0
  rw [nI_0] at hX hY
  exact ⟨_, hX _ ⟨_, hY _ ⟨rfl, cs_mk hc hT⟩⟩⟩
theorem i_vc_value {k : Nat} {u : SX} {v : SY} (I : i_Rel k u v) (hk : k + 4 ≤ 2048) (v1 : Int32) (v2 : Int32) : wpX_value (fun r => wpY_value (fun r' => r' = r ∧ i_Rel (k + 4) u v) v v1 v2) u v1 v2 := by
  obtain ⟨c, A, S, V, R, L, H, hc, rfl, rfl, hT⟩ := I
  unfold wpX_value wpY_value
  dsimp only
  rcases pk_ix v1 (n := c) (by omega) with h | h | ⟨i, hi, rfl⟩
  · exact br_t h (br_t rfl (br_t h ⟨rfl, cs_mk hc hT⟩))
  · by_cases h0 : v1 < 0
    · exact br_t h0 (br_t rfl (br_t h0 ⟨rfl, cs_mk hc hT⟩))
    · exact br_f h0 (br_t h (br_t rfl (br_f h0 (br_t h ⟨rfl, cs_mk hc hT⟩))))
  · have h0 : ¬ nI i < 0 := nI_pos (by omega)
    have h1 : ¬ nI c ≤ nI i := cs_ge hi hc
    rcases cs_col v2 with ⟨cX, cY⟩ | ⟨j, hj, rfl, cX, cY⟩
    · exact br_f h0 (br_f h1 (br_f cs_10 (cX _ _ _ _ _ _ _ (br_t rfl (br_f h0 (br_f h1 (cY _ (br_f cs_10 ⟨rfl, cs_mk hc hT⟩))))))))
    · have hi64 : i < 64 := by omega
      exact br_f h0 (br_f h1 (br_f cs_10 (cX _ _ _ _ _ _ _ (br_f cs_10 (cs_cell hi64 hj _ (br_f h0 (br_f h1 (cY _ (br_t rfl ⟨cs_inY hi64 hj, cs_atY A hi64 hj, cs_mk hc hT⟩)))))))))
theorem i_vc_different {k : Nat} {u : SX} {v : SY} (I : i_Rel k u v) (hk : k + 4 ≤ 2048) (v1 : Int32) : wpX_different (fun r => wpY_different (fun r' => r' = r ∧ i_Rel (k + 4) u v) v v1) u v1 := by
  obtain ⟨c, A, S, V, R, L, H, hc, rfl, rfl, hT⟩ := I
  unfold wpX_different wpY_different
  dsimp only
  rcases cs_col v1 with ⟨cX, cY⟩ | ⟨j, hj, rfl, cX, cY⟩
  · exact cX _ _ _ _ _ _ _ (br_t rfl (cY _ (br_f cs_10 ⟨rfl, cs_mk hc hT⟩)))
  · obtain ⟨r, hX, hY⟩ := cs_diff (A := A) (R := R) (L := L) (H := H) hc hT hj c 0 (by omega) 0
    rw [nI_0] at hX hY
    exact cX _ _ _ _ _ _ _ (br_f cs_10 ⟨_, hX _ (cY _ (br_t rfl ⟨_, hY _ ⟨rfl, cs_mk hc hT⟩⟩))⟩)
theorem i_vc_live {k : Nat} {u : SX} {v : SY} (I : i_Rel k u v) (hk : k + 4 ≤ 2048) : wpX_live (fun r => wpY_live (fun r' => r' = r ∧ i_Rel (k + 4) u v) v) u := by
  obtain ⟨c, A, S, V, R, L, H, hc, rfl, rfl, hT⟩ := I
  obtain ⟨r, hX, hY⟩ := cs_live (A := A) (R := R) (L := L) (H := H) hc hT c 0 (by omega) 0
  rw [nI_0] at hX hY
  exact ⟨_, hX _ ⟨_, hY _ ⟨rfl, cs_mk hc hT⟩⟩⟩
