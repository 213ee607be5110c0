/-! what is owed: the changing calls and the plain questions -/
theorem gd_rl {k : Nat} {c z o t : Nat → Int32} (hY : gd_Y o t) (hR : gd_R c z) : i_Rel k (c, z) (c, z, o, t) := ⟨c, z, o, t, rfl, rfl, hY, hR⟩
theorem i_vc_set {k : Nat} {u : SX} {v : SY} (I : i_Rel k u v) (hk : k + 3 ≤ 1536) (v1 : Int32) (v2 : Int32) : wpX_set (fun r u' => wpY_set (fun r' v' => r' = r ∧ i_Rel (k + 3) u' v') v v1 v2) u v1 v2 := by
  obtain ⟨c, z, o, t, rfl, rfl, hY, hR⟩ := I
  unfold wpX_set
  rcases gd_ix v1 17 with hb | ⟨s, hs, rfl⟩
  · refine gx_st0 hb (br_t rfl ?_)
    unfold wpY_set
    exact gy_bs1 hb (br_f gd_10 ⟨rfl, gd_rl hY hR⟩)
  · have hi : vp_in (nI s) 17 := vp_in_nI hs (by decide)
    have hcl : (nI s).toNatClampNeg = s := nI_clamp (by omega)
    refine gx_st hs (br_f gd_10 ?_)
    rcases gd_ix v2 21 with hb | ⟨j, hj, rfl⟩
    · rcases hb with hb | ⟨j, h1, h2, rfl⟩
      · refine br_t hb ?_
        unfold wpY_set
        exact gy_bs hs (br_t rfl (br_t hb ⟨rfl, gd_rl hY hR⟩))
      · have n0 := nI_pos h2
        have n1 : ¬ nI j ≤ 20 := nI_ge (a := 20) (by omega) h2
        refine br_f n0 (br_f n1 ?_)
        unfold wpY_set
        exact gy_bs hs (br_t rfl (br_f n0 (br_f n1 ⟨rfl, gd_rl hY hR⟩)))
    · have n0 : ¬ nI j < 0 := nI_pos (by omega)
      have n1 : nI j ≤ 20 := nI_le (b := 20) (by omega) (by decide)
      refine br_f n0 (br_t n1 ⟨hi, nm_e ⟨hi, nm_e ?_⟩⟩)
      unfold wpY_set
      refine gy_bs hs (br_t rfl (br_f n0 (br_t n1 ⟨hi, nm_e ⟨hi, nm_e ⟨rfl, ?_⟩⟩⟩)))
      rw [hcl]
      exact gd_rl hY (gd_R_c hR s (by omega))
theorem i_vc_sow {k : Nat} {u : SX} {v : SY} (I : i_Rel k u v) (hk : k + 3 ≤ 1536) (v1 : Int32) (v2 : Int32) : wpX_sow (fun r u' => wpY_sow (fun r' v' => r' = r ∧ i_Rel (k + 3) u' v') v v1 v2) u v1 v2 := by
  obtain ⟨c, z, o, t, rfl, rfl, hY, hR⟩ := I
  unfold wpX_sow
  rcases gd_ix v1 21 with hb | ⟨a, ha, rfl⟩
  · rcases hb with hb | ⟨j, h1, h2, rfl⟩
    · refine br_t hb ?_
      unfold wpY_sow
      exact br_t hb ⟨rfl, gd_rl hY hR⟩
    · have n0 := nI_pos h2
      have n1 : ¬ nI j ≤ 20 := nI_ge (a := 20) (by omega) h2
      refine br_f n0 (br_f n1 ?_)
      unfold wpY_sow
      exact br_f n0 (br_f n1 ⟨rfl, gd_rl hY hR⟩)
  · have n0 : ¬ nI a < 0 := nI_pos (by omega)
    have n1 : nI a ≤ 20 := nI_le (b := 20) (by omega) (by decide)
    rcases gd_ix v2 21 with hb | ⟨b, hb, rfl⟩
    · rcases hb with hb | ⟨j, h1, h2, rfl⟩
      · refine br_f n0 (br_t n1 (br_t hb ?_))
        unfold wpY_sow
        exact br_f n0 (br_t n1 (br_t hb ⟨rfl, gd_rl hY hR⟩))
      · have m0 := nI_pos h2
        have m1 : ¬ nI j ≤ 20 := nI_ge (a := 20) (by omega) h2
        refine br_f n0 (br_t n1 (br_f m0 (br_f m1 ?_)))
        unfold wpY_sow
        exact br_f n0 (br_t n1 (br_f m0 (br_f m1 ⟨rfl, gd_rl hY hR⟩)))
    · have m0 : ¬ nI b < 0 := nI_pos (by omega)
      have m1 : nI b ≤ 20 := nI_le (b := 20) (by omega) (by decide)
      refine br_f n0 (br_t n1 (br_f m0 (br_t m1 ⟨18, ?_⟩)))
      have hX := gx_sl (c := c) (z := z) (post := fun r u' => wpY_sow (fun r' v' => r' = r ∧ i_Rel (k + 3) u' v') (c, z, o, t) (nI a) (nI b)) ha hb ?_ 17 0 rfl
      · rw [gd_s0] at hX
        exact hX
      · show wpY_sow _ _ _ _
        unfold wpY_sow
        refine br_f n0 (br_t n1 (br_f m0 (br_t m1 ⟨18, ?_⟩)))
        have hZ := gy_sl (c := c) (z := z) (o := o) (t := t) (post := fun r' v' => r' = gd_ss a b 17 ∧ i_Rel (k + 3) (gd_sa c a b 17, z) v') ha hb ⟨rfl, gd_rl hY (gd_sR hR a b)⟩ 17 0 rfl
        rw [gd_s0] at hZ
        exact hZ
theorem i_vc_close {k : Nat} {u : SX} {v : SY} (I : i_Rel k u v) (hk : k + 3 ≤ 1536) (v1 : Int32) (v2 : Int32) : wpX_close (fun r u' => wpY_close (fun r' v' => r' = r ∧ i_Rel (k + 3) u' v') v v1 v2) u v1 v2 := by
  obtain ⟨c, z, o, t, rfl, rfl, hY, hR⟩ := I
  unfold wpX_close
  rcases gd_ix v1 17 with hb | ⟨s, hs, rfl⟩
  · refine gx_st0 hb (br_t rfl ?_)
    unfold wpY_close
    exact gy_bs1 hb (br_f gd_10 ⟨rfl, gd_rl hY hR⟩)
  · have hi : vp_in (nI s) 17 := vp_in_nI hs (by decide)
    have r0 : i_Rel (k + 3) (c, upd z (nI s).toNatClampNeg (vp_nar .boolean 0)) (c, upd z (nI s).toNatClampNeg (vp_nar .boolean 0), o, t) := gd_rl hY (gd_R_z hR _ (Or.inl gd_nb0))
    have r1 : i_Rel (k + 3) (c, upd z (nI s).toNatClampNeg (vp_nar .boolean 1)) (c, upd z (nI s).toNatClampNeg (vp_nar .boolean 1), o, t) := gd_rl hY (gd_R_z hR _ (Or.inr gd_nb1))
    refine gx_st hs (br_f gd_10 ⟨hi, br_c (fun e => br_c (fun g => ⟨hi, nm_e ?_⟩) (fun g => ⟨hi, nm_e ?_⟩)) (fun e => br_c (fun g => ⟨hi, nm_e ?_⟩) (fun g => ⟨hi, nm_e ?_⟩))⟩)
    · unfold wpY_close
      exact gy_bs hs (br_t rfl ⟨hi, br_t e (br_t g ⟨hi, nm_e ⟨rfl, r0⟩⟩)⟩)
    · unfold wpY_close
      exact gy_bs hs (br_t rfl ⟨hi, br_t e (br_f g ⟨hi, nm_e ⟨rfl, r1⟩⟩)⟩)
    · unfold wpY_close
      exact gy_bs hs (br_t rfl ⟨hi, br_f e (br_t g ⟨hi, nm_e ⟨rfl, r0⟩⟩)⟩)
    · unfold wpY_close
      exact gy_bs hs (br_t rfl ⟨hi, br_f e (br_f g ⟨hi, nm_e ⟨rfl, r1⟩⟩)⟩)
theorem i_vc_capacity {k : Nat} {u : SX} {v : SY} (I : i_Rel k u v) (hk : k + 3 ≤ 1536) (v1 : Int32) : wpX_capacity (fun r => wpY_capacity (fun r' => r' = r ∧ i_Rel (k + 3) u v) v v1) u v1 := by
  obtain ⟨c, z, o, t, rfl, rfl, hY, hR⟩ := I
  unfold wpX_capacity
  rcases gd_ix v1 17 with hb | ⟨s, hs, rfl⟩
  · refine gx_st0 hb (br_t rfl ?_)
    unfold wpY_capacity
    exact gy_bs1 hb (br_f gd_10 ⟨rfl, gd_rl hY hR⟩)
  · have hi : vp_in (nI s) 17 := vp_in_nI hs (by decide)
    refine gx_st hs (br_f gd_10 ⟨hi, ?_⟩)
    unfold wpY_capacity
    exact gy_bs hs (br_t rfl ⟨hi, rfl, gd_rl hY hR⟩)
theorem i_vc_between {k : Nat} {u : SX} {v : SY} (I : i_Rel k u v) (hk : k + 3 ≤ 1536) (v1 : Int32) (v2 : Int32) : wpX_between (fun r => wpY_between (fun r' => r' = r ∧ i_Rel (k + 3) u v) v v1 v2) u v1 v2 := by
  obtain ⟨c, z, o, t, rfl, rfl, hY, hR⟩ := I
  unfold wpX_between
  rcases gd_ix v1 12 with h1 | ⟨a, ha, rfl⟩
  · refine gx_cg0 h1 (br_t rfl ?_)
    unfold wpY_between
    exact gy_b1 h1 (br_f gd_10 ⟨rfl, gd_rl hY hR⟩)
  · rcases gd_ix v2 12 with h1 | ⟨b, hb, rfl⟩
    · refine gx_cg ha (br_f gd_10 (gx_cg0 h1 (br_t rfl ?_)))
      unfold wpY_between
      exact gy_b ha (br_t rfl (gy_b1 h1 (br_f gd_10 ⟨rfl, gd_rl hY hR⟩)))
    · have e : ((1 : Int32) <<< (nI a &&& 31)) ||| ((1 : Int32) <<< (nI b &&& 31)) = nI (2 ^ a ||| 2 ^ b) := by
        rw [gd_shl (by omega), gd_shl (by omega), gd_or]
      refine gx_cg ha (br_f gd_10 (gx_cg hb (br_f gd_10 (nm_r e ⟨18, gx_bl ha hb ?_⟩))))
      unfold wpY_between
      exact gy_b ha (br_t rfl (gy_b hb (br_t rfl ⟨18, gy_bl hY ha hb ⟨rfl, gd_rl hY hR⟩⟩)))
theorem i_vc_flow {k : Nat} {u : SX} {v : SY} (I : i_Rel k u v) (hk : k + 3 ≤ 1536) : wpX_flow (fun r => wpY_flow (fun r' => r' = r ∧ i_Rel (k + 3) u v) v) u := by
  obtain ⟨c, z, o, t, rfl, rfl, hY, hR⟩ := I
  have hf := gd_fo_op hR
  have hw := gd_fo_w hR
  unfold wpX_flow
  refine gx_l0 hf hw ?_
  unfold wpY_flow
  exact gy_l0 hY hf hw ⟨rfl, gd_rl hY hR⟩
theorem i_vc_weight {k : Nat} {u : SX} {v : SY} (I : i_Rel k u v) (hk : k + 3 ≤ 1536) (v1 : Int32) : wpX_weight (fun r => wpY_weight (fun r' => r' = r ∧ i_Rel (k + 3) u v) v v1) u v1 := by
  obtain ⟨c, z, o, t, rfl, rfl, hY, hR⟩ := I
  have hf := gd_fo_op hR
  unfold wpX_weight
  rcases gd_ix v1 4096 with hb | ⟨s, hs, rfl⟩
  · rcases hb with hb | ⟨j, h1, h2, rfl⟩
    · refine br_t hb ?_
      unfold wpY_weight
      exact br_t hb ⟨rfl, gd_rl hY hR⟩
    · have n0 := nI_pos h2
      refine br_f n0 (br_f (nI_nlt (b := 4096) (by omega) h2) ?_)
      unfold wpY_weight
      exact br_f n0 (br_f (nI_ge (a := 4095) (by omega) h2) ⟨rfl, gd_rl hY hR⟩)
  · have n0 : ¬ nI s < 0 := nI_pos (by omega)
    have n1 : nI s < 4096 := nI_lt (b := 4096) hs (by decide)
    have n2 : nI s ≤ 4095 := nI_le (b := 4095) (by omega) (by decide)
    have eb : nI s &&& 1 = 0 ↔ s.testBit 0 = false := by
      have e1 : nI s &&& 1 = nI (s &&& 2 ^ 0) := nx_and s 1
      rw [e1, ← gd_has s 0]
      exact nI_eq (b := 0) (Nat.lt_of_le_of_lt Nat.and_le_left (by omega)) (by decide)
    have e11 : s.testBit 11 = true ↔ 2047 < s := by
      rw [Nat.testBit_eq_decide_div_mod_eq, decide_eq_true_iff]
      omega
    refine br_f n0 (br_t n1 (gx_has (k := 0) (by omega) (by omega) (fun g => ?_) (fun g => ?_)))
    · have g' : ¬ nI s &&& 1 = 0 := by
        rw [eb, g]
        decide
      refine br_f gd_10 (gx_has (k := 11) (by omega) (by omega) (fun q => ?_) (fun q => ?_))
      · refine br_f gd_10 ?_
        have q' := e11.mp q
        unfold wpY_weight
        exact br_f n0 (br_t n2 (br_f g' (br_f (nI_ge (a := 2047) q' (by omega)) ⟨rfl, gd_rl hY hR⟩)))
      · refine br_t rfl (gx_w hf hs ?_)
        have q' : ¬ 2047 < s := fun y => absurd (e11.mpr y) (by rw [q]; decide)
        unfold wpY_weight
        exact br_f n0 (br_t n2 (br_f g' (br_t (nI_le (b := 2047) (by omega) (by decide)) (gy_w hY hf hs ⟨rfl, gd_rl hY hR⟩))))
    · refine br_t rfl ?_
      unfold wpY_weight
      exact br_f n0 (br_t n2 (br_t (eb.mpr g) ⟨rfl, gd_rl hY hR⟩))
