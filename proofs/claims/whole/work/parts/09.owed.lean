/-! what is owed: the cuts, loss, gain, way -/
theorem i_vc_firstCut {k : Nat} {u : SX} {v : SY} (I : i_Rel k u v) (hk : k + 3 ≤ 1536) : wpX_firstCut (fun r => wpY_firstCut (fun r' => r' = r ∧ i_Rel (k + 3) u v) v) u := by
  obtain ⟨c, z, o, t, rfl, rfl, hY, hR⟩ := I
  have hf := gd_fo_op hR
  have hw := gd_fo_w hR
  unfold wpX_firstCut
  refine gx_l0 hf hw (gx_a hf (gd_mnT hw) hw ?_)
  unfold wpY_firstCut
  exact gy_a hY hf hw ⟨rfl, gd_rl hY hR⟩
theorem i_vc_lastCut {k : Nat} {u : SX} {v : SY} (I : i_Rel k u v) (hk : k + 3 ≤ 1536) : wpX_lastCut (fun r => wpY_lastCut (fun r' => r' = r ∧ i_Rel (k + 3) u v) v) u := by
  obtain ⟨c, z, o, t, rfl, rfl, hY, hR⟩ := I
  have hf := gd_fo_op hR
  have hw := gd_fo_w hR
  have hm := gd_mnT hw
  obtain ⟨i, hi, _, he⟩ := gd_mn_at (fun cut => gd_W (gd_fo c z) cut 17) (fun _ => true) 1024 hm
  have eu := gd_un_e (fun cut => gd_W (gd_fo c z) cut 17) _ 1024 i hi he
  unfold wpX_lastCut
  refine gx_l0 hf hw ⟨1025, gx_ul hf hm hw ?_ 1024 0 rfl⟩
  unfold wpY_lastCut
  exact gy_l0 hY hf hw ⟨1025, gy_ul hY hf hm hw ⟨congrArg nI eu, gd_rl hY hR⟩ 1024 0 rfl⟩
theorem i_vc_leastWith {k : Nat} {u : SX} {v : SY} (I : i_Rel k u v) (hk : k + 3 ≤ 1536) (v1 : Int32) : wpX_leastWith (fun r => wpY_leastWith (fun r' => r' = r ∧ i_Rel (k + 3) u v) v v1) u v1 := by
  obtain ⟨c, z, o, t, rfl, rfl, hY, hR⟩ := I
  have hf := gd_fo_op hR
  have hw := gd_fo_w hR
  unfold wpX_leastWith
  rcases gd_ix v1 12 with h1 | ⟨a, ha, rfl⟩
  · refine gx_cg0 h1 (br_t rfl ?_)
    unfold wpY_leastWith
    exact gy_b1 h1 (br_f gd_10 ⟨rfl, gd_rl hY hR⟩)
  · refine gx_cg ha (br_f gd_10 (pk_eq a 11 (fun e => ?_) (fun e => ?_)))
    · unfold wpY_leastWith
      exact gy_b ha (br_t rfl (pk_eq a 11 (fun _ => ⟨rfl, gd_rl hY hR⟩) (fun g => absurd e g)))
    · have h2 : (2 : Nat) ^ a < 4096 := (gd_pc_1 a ha).2
      rw [gd_shl (by omega)]
      have hb : (2 * 1023 + 1).testBit a = true := gd_all a (by omega)
      refine gx_l (b := 0) (p := fun cut => cut.testBit a) hf h2 (fun i _ => ⟨fun q => ⟨(gd_has' _ a).mpr q, Nat.and_zero _⟩, fun q => (gd_has' _ a).mp q.1⟩) hw ?_
      unfold wpY_leastWith
      refine gy_b ha (br_t rfl (br_f (fun q => e ((nI_eq (b := 11) (by omega) (by decide)).mp q)) ?_))
      exact gy_l (g := true) (p := fun cut => cut.testBit a) hY hf ha (fun i _ => Iff.rfl) hw ⟨1023, by decide, hb⟩ ⟨rfl, gd_rl hY hR⟩
theorem i_vc_leastWithout {k : Nat} {u : SX} {v : SY} (I : i_Rel k u v) (hk : k + 3 ≤ 1536) (v1 : Int32) : wpX_leastWithout (fun r => wpY_leastWithout (fun r' => r' = r ∧ i_Rel (k + 3) u v) v v1) u v1 := by
  obtain ⟨c, z, o, t, rfl, rfl, hY, hR⟩ := I
  have hf := gd_fo_op hR
  have hw := gd_fo_w hR
  unfold wpX_leastWithout
  rcases gd_ix v1 12 with h1 | ⟨a, ha, rfl⟩
  · refine gx_cg0 h1 (br_t rfl ?_)
    unfold wpY_leastWithout
    exact gy_b1 h1 (br_f gd_10 ⟨rfl, gd_rl hY hR⟩)
  · refine gx_cg ha (br_f gd_10 (pk_eq a 0 (fun e => ?_) (fun e => ?_)))
    · unfold wpY_leastWithout
      exact gy_b ha (br_t rfl (pk_eq a 0 (fun _ => ⟨rfl, gd_rl hY hR⟩) (fun g => absurd e g)))
    · rw [gd_shl (by omega)]
      have hb : (!(2 * 0 + 1).testBit a) = true := gd_one a ha e
      refine gx_l (a := 0) (p := fun cut => !cut.testBit a) hf (by decide) (fun i _ => ⟨fun q => ⟨Nat.and_zero _, (gd_has _ a).mpr (Bool.not_eq_true' _ ▸ q)⟩, fun q => (Bool.not_eq_true' _).mpr ((gd_has _ a).mp q.2)⟩) hw ?_
      unfold wpY_leastWithout
      refine gy_b ha (br_t rfl (br_f (fun q => e ((nI_eq (b := 0) (by omega) (by decide)).mp q)) ?_))
      exact gy_l (g := false) (p := fun cut => !cut.testBit a) hY hf ha (fun i _ => by rw [Bool.not_eq_true']) hw ⟨0, by decide, hb⟩ ⟨rfl, gd_rl hY hR⟩
theorem i_vc_loss {k : Nat} {u : SX} {v : SY} (I : i_Rel k u v) (hk : k + 3 ≤ 1536) (v1 : Int32) : wpX_loss (fun r => wpY_loss (fun r' v' => r' = r ∧ i_Rel (k + 3) u v') v v1) u v1 := by
  obtain ⟨c, z, o, t, rfl, rfl, hY, hR⟩ := I
  have hf := gd_fo_op hR
  have hw := gd_fo_w hR
  unfold wpX_loss
  rcases gd_ix v1 17 with hb | ⟨s, hs, rfl⟩
  · refine gx_st0 hb (br_t rfl ?_)
    unfold wpY_loss
    exact gy_bs1 hb (br_f gd_10 ⟨rfl, gd_rl hY hR⟩)
  · have hi : vp_in (nI s) 17 := vp_in_nI hs (by decide)
    have hcl : (nI s).toNatClampNeg = s := nI_clamp (by omega)
    have hc := gd_lossW hR hs
    have hw2 : ∀ cut, gd_W (fun q => if q = s then 0 else gd_fo c z q) cut 17 < 1000 := fun cut => (hc cut).2.2
    refine gx_st hs (br_f gd_10 (gx_oc hf hs (gx_l0 hf hw (gx_g hf hs hc ?_))))
    unfold wpY_loss
    refine gy_bs hs (br_t rfl (gy_l0 hY hf hw ⟨hi, nm_e ⟨hi, nm_e ?_⟩⟩))
    rw [hcl, gd_nb1]
    refine gy_l0 hY (gd_lossF hR s) hw2 ⟨hi, nm_e ⟨rfl, ?_⟩⟩
    rw [gd_back hR hs]
    exact gd_rl hY hR
theorem i_vc_gain {k : Nat} {u : SX} {v : SY} (I : i_Rel k u v) (hk : k + 3 ≤ 1536) (v1 : Int32) (v2 : Int32) : wpX_gain (fun r => wpY_gain (fun r' v' => r' = r ∧ i_Rel (k + 3) u v') v v1 v2) u v1 v2 := by
  obtain ⟨c, z, o, t, rfl, rfl, hY, hR⟩ := I
  have hf := gd_fo_op hR
  have hw := gd_fo_w hR
  unfold wpX_gain
  rcases gd_ix v1 17 with hb | ⟨s, hs, rfl⟩
  · refine gx_st0 hb (br_t rfl ?_)
    unfold wpY_gain
    exact gy_bs1 hb (br_f gd_10 ⟨rfl, gd_rl hY hR⟩)
  · have hi : vp_in (nI s) 17 := vp_in_nI hs (by decide)
    have hcl : (nI s).toNatClampNeg = s := nI_clamp (by omega)
    refine gx_st hs (br_f gd_10 ?_)
    rcases gd_ix v2 101 with hb | ⟨j, hj, rfl⟩
    · rcases hb with hb | ⟨j, h1, h2, rfl⟩
      · refine br_t hb ?_
        unfold wpY_gain
        exact gy_bs hs (br_t rfl (br_t hb ⟨rfl, gd_rl hY hR⟩))
      · have n0 := nI_pos h2
        have n1 : ¬ nI j ≤ 100 := nI_ge (a := 100) (by omega) h2
        refine br_f n0 (br_f n1 ?_)
        unfold wpY_gain
        exact gy_bs hs (br_t rfl (br_f n0 (br_f n1 ⟨rfl, gd_rl hY hR⟩)))
    · have n0 : ¬ nI j < 0 := nI_pos (by omega)
      have n1 : nI j ≤ 100 := nI_le (b := 100) (by omega) (by decide)
      refine br_f n0 (br_t n1 ⟨hi, br_c (fun e => ?_) (fun e => ?_)⟩)
      · rw [hcl] at e
        have hc := gd_gainW hR hs (j := j) (by omega)
        have hw2 : ∀ cut, gd_W (fun q => if q = s then gd_fo c z s + j else gd_fo c z q) cut 17 < 1000 := fun cut => (hc cut).2.2
        refine gx_g hf hs hc (gx_l0 hf hw ?_)
        unfold wpY_gain
        refine gy_bs hs (br_t rfl (br_f n0 (br_t n1 (gy_l0 hY hf hw ⟨hi, hi, nm_e ?_⟩))))
        rw [hcl]
        refine gy_l0 hY (gd_gainF hR hs e (by omega)) hw2 ⟨hi, hi, nm_e ⟨rfl, ?_⟩⟩
        rw [gd_back2]
        exact gd_rl hY hR
      · rw [hcl] at e
        unfold wpY_gain
        refine gy_bs hs (br_t rfl (br_f n0 (br_t n1 (gy_l0 hY hf hw ⟨hi, hi, nm_e ?_⟩))))
        rw [hcl]
        refine gy_l0 hY (gd_gainN hR e) hw ⟨hi, hi, nm_e ⟨Int32.sub_self _, ?_⟩⟩
        rw [gd_back2]
        exact gd_rl hY hR
theorem i_vc_way {k : Nat} {u : SX} {v : SY} (I : i_Rel k u v) (hk : k + 3 ≤ 1536) (v1 : Int32) (v2 : Int32) : wpX_way (fun r => wpY_way (fun r' => r' = r ∧ i_Rel (k + 3) u v) v v1 v2) u v1 v2 := by
  obtain ⟨c, z, o, t, rfl, rfl, hY, hR⟩ := I
  have hf := gd_fo_op hR
  unfold wpX_way
  rcases gd_ix v1 12 with h1 | ⟨a, ha, rfl⟩
  · refine gx_cg0 h1 (br_t rfl ?_)
    unfold wpY_way
    exact gy_b1 h1 (br_f gd_10 ⟨rfl, gd_rl hY hR⟩)
  · rcases gd_ix v2 12 with h1 | ⟨b, hb, rfl⟩
    · refine gx_cg ha (br_f gd_10 (gx_cg0 h1 (br_t rfl ?_)))
      unfold wpY_way
      exact gy_b ha (br_t rfl (gy_b1 h1 (br_f gd_10 ⟨rfl, gd_rl hY hR⟩)))
    · have e : (1 : Int32) <<< (nI a &&& 31) = nI (2 ^ a) := gd_shl (by omega)
      refine gx_cg ha (br_f gd_10 (gx_cg hb (br_f gd_10 (nm_r e ⟨12, gx_yl hf ha hb ?_ 11 0 rfl⟩))))
      unfold wpY_way
      refine gy_b ha (br_t rfl (gy_b hb (br_t rfl (nm_r e ⟨13, gy_yl hY hf ha hb ⟨?_, gd_rl hY hR⟩ 12 0 rfl⟩))))
      rw [gd_way _ ha]
theorem i_vc_cutStreets {k : Nat} {u : SX} {v : SY} (I : i_Rel k u v) (hk : k + 3 ≤ 1536) : wpX_cutStreets (fun r => wpY_cutStreets (fun r' => r' = r ∧ i_Rel (k + 3) u v) v) u := by
  obtain ⟨c, z, o, t, rfl, rfl, hY, hR⟩ := I
  have hf := gd_fo_op hR
  have hw := gd_fo_w hR
  have hm := gd_mnT hw
  have hS : gd_an (fun cut => gd_W (gd_fo c z) cut 17) (gd_mn (fun cut => gd_W (gd_fo c z) cut 17) (fun _ => true) 1024) 1024 < 4096 := Nat.lt_of_le_of_lt (gd_an_le _ _ _) (by decide)
  unfold wpX_cutStreets
  refine gx_l0 hf hw (gx_a hf hm hw ⟨18, gx_kl hf hS ?_ 17 0 rfl⟩)
  unfold wpY_cutStreets
  exact gy_a hY hf hw ⟨18, gy_kl hY hf hS ⟨rfl, gd_rl hY hR⟩ 17 0 rfl⟩
