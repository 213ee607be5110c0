/-! the reference's walks against the pure picture -/
def gd_Y (o t : Nat → Int32) : Prop := ∀ s, s < 17 → o s = nI (gd_o s) ∧ t s = nI (gd_t s)
theorem gy_bs {post : Int32 → Prop} {v : SY} {s : Nat} (hs : s < 17) (h : post 0) : wpY_badStreet post v (nI s) :=
  br_f (nI_pos (by omega)) (br_t (nI_le (b := 16) (by omega) (by decide)) h)
theorem gy_bs1 {post : Int32 → Prop} {v : SY} {p : Int32} (hb : p < 0 ∨ ∃ j, 17 ≤ j ∧ j < 2 ^ 31 ∧ p = nI j) (h : post 1) : wpY_badStreet post v p := by
  rcases hb with hb | ⟨j, h1, h2, rfl⟩
  · exact br_t hb h
  · exact br_f (nI_pos h2) (br_f (nI_ge (a := 16) (by omega) h2) h)
theorem gy_b {post : Int32 → Prop} {v : SY} {s : Nat} (hs : s < 12) (h : post 0) : wpY_bad post v (nI s) :=
  br_f (nI_pos (by omega)) (br_t (nI_le (b := 11) (by omega) (by decide)) h)
theorem gy_b1 {post : Int32 → Prop} {v : SY} {p : Int32} (hb : p < 0 ∨ ∃ j, 12 ≤ j ∧ j < 2 ^ 31 ∧ p = nI j) (h : post 1) : wpY_bad post v p := by
  rcases hb with hb | ⟨j, h1, h2, rfl⟩
  · exact br_t hb h
  · exact br_f (nI_pos h2) (br_f (nI_ge (a := 11) (by omega) h2) h)
theorem gy_oc {post : Int32 → Prop} {c z o t : Nat → Int32} {f : Nat → Nat} (hf : gd_op c z f) {s : Nat} (hs : s < 17) (h : post (nI (f s))) : wpY_open post (c, z, o, t) (nI s) := by
  have hi : vp_in (nI s) 17 := vp_in_nI hs (by omega)
  have hcl : (nI s).toNatClampNeg = s := nI_clamp (by omega)
  have hs' := hf s hs
  refine ⟨hi, br_c (fun e => ⟨hi, ?_⟩) (fun e => ?_)⟩
  · rw [hcl] at e ⊢
    rw [hs'.1 e]
    exact h
  · rw [hcl] at e
    rw [hs'.2.1 e] at h
    exact h
theorem gy_c {o t : Nat → Int32} (hY : gd_Y o t) {s cut : Nat} (hs : s < 17) (hc : cut < 4096) : ((nI cut >>> ((o (nI s).toNatClampNeg) &&& 31)) &&& 1) = ((nI cut >>> ((t (nI s).toNatClampNeg) &&& 31)) &&& 1) ↔ ¬ gd_c s cut = true := by
  have ho := gd_ot s hs
  rw [nI_clamp (by omega), (hY s hs).1, (hY s hs).2, gd_bit (by omega) (by omega), gd_bit (by omega) (by omega), gd_beq, Bool.not_eq_true]
  exact Iff.rfl
theorem gy_wl {post : Int32 → Prop} {c z o t : Nat → Int32} (hY : gd_Y o t) {f : Nat → Nat} (hf : gd_op c z f) {cut : Nat} (hc : cut < 4096) (h : post (nI (gd_W f cut 17))) : ∀ d i, i + d = 17 → wY_weigh_4 post (nI cut) c z o t (d + 1) (nI (gd_W f cut i)) (nI i) := by
  intro d
  induction d with
  | zero =>
    intro i hi
    have e : i = 17 := by omega
    subst e
    exact br_t (nI_le (a := 17) (Nat.le_refl _) (by omega)) h
  | succ d ih =>
    intro i hi
    have h3 := ih (i + 1) (by omega)
    have hin : vp_in (nI i) 17 := vp_in_nI (by omega) (by decide)
    refine br_f (nI_ge (b := 17) (by omega) (by decide)) ⟨hin, hin, gd_if (gy_c hY (by omega) hc) (fun e => ?_) (fun e => ?_)⟩
    · rw [show gd_W f cut (i + 1) = gd_W f cut i from by simp [gd_W, e]] at h3
      exact nm_r (nI_1 _) h3
    · have e' : gd_c i cut = true := Classical.not_not.mp e
      refine gy_oc hf (by omega) ?_
      rw [show gd_W f cut (i + 1) = gd_W f cut i + f i from by simp [gd_W, e']] at h3
      exact nm_r (nI_add _ _) (nm_r (nI_1 _) h3)
theorem gy_w {post : Int32 → Prop} {c z o t : Nat → Int32} (hY : gd_Y o t) {f : Nat → Nat} (hf : gd_op c z f) {cut : Nat} (hc : cut < 4096) (h : post (nI (gd_W f cut 17))) : wpY_weigh post (c, z, o, t) (nI cut) :=
  ⟨18, gy_wl hY hf hc h 17 0 rfl⟩
theorem gd_bs (a b : Bool) : nI a.toNat = nI b.toNat ↔ a = b := by
  cases a <;> cases b <;> decide
theorem gd_fdn {m : Nat} (h : m < 1000) : gd_fd m = nI m := if_neg (by omega)
theorem gy_ll {post : Int32 → Prop} {c z o t : Nat → Int32} (hY : gd_Y o t) {f : Nat → Nat} (hf : gd_op c z f) {k : Nat} (hk : k < 12) {g : Bool} {p : Nat → Bool} (hp : ∀ i, i < 1024 → (p (2 * i + 1) = true ↔ (2 * i + 1).testBit k = g)) (hw : ∀ cut, gd_W f cut 17 < 1000) (h : post (gd_fd (gd_mn (fun cut => gd_W f cut 17) p 1024))) : ∀ d i, i + d = 1024 → wY_least_5 post (nI k) (nI g.toNat) c z o t (d + 1) (gd_fd (gd_mn (fun cut => gd_W f cut 17) p i)) (nI (2 * i + 1)) := by
  intro d
  induction d with
  | zero =>
    intro i hi
    have e : i = 1024 := by omega
    subst e
    exact br_t (nI_le (a := 2048) (by omega) (by omega)) h
  | succ d ih =>
    intro i hi
    have h3 := ih (i + 1) (by omega)
    have hpi := hp i (by omega)
    have hml := gd_mn_le (fun cut => gd_W f cut 17) p i
    have hwi := hw (2 * i + 1)
    have hb : ((nI (2 * i + 1) >>> (nI k &&& 31)) &&& 1) = nI g.toNat ↔ p (2 * i + 1) = true := by
      rw [gd_bit (by omega) (by omega), gd_bs]
      exact hpi.symm
    refine br_f (nI_ge (b := 2048) (by omega) (by decide)) (gd_if hb (fun e => ?_) (fun e => ?_))
    · refine gy_w hY hf (by omega) (gd_if (gd_fd0 hml) (fun e2 => ?_) (fun e2 => ?_))
      · rw [gd_m2 e (show gd_W f (2 * i + 1) 17 < _ by omega), gd_fdn hwi] at h3
        exact nm_r (gd_n2 i) h3
      · have e3 : gd_fd (gd_mn (fun cut => gd_W f cut 17) p i) = nI (gd_mn (fun cut => gd_W f cut 17) p i) := gd_fdn (by omega)
        refine pk_le (gd_mn (fun cut => gd_W f cut 17) p i) (gd_W f (2 * i + 1) 17) (fun q => ?_) (fun q => ?_) e3
        · rw [gd_m1 e q] at h3
          exact nm_r (gd_n2 i) h3
        · rw [gd_m2 e q, gd_fdn hwi] at h3
          exact nm_r (gd_n2 i) h3
    · rw [gd_m0 e] at h3
      exact nm_r (gd_n2 i) h3
theorem gd_fd1 (w : Nat → Nat) (p : Nat → Bool) : gd_fd (gd_mn w p 0) = -1 := by simp [gd_mn, gd_fd]
theorem gy_l {post : Int32 → Prop} {c z o t : Nat → Int32} (hY : gd_Y o t) {f : Nat → Nat} (hf : gd_op c z f) {k : Nat} (hk : k < 12) {g : Bool} {p : Nat → Bool} (hp : ∀ i, i < 1024 → (p (2 * i + 1) = true ↔ (2 * i + 1).testBit k = g)) (hw : ∀ cut, gd_W f cut 17 < 1000) (hx : ∃ i, i < 1024 ∧ p (2 * i + 1) = true) (h : post (nI (gd_mn (fun cut => gd_W f cut 17) p 1024))) : wpY_least post (c, z, o, t) (nI k) (nI g.toNat) := by
  obtain ⟨i, hi, hpi⟩ := hx
  have h1 := gd_mn_lb (fun cut => gd_W f cut 17) p 1024 i hi hpi
  have h2 : gd_mn (fun cut => gd_W f cut 17) p 1024 < 1000 := Nat.lt_of_le_of_lt h1 (hw _)
  have h3 := gy_ll hY hf hk hp hw (post := post) (by rw [gd_fdn h2]; exact h) 1024 0 rfl
  rw [gd_fd1] at h3
  exact ⟨1025, h3⟩
theorem gy_l0 {post : Int32 → Prop} {c z o t : Nat → Int32} (hY : gd_Y o t) {f : Nat → Nat} (hf : gd_op c z f) (hw : ∀ cut, gd_W f cut 17 < 1000) (h : post (nI (gd_mn (fun cut => gd_W f cut 17) (fun _ => true) 1024))) : wpY_least post (c, z, o, t) 0 1 := by
  have h2 := gy_l (k := 0) (g := true) (p := fun _ => true) hY hf (by decide) (fun i _ => ⟨fun _ => gd_odd i, fun _ => rfl⟩) hw ⟨0, by decide, rfl⟩ h
  exact h2
theorem gy_al {post : Int32 → Prop} {c z o t : Nat → Int32} (hY : gd_Y o t) {f : Nat → Nat} (hf : gd_op c z f) {m : Nat} (hm : m < 1000) (hw : ∀ cut, gd_W f cut 17 < 1000) (h : post (nI (gd_an (fun cut => gd_W f cut 17) m 1024))) : ∀ d i, i + d = 1024 → wY_first_13 post (nI m) c z o t (d + 1) (nI (gd_an (fun cut => gd_W f cut 17) m i)) (nI (2 * i + 1)) := by
  intro d
  induction d with
  | zero =>
    intro i hi
    have e : i = 1024 := by omega
    subst e
    exact br_t (nI_le (a := 2048) (by omega) (by omega)) h
  | succ d ih =>
    intro i hi
    have h3 := ih (i + 1) (by omega)
    have hwi := hw (2 * i + 1)
    refine br_f (nI_ge (b := 2048) (by omega) (by decide)) ?_
    refine gy_w hY hf (by omega) ?_
    refine pk_eq (gd_W f (2 * i + 1) 17) m (fun e => ?_) (fun e => ?_)
    · simp only [gd_an, if_pos e] at h3
      exact nm_r (nx_and _ _) (nm_r (gd_n2 i) h3)
    · simp only [gd_an, if_neg e] at h3
      exact nm_r (gd_n2 i) h3
theorem gd_mnT {w : Nat → Nat} (hw : ∀ cut, w cut < 1000) : gd_mn w (fun _ => true) 1024 < 1000 :=
  Nat.lt_of_le_of_lt (gd_mn_lb w (fun _ => true) 1024 0 (by decide) rfl) (hw _)
theorem gy_a {post : Int32 → Prop} {c z o t : Nat → Int32} (hY : gd_Y o t) {f : Nat → Nat} (hf : gd_op c z f) (hw : ∀ cut, gd_W f cut 17 < 1000) (h : post (nI (gd_an (fun cut => gd_W f cut 17) (gd_mn (fun cut => gd_W f cut 17) (fun _ => true) 1024) 1024))) : wpY_first post (c, z, o, t) := by
  unfold wpY_first
  exact gy_l0 hY hf hw ⟨1025, gy_al hY hf (gd_mnT hw) hw h 1024 0 rfl⟩
theorem gy_ul {post : Int32 → Prop} {c z o t : Nat → Int32} (hY : gd_Y o t) {f : Nat → Nat} (hf : gd_op c z f) {m : Nat} (hm : m < 1000) (hw : ∀ cut, gd_W f cut 17 < 1000) (h : post (nI (gd_un (fun cut => gd_W f cut 17) m 1 1024))) : ∀ d i, i + d = 1024 → wY_lastCut_11 post (nI m) c z o t (d + 1) (nI (gd_un (fun cut => gd_W f cut 17) m 1 i)) (nI (2 * i + 1)) := by
  intro d
  induction d with
  | zero =>
    intro i hi
    have e : i = 1024 := by omega
    subst e
    exact br_t (nI_le (a := 2048) (by omega) (by omega)) h
  | succ d ih =>
    intro i hi
    have h3 := ih (i + 1) (by omega)
    have hwi := hw (2 * i + 1)
    refine br_f (nI_ge (b := 2048) (by omega) (by decide)) ?_
    refine gy_w hY hf (by omega) ?_
    refine pk_eq (gd_W f (2 * i + 1) 17) m (fun e => ?_) (fun e => ?_)
    · simp only [gd_un, if_pos e] at h3
      exact nm_r (gd_or _ _) (nm_r (gd_n2 i) h3)
    · simp only [gd_un, if_neg e] at h3
      exact nm_r (gd_n2 i) h3
theorem gy_E {o t : Nat → Int32} (hY : gd_Y o t) {s : Nat} (hs : s < 17) : ((1 : Int32) <<< ((o (nI s).toNatClampNeg) &&& 31)) ||| ((1 : Int32) <<< ((t (nI s).toNatClampNeg) &&& 31)) = nI (gd_E s) := by
  have ho := gd_ot s hs
  rw [nI_clamp (by omega), (hY s hs).1, (hY s hs).2, gd_shl (by omega), gd_shl (by omega), gd_or]
  rfl
theorem gy_nl {post : Int32 → Prop} {J : Int32 → Int32 → Prop} {c z o t : Nat → Int32} (hY : gd_Y o t) {f : Nat → Nat} (hf : gd_op c z f) {x2 : Int32} {r S : Nat} (hS : S < 4096) (h : J (nI (gd_ib f S 17)) (nI (r + 1))) : ∀ d i, i + d = 17 → wY_way_35 post J x2 (nI r) c z o t (d + 1) (nI (gd_ib f S i)) (nI i) := by
  intro d
  induction d with
  | zero =>
    intro i hi
    have e : i = 17 := by omega
    subst e
    exact br_t (nI_le (a := 17) (Nat.le_refl _) (by omega)) (nm_r (nI_1 _) h)
  | succ d ih =>
    intro i hi
    have h3 := ih (i + 1) (by omega)
    have hfi := (hf i (by omega)).2.2
    have hlt := gd_ib_lt f S hS i (by omega)
    have hin : vp_in (nI i) 17 := vp_in_nI (by omega) (by decide)
    refine br_f (nI_ge (b := 17) (by omega) (by decide)) ⟨hin, hin, nm_r (gy_E hY (by omega)) ?_⟩
    refine gy_oc hf (by omega) ?_
    refine pk_le (f i) 0 (fun g => ?_) (fun g => ?_)
    · rw [show gd_ib f S (i + 1) = gd_ib f S i from by simp only [gd_ib]; rw [if_neg (fun z => absurd z.1 (by omega))]] at h3
      exact nm_r (nI_1 _) h3
    · refine pk_eq (gd_ib f S i &&& gd_E i) 0 (fun e => ?_) (fun e => ?_) (nx_and _ _) rfl (Nat.lt_of_le_of_lt Nat.and_le_left (by omega)) (by omega)
      · rw [show gd_ib f S (i + 1) = gd_ib f S i from by simp only [gd_ib]; rw [if_neg (fun z => z.2 e)]] at h3
        exact nm_r (nI_1 _) h3
      · rw [show gd_ib f S (i + 1) = gd_ib f S i ||| gd_E i from by simp only [gd_ib]; rw [if_pos ⟨g, e⟩]] at h3
        exact nm_r (gd_or _ _) (nm_r (nI_1 _) h3)
theorem gy_yl {post : Int32 → Prop} {c z o t : Nat → Int32} (hY : gd_Y o t) {f : Nat → Nat} (hf : gd_op c z f) {a b : Nat} (ha : a < 12) (hb : b < 12) (h : post (nI ((gd_it (fun S => gd_ib f S 17) (2 ^ a) 12).testBit b).toNat)) : ∀ d i, i + d = 12 → wY_way_25 post (nI b) c z o t (d + 1) (nI (gd_it (fun S => gd_ib f S 17) (2 ^ a) i)) (nI i) := by
  have hlt : ∀ i, gd_it (fun S => gd_ib f S 17) (2 ^ a) i < 4096 := gd_it_lt _ _ (gd_pc_1 a ha).2 (fun S hS => gd_ib_lt f S hS 17 (Nat.le_refl _))
  intro d
  induction d with
  | zero =>
    intro i hi
    have e : i = 12 := by omega
    subst e
    refine br_t (nI_le (a := 12) (Nat.le_refl _) (by omega)) ?_
    have h4 := hlt 12
    rw [gd_bit (by omega) (by omega)]
    exact h
  | succ d ih =>
    intro i hi
    refine br_f (nI_ge (b := 12) (by omega) (by decide)) ?_
    exact ⟨18, gy_nl hY hf (hlt i) (ih (i + 1) (by omega)) 17 0 rfl⟩
theorem gy_kl {post : Int32 → Prop} {c z o t : Nat → Int32} (hY : gd_Y o t) {f : Nat → Nat} (hf : gd_op c z f) {S : Nat} (hS : S < 4096) (h : post (nI (gd_ct f S 17))) : ∀ d i, i + d = 17 → wY_cutStreets_9 post (nI S) c z o t (d + 1) (nI (gd_ct f S i)) (nI i) := by
  intro d
  induction d with
  | zero =>
    intro i hi
    have e : i = 17 := by omega
    subst e
    exact br_t (nI_le (a := 17) (Nat.le_refl _) (by omega)) h
  | succ d ih =>
    intro i hi
    have h3 := ih (i + 1) (by omega)
    have hfi := (hf i (by omega)).2.2
    have hin : vp_in (nI i) 17 := vp_in_nI (by omega) (by decide)
    refine br_f (nI_ge (b := 17) (by omega) (by decide)) ⟨hin, hin, gd_if (gy_c hY (by omega) hS) (fun e => ?_) (fun e => ?_)⟩
    · rw [show gd_ct f S (i + 1) = gd_ct f S i from by simp only [gd_ct]; rw [if_neg (fun z => e z.1)]] at h3
      exact nm_r (nI_1 _) h3
    · have e' : gd_c i S = true := Classical.not_not.mp e
      refine gy_oc hf (by omega) ?_
      refine pk_le (f i) 0 (fun g => ?_) (fun g => ?_)
      · rw [show gd_ct f S (i + 1) = gd_ct f S i from by simp only [gd_ct]; rw [if_neg (fun z => absurd z.2 (by omega))]] at h3
        exact nm_r (nI_1 _) h3
      · rw [show gd_ct f S (i + 1) = gd_ct f S i + 1 from by simp only [gd_ct]; rw [if_pos ⟨e', g⟩]] at h3
        exact nm_r (nI_1 _) (nm_r (nI_1 _) h3)
/-! the reference's constructor -/
theorem gd_i2 : ∀ s, s < 17 → 9 ≤ s → nI s - 9 = nI (gd_o s) ∧ nI s - 5 = nI (gd_t s) := by decide +kernel
theorem gd_i1 : ∀ s, s < 17 → s < 9 → (4 * (nI s / 3)) + (nI s - nI s / 3 * 3) = nI (gd_o s) ∧ nI (gd_o s) + 1 = nI (gd_t s) := by decide +kernel
theorem gd_uY {o t : Nat → Int32} {i : Nat} {x y : Int32} (h : ∀ j, j < i → o j = nI (gd_o j) ∧ t j = nI (gd_t j)) (hx : x = nI (gd_o i)) (hy : y = nI (gd_t i)) : ∀ j, j < i + 1 → upd o i x j = nI (gd_o j) ∧ upd t i y j = nI (gd_t j) := by
  intro j hj
  by_cases e : j = i
  · subst e
    rw [pk_us, pk_us]
    exact ⟨hx, hy⟩
  · rw [pk_un e, pk_un e]
    exact h j (by omega)
theorem gy_i82 {post : SY → Prop} {c z : Nat → Int32} (h : ∀ o t, gd_Y o t → post (c, z, o, t)) : ∀ d i, i + d = 17 → 9 ≤ i → ∀ o t : Nat → Int32, (∀ j, j < i → o j = nI (gd_o j) ∧ t j = nI (gd_t j)) → wY_init_82 post (d + 1) (nI i) c z o t := by
  intro d
  induction d with
  | zero =>
    intro i hi h9 o t hI
    have e : i = 17 := by omega
    subst e
    exact br_t (nI_le (a := 17) (Nat.le_refl _) (by omega)) (h o t hI)
  | succ d ih =>
    intro i hi h9 o t hI
    have hin : vp_in (nI i) 17 := vp_in_nI (by omega) (by decide)
    have hcl : (nI i).toNatClampNeg = i := nI_clamp (by omega)
    have hv := gd_i2 i (by omega) h9
    refine br_f (nI_ge (b := 17) (by omega) (by decide)) ⟨hin, nm_e ⟨hin, nm_e (nm_r (nI_1 _) ?_)⟩⟩
    rw [hcl]
    exact ih (i + 1) (by omega) (by omega) _ _ (gd_uY hI hv.1 hv.2)
theorem gy_i38 {post : SY → Prop} {c z : Nat → Int32} (h : ∀ o t, gd_Y o t → post (c, z, o, t)) : ∀ d i, i + d = 9 → ∀ o t : Nat → Int32, (∀ j, j < i → o j = nI (gd_o j) ∧ t j = nI (gd_t j)) → wY_init_38 post (d + 1) (nI i) c z o t := by
  intro d
  induction d with
  | zero =>
    intro i hi o t hI
    have e : i = 9 := by omega
    subst e
    exact br_t (nI_le (a := 9) (Nat.le_refl _) (by omega)) ⟨9, gy_i82 h 8 9 rfl (Nat.le_refl _) o t hI⟩
  | succ d ih =>
    intro i hi o t hI
    have hin : vp_in (nI i) 17 := vp_in_nI (by omega) (by decide)
    have hcl : (nI i).toNatClampNeg = i := nI_clamp (by omega)
    have hv := gd_i1 i (by omega) (by omega)
    refine br_f (nI_ge (b := 9) (by omega) (by decide)) ⟨by decide, by decide, hin, nm_e ⟨hin, hin, nm_e (nm_r (nI_1 _) ?_)⟩⟩
    rw [hcl]
    refine ih (i + 1) (by omega) _ _ (gd_uY hI hv.1 ?_)
    rw [pk_us, hv.1]
    exact hv.2
theorem gy_i {post : SY → Prop} (h : ∀ o t, gd_Y o t → post ((fun _ => 0), (fun _ => 0), o, t)) : wpY_init post :=
  ⟨10, gy_i38 h 9 0 rfl _ _ (fun j hj => absurd hj (by omega))⟩
