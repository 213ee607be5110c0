/-! the component's walks against the pure picture -/
def gd_op (c z : Nat → Int32) (f : Nat → Nat) : Prop := ∀ s, s < 17 → (z s = 0 → c s = nI (f s)) ∧ (¬ z s = 0 → f s = 0) ∧ f s < 1000
theorem gd_ix (x : Int32) (n : Nat) : (x < 0 ∨ ∃ j, n ≤ j ∧ j < 2 ^ 31 ∧ x = nI j) ∨ ∃ j, j < n ∧ x = nI j := by
  by_cases h : x < 0
  · exact Or.inl (Or.inl h)
  · obtain ⟨j, hj, rfl⟩ := nI_of h
    by_cases h2 : j < n
    · exact Or.inr ⟨j, h2, rfl⟩
    · exact Or.inl (Or.inr ⟨j, by omega, hj, rfl⟩)
theorem gd_if {c d A B : Prop} (e : c ↔ d) (f : d → A) (g : ¬ d → B) : (c → A) ∧ (¬ c → B) := ⟨fun h => f (e.mp h), fun h => g (fun z => h (e.mpr z))⟩
theorem gd_10 : ¬ (1 : Int32) = 0 := by decide
theorem gd_n2 (i : Nat) : nI (2 * i + 1) + 2 = nI (2 * (i + 1) + 1) := by
  rw [show 2 * (i + 1) + 1 = 2 * i + 1 + 2 from by omega]
  exact nI_add (2 * i + 1) 2
theorem gd_m0 {w : Nat → Nat} {p : Nat → Bool} {i : Nat} (h : ¬ p (2 * i + 1) = true) : gd_mn w p (i + 1) = gd_mn w p i := by
  simp only [gd_mn]
  rw [if_neg h]
theorem gd_m1 {w : Nat → Nat} {p : Nat → Bool} {i : Nat} (h : p (2 * i + 1) = true) (g : gd_mn w p i ≤ w (2 * i + 1)) : gd_mn w p (i + 1) = gd_mn w p i := by
  simp only [gd_mn]
  rw [if_pos h, if_neg (by omega)]
theorem gd_m2 {w : Nat → Nat} {p : Nat → Bool} {i : Nat} (h : p (2 * i + 1) = true) (g : w (2 * i + 1) < gd_mn w p i) : gd_mn w p (i + 1) = w (2 * i + 1) := by
  simp only [gd_mn]
  rw [if_pos h, if_pos g]
theorem gx_st {post : Int32 → Prop} {s : Nat} (hs : s < 17) (h : post 1) : wpX_isStreet post (nI s) :=
  br_f (nI_pos (by omega)) (br_f (nI_ge (b := 17) hs (by decide)) h)
theorem gx_st0 {post : Int32 → Prop} {p : Int32} (hb : p < 0 ∨ ∃ j, 17 ≤ j ∧ j < 2 ^ 31 ∧ p = nI j) (h : post 0) : wpX_isStreet post p := by
  rcases hb with hb | ⟨j, h1, h2, rfl⟩
  · exact br_t hb h
  · exact br_f (nI_pos h2) (br_t (nI_le (a := 17) h1 h2) h)
theorem gx_cg {post : Int32 → Prop} {s : Nat} (hs : s < 12) (h : post 1) : wpX_isCrossing post (nI s) :=
  br_f (nI_pos (by omega)) (br_f (nI_ge (b := 12) hs (by decide)) h)
theorem gx_cg0 {post : Int32 → Prop} {p : Int32} (hb : p < 0 ∨ ∃ j, 12 ≤ j ∧ j < 2 ^ 31 ∧ p = nI j) (h : post 0) : wpX_isCrossing post p := by
  rcases hb with hb | ⟨j, h1, h2, rfl⟩
  · exact br_t hb h
  · exact br_f (nI_pos h2) (br_t (nI_le (a := 12) h1 h2) h)
theorem gd_e1 : ∀ s, s < 17 → 9 ≤ s → ((1 : Int32) <<< ((nI s - 9) &&& 31)) ||| ((1 : Int32) <<< (((nI s - 9) + 4) &&& 31)) = nI (gd_E s) := by decide +kernel
theorem gd_e2 : ∀ s, s < 17 → s < 9 → ((1 : Int32) <<< (((4 * (nI s / 3)) + (nI s - nI s / 3 * 3)) &&& 31)) ||| ((1 : Int32) <<< ((((4 * (nI s / 3)) + (nI s - nI s / 3 * 3)) + 1) &&& 31)) = nI (gd_E s) := by decide +kernel
theorem gx_ends {post : Int32 → Prop} {s : Nat} (hs : s < 17) (h : post (nI (gd_E s))) : wpX_ends post (nI s) := by
  by_cases h9 : 9 ≤ s
  · refine br_t (nI_le (a := 9) h9 (by omega)) ?_
    intro y ey
    subst ey
    rw [gd_e1 s hs h9]
    exact h
  · refine br_f (nI_ge (b := 9) (by omega) (by decide)) ⟨by decide, by decide, ?_⟩
    intro y ey
    subst ey
    rw [gd_e2 s hs (by omega)]
    exact h
theorem gx_cr {post : Int32 → Prop} {s cut : Nat} (hs : s < 17) (hc : cut < 4096) (h1 : gd_c s cut = true → post 1) (h0 : ¬ gd_c s cut = true → post 0) : wpX_crosses post (nI s) (nI cut) := by
  unfold wpX_crosses
  refine gx_ends hs ?_
  refine nm_r (nx_and _ _) ?_
  have hh := gd_crE hs cut
  have hE := gd_Elt s hs
  have hle : cut &&& gd_E s ≤ cut := Nat.and_le_left
  generalize cut &&& gd_E s = m at hh hle ⊢
  refine pk_eq m 0 (fun e => ?_) (fun e => ?_)
  · exact h0 (fun z => (hh.mpr z).1 e)
  · refine pk_eq m (gd_E s) (fun e2 => ?_) (fun e2 => ?_)
    · exact h0 (fun z => (hh.mpr z).2 e2)
    · exact h1 (hh.mp ⟨e, e2⟩)
theorem gx_oc {post : Int32 → Prop} {c z : Nat → Int32} {f : Nat → Nat} (hf : gd_op c z f) {s : Nat} (hs : s < 17) (h : post (nI (f s))) : wpX_openCapacity post (c, z) (nI s) := by
  have hi : vp_in (nI s) 17 := vp_in_nI hs (by omega)
  have hcl : (nI s).toNatClampNeg = s := nI_clamp (by omega)
  have hs' := hf s hs
  refine ⟨hi, br_c (fun e => ⟨hi, ?_⟩) (fun e => ?_)⟩
  · rw [hcl] at e ⊢
    rw [hs'.1 e]
    exact h
  · rw [hcl] at e
    rw [hs'.2.1 e] at h
    exact h
theorem gx_wl {post : Int32 → Prop} {c z : Nat → Int32} {f : Nat → Nat} (hf : gd_op c z f) {cut : Nat} (hc : cut < 4096) (h : post (nI (gd_W f cut 17))) : ∀ d i, i + d = 17 → wX_weightOf_4 post (nI cut) c z (d + 1) (nI (gd_W f cut i)) (nI i) := by
  intro d
  induction d with
  | zero =>
    intro i hi
    have e : i = 17 := by omega
    subst e
    exact br_t (nI_le (a := 17) (Nat.le_refl _) (by omega)) h
  | succ d ih =>
    intro i hi
    have h3 := ih (i + 1) (by omega)
    refine br_f (nI_ge (b := 17) (by omega) (by decide)) ?_
    refine gx_cr (by omega) hc (fun e => ?_) (fun e => ?_)
    · refine br_f gd_10 ?_
      refine gx_oc hf (by omega) ?_
      rw [show gd_W f cut (i + 1) = gd_W f cut i + f i from by simp [gd_W, e]] at h3
      exact nm_r (nI_add _ _) (nm_r (nI_1 _) h3)
    · refine br_t rfl ?_
      rw [show gd_W f cut (i + 1) = gd_W f cut i from by simp [gd_W, e]] at h3
      exact nm_r (nI_1 _) h3
theorem gx_w {post : Int32 → Prop} {c z : Nat → Int32} {f : Nat → Nat} (hf : gd_op c z f) {cut : Nat} (hc : cut < 4096) (h : post (nI (gd_W f cut 17))) : wpX_weightOf post (c, z) (nI cut) :=
  ⟨18, gx_wl hf hc h 17 0 rfl⟩
theorem gx_ll {post : Int32 → Prop} {c z : Nat → Int32} {f : Nat → Nat} (hf : gd_op c z f) {a b : Nat} (ha : a < 4096) {p : Nat → Bool} (hp : ∀ i, i < 1024 → (p (2 * i + 1) = true ↔ ((2 * i + 1) &&& a = a ∧ (2 * i + 1) &&& b = 0))) (hw : ∀ cut, gd_W f cut 17 < 1000) (h : post (nI (gd_mn (fun cut => gd_W f cut 17) p 1024))) : ∀ d i, i + d = 1024 → wX_leastWeight_7 post (nI a) (nI b) c z (d + 1) (nI (gd_mn (fun cut => gd_W f cut 17) p i)) (nI (2 * i + 1)) := by
  intro d
  induction d with
  | zero =>
    intro i hi
    have e : i = 1024 := by omega
    subst e
    exact br_t (nI_le (a := 2048) (by omega) (by omega)) h
  | succ d ih =>
    intro i hi
    have h3 := ih (i + 1) (by omega)
    have hpi := hp i (by omega)
    have hml := gd_mn_le (fun cut => gd_W f cut 17) p i
    have hwi := hw (2 * i + 1)
    refine br_f (nI_ge (b := 2048) (by omega) (by decide)) ?_
    refine pk_eq ((2 * i + 1) &&& a) a (fun e1 => ?_) (fun e1 => ?_) (nx_and _ _) rfl (Nat.lt_of_le_of_lt Nat.and_le_left (by omega)) (by omega)
    · refine pk_eq ((2 * i + 1) &&& b) 0 (fun e2 => ?_) (fun e2 => ?_) (nx_and _ _) rfl (Nat.lt_of_le_of_lt Nat.and_le_left (by omega)) (by omega)
      · have hpt := hpi.mpr ⟨e1, e2⟩
        refine gx_w hf (by omega) ?_
        refine pk_le (gd_mn (fun cut => gd_W f cut 17) p i) (gd_W f (2 * i + 1) 17) (fun g => ?_) (fun g => ?_)
        · rw [gd_m1 hpt g] at h3
          exact nm_r (gd_n2 i) h3
        · rw [gd_m2 hpt g] at h3
          exact nm_r (gd_n2 i) h3
      · rw [gd_m0 (fun z => e2 (hpi.mp z).2)] at h3
        exact nm_r (gd_n2 i) h3
    · rw [gd_m0 (fun z => e1 (hpi.mp z).1)] at h3
      exact nm_r (gd_n2 i) h3
theorem gx_l {post : Int32 → Prop} {c z : Nat → Int32} {f : Nat → Nat} (hf : gd_op c z f) {a b : Nat} (ha : a < 4096) {p : Nat → Bool} (hp : ∀ i, i < 1024 → (p (2 * i + 1) = true ↔ ((2 * i + 1) &&& a = a ∧ (2 * i + 1) &&& b = 0))) (hw : ∀ cut, gd_W f cut 17 < 1000) (h : post (nI (gd_mn (fun cut => gd_W f cut 17) p 1024))) : wpX_leastWeight post (c, z) (nI a) (nI b) :=
  ⟨1025, gx_ll hf ha hp hw h 1024 0 rfl⟩
theorem gx_l0 {post : Int32 → Prop} {c z : Nat → Int32} {f : Nat → Nat} (hf : gd_op c z f) (hw : ∀ cut, gd_W f cut 17 < 1000) (h : post (nI (gd_mn (fun cut => gd_W f cut 17) (fun _ => true) 1024))) : wpX_leastWeight post (c, z) 0 0 := by
  have h2 := gx_l (a := 0) (b := 0) (p := fun _ => true) hf (by decide) (fun i _ => ⟨fun _ => ⟨Nat.and_zero _, Nat.and_zero _⟩, fun _ => rfl⟩) hw h
  exact h2
theorem gx_al {post : Int32 → Prop} {c z : Nat → Int32} {f : Nat → Nat} (hf : gd_op c z f) {m : Nat} (hm : m < 1000) (hw : ∀ cut, gd_W f cut 17 < 1000) (h : post (nI (gd_an (fun cut => gd_W f cut 17) m 1024))) : ∀ d i, i + d = 1024 → wX_commonPart_6 post (nI m) c z (d + 1) (nI (gd_an (fun cut => gd_W f cut 17) m i)) (nI (2 * i + 1)) := by
  intro d
  induction d with
  | zero =>
    intro i hi
    have e : i = 1024 := by omega
    subst e
    exact br_t (nI_le (a := 2048) (by omega) (by omega)) h
  | succ d ih =>
    intro i hi
    have h3 := ih (i + 1) (by omega)
    have hwi := hw (2 * i + 1)
    refine br_f (nI_ge (b := 2048) (by omega) (by decide)) ?_
    refine gx_w hf (by omega) ?_
    refine pk_eq (gd_W f (2 * i + 1) 17) m (fun e => ?_) (fun e => ?_)
    · simp only [gd_an, if_pos e] at h3
      exact nm_r (nx_and _ _) (nm_r (gd_n2 i) h3)
    · simp only [gd_an, if_neg e] at h3
      exact nm_r (gd_n2 i) h3
theorem gx_a {post : Int32 → Prop} {c z : Nat → Int32} {f : Nat → Nat} (hf : gd_op c z f) {m : Nat} (hm : m < 1000) (hw : ∀ cut, gd_W f cut 17 < 1000) (h : post (nI (gd_an (fun cut => gd_W f cut 17) m 1024))) : wpX_commonPart post (c, z) (nI m) :=
  ⟨1025, gx_al hf hm hw h 1024 0 rfl⟩
theorem gx_ul {post : Int32 → Prop} {c z : Nat → Int32} {f : Nat → Nat} (hf : gd_op c z f) {m : Nat} (hm : m < 1000) (hw : ∀ cut, gd_W f cut 17 < 1000) (h : post (nI (gd_un (fun cut => gd_W f cut 17) m 0 1024))) : ∀ d i, i + d = 1024 → wX_lastCut_11 post (nI m) c z (d + 1) (nI (gd_un (fun cut => gd_W f cut 17) m 0 i)) (nI (2 * i + 1)) := by
  intro d
  induction d with
  | zero =>
    intro i hi
    have e : i = 1024 := by omega
    subst e
    exact br_t (nI_le (a := 2048) (by omega) (by omega)) h
  | succ d ih =>
    intro i hi
    have h3 := ih (i + 1) (by omega)
    have hwi := hw (2 * i + 1)
    refine br_f (nI_ge (b := 2048) (by omega) (by decide)) ?_
    refine gx_w hf (by omega) ?_
    refine pk_eq (gd_W f (2 * i + 1) 17) m (fun e => ?_) (fun e => ?_)
    · simp only [gd_un, if_pos e] at h3
      exact nm_r (gd_or _ _) (nm_r (gd_n2 i) h3)
    · simp only [gd_un, if_neg e] at h3
      exact nm_r (gd_n2 i) h3
theorem gx_gl {post : Int32 → Prop} {c z : Nat → Int32} {f : Nat → Nat} (hf : gd_op c z f) {q : Nat} (hq : q < 17) {ch : Int32} {w : Nat → Nat} (hc : ∀ cut, (gd_c q cut = true → nI (gd_W f cut 17) + ch = nI (w cut)) ∧ (¬ gd_c q cut = true → gd_W f cut 17 = w cut) ∧ w cut < 1000) (h : post (nI (gd_mn w (fun _ => true) 1024))) : ∀ d i, i + d = 1024 → wX_leastWeightChanged_7 post (nI q) ch c z (d + 1) (nI (gd_mn w (fun _ => true) i)) (nI (2 * i + 1)) := by
  intro d
  induction d with
  | zero =>
    intro i hi
    have e : i = 1024 := by omega
    subst e
    exact br_t (nI_le (a := 2048) (by omega) (by omega)) h
  | succ d ih =>
    intro i hi
    have h3 := ih (i + 1) (by omega)
    have hci := hc (2 * i + 1)
    have hml := gd_mn_le w (fun _ => true) i
    have hJ : wX_leastWeightChanged_38 post (wX_leastWeightChanged_7 post (nI q) ch c z (d + 1)) (nI q) ch (nI (gd_mn w (fun _ => true) i)) (nI (2 * i + 1)) (nI (w (2 * i + 1))) c z := by
      refine pk_le (gd_mn w (fun _ => true) i) (w (2 * i + 1)) (fun g => ?_) (fun g => ?_) rfl rfl (by omega) (by have := hci.2.2; omega)
      · rw [gd_m1 rfl g] at h3
        exact nm_r (gd_n2 i) h3
      · rw [gd_m2 rfl g] at h3
        exact nm_r (gd_n2 i) h3
    refine br_f (nI_ge (b := 2048) (by omega) (by decide)) ?_
    refine gx_w hf (by omega) ?_
    refine gx_cr hq (by omega) (fun e => ?_) (fun e => ?_)
    · exact br_f gd_10 (nm_r (hci.1 e) hJ)
    · rw [← hci.2.1 e] at hJ
      exact br_t rfl hJ
theorem gx_g {post : Int32 → Prop} {c z : Nat → Int32} {f : Nat → Nat} (hf : gd_op c z f) {q : Nat} (hq : q < 17) {ch : Int32} {w : Nat → Nat} (hc : ∀ cut, (gd_c q cut = true → nI (gd_W f cut 17) + ch = nI (w cut)) ∧ (¬ gd_c q cut = true → gd_W f cut 17 = w cut) ∧ w cut < 1000) (h : post (nI (gd_mn w (fun _ => true) 1024))) : wpX_leastWeightChanged post (c, z) (nI q) ch :=
  ⟨1025, gx_gl hf hq hc h 1024 0 rfl⟩
theorem gx_has {post : Int32 → Prop} {n k : Nat} (hn : n < 2 ^ 31) (hk : k < 31) (h1 : n.testBit k = true → post 1) (h0 : n.testBit k = false → post 0) : wpX_contains post (nI n) (nI k) := by
  have e : nI n &&& ((1 : Int32) <<< (nI k &&& 31)) = nI (n &&& 2 ^ k) := by rw [gd_shl hk, nx_and]
  refine pk_eq (n &&& 2 ^ k) 0 (fun g => ?_) (fun g => ?_) e rfl (Nat.lt_of_le_of_lt Nat.and_le_left hn) (by omega)
  · exact h0 ((gd_has n k).mp g)
  · cases hb : n.testBit k
    · exact absurd ((gd_has n k).mpr hb) g
    · exact h1 hb
theorem gx_nl {post : Int32 → Prop} {c z : Nat → Int32} {f : Nat → Nat} (hf : gd_op c z f) {S : Nat} (hS : S < 4096) (h : post (nI (gd_nb f S 17))) : ∀ d i, i + d = 17 → wX_withNeighbours_4 post (nI S) c z (d + 1) (nI (gd_nb f S i)) (nI i) := by
  intro d
  induction d with
  | zero =>
    intro i hi
    have e : i = 17 := by omega
    subst e
    exact br_t (nI_le (a := 17) (Nat.le_refl _) (by omega)) h
  | succ d ih =>
    intro i hi
    have h3 := ih (i + 1) (by omega)
    have hfi := (hf i (by omega)).2.2
    refine br_f (nI_ge (b := 17) (by omega) (by decide)) ?_
    refine gx_cr (by omega) hS (fun e => ?_) (fun e => ?_)
    · refine br_f gd_10 ?_
      refine gx_oc hf (by omega) ?_
      refine pk_le (f i) 0 (fun g => ?_) (fun g => ?_)
      · rw [show gd_nb f S (i + 1) = gd_nb f S i from by simp only [gd_nb]; rw [if_neg (fun z => absurd z.2 (by omega))]] at h3
        exact nm_r (nI_1 _) h3
      · refine gx_ends (by omega) ?_
        rw [show gd_nb f S (i + 1) = gd_nb f S i ||| gd_E i from by simp only [gd_nb]; rw [if_pos ⟨e, g⟩]] at h3
        exact nm_r (gd_or _ _) (nm_r (nI_1 _) h3)
    · refine br_t rfl ?_
      rw [show gd_nb f S (i + 1) = gd_nb f S i from by simp only [gd_nb]; rw [if_neg (fun z => e z.1)]] at h3
      exact nm_r (nI_1 _) h3
theorem gx_n {post : Int32 → Prop} {c z : Nat → Int32} {f : Nat → Nat} (hf : gd_op c z f) {S : Nat} (hS : S < 4096) (h : post (nI (gd_nb f S 17))) : wpX_withNeighbours post (c, z) (nI S) :=
  ⟨18, gx_nl hf hS h 17 0 rfl⟩
theorem gx_yl {post : Int32 → Prop} {c z : Nat → Int32} {f : Nat → Nat} (hf : gd_op c z f) {a b : Nat} (ha : a < 12) (hb : b < 12) (h : post (nI ((gd_it (fun S => gd_nb f S 17) (2 ^ a) 11).testBit b).toNat)) : ∀ d i, i + d = 11 → wX_way_23 post (nI b) c z (d + 1) (nI (gd_it (fun S => gd_nb f S 17) (2 ^ a) i)) (nI (i + 1)) := by
  have hlt : ∀ i, gd_it (fun S => gd_nb f S 17) (2 ^ a) i < 4096 := gd_it_lt _ _ (gd_pc_1 a ha).2 (fun S hS => gd_nb_lt f S hS 17 (Nat.le_refl _))
  intro d
  induction d with
  | zero =>
    intro i hi
    have e : i = 11 := by omega
    subst e
    refine br_t (nI_le (a := 12) (Nat.le_refl _) (by omega)) ?_
    have h4 := hlt 11
    refine gx_has (by omega) (by omega) (fun g => ?_) (fun g => ?_)
    · rw [g] at h
      exact br_f gd_10 h
    · rw [g] at h
      exact br_t rfl h
  | succ d ih =>
    intro i hi
    refine br_f (nI_ge (b := 12) (by omega) (by decide)) ?_
    exact gx_n hf (hlt i) (nm_r (nI_1 _) (ih (i + 1) (by omega)))
def gd_ct (f : Nat → Nat) (cut : Nat) : Nat → Nat
  | 0 => 0
  | s + 1 => if gd_c s cut = true ∧ 0 < f s then gd_ct f cut s + 1 else gd_ct f cut s
theorem gx_kl {post : Int32 → Prop} {c z : Nat → Int32} {f : Nat → Nat} (hf : gd_op c z f) {S : Nat} (hS : S < 4096) (h : post (nI (gd_ct f S 17))) : ∀ d i, i + d = 17 → wX_cutStreets_18 post (nI S) c z (d + 1) (nI (gd_ct f S i)) (nI i) := by
  intro d
  induction d with
  | zero =>
    intro i hi
    have e : i = 17 := by omega
    subst e
    exact br_t (nI_le (a := 17) (Nat.le_refl _) (by omega)) h
  | succ d ih =>
    intro i hi
    have h3 := ih (i + 1) (by omega)
    have hfi := (hf i (by omega)).2.2
    refine br_f (nI_ge (b := 17) (by omega) (by decide)) ?_
    refine gx_cr (by omega) hS (fun e => ?_) (fun e => ?_)
    · refine br_f gd_10 ?_
      refine gx_oc hf (by omega) ?_
      refine pk_le (f i) 0 (fun g => ?_) (fun g => ?_)
      · rw [show gd_ct f S (i + 1) = gd_ct f S i from by simp only [gd_ct]; rw [if_neg (fun z => absurd z.2 (by omega))]] at h3
        exact nm_r (nI_1 _) h3
      · rw [show gd_ct f S (i + 1) = gd_ct f S i + 1 from by simp only [gd_ct]; rw [if_pos ⟨e, g⟩]] at h3
        exact nm_r (nI_1 _) (nm_r (nI_1 _) h3)
    · refine br_t rfl ?_
      rw [show gd_ct f S (i + 1) = gd_ct f S i from by simp only [gd_ct]; rw [if_neg (fun z => e z.1)]] at h3
      exact nm_r (nI_1 _) h3
