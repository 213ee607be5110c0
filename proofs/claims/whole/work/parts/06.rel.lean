/-! the relation, and the open capacities that it gives -/
def gd_R (c z : Nat → Int32) : Prop := ∀ s, s < 17 → (∃ n, n ≤ 20 ∧ c s = nI n) ∧ (z s = 0 ∨ z s = 1)
def i_Rel (k : Nat) (u : SX) (v : SY) : Prop := ∃ c z o t : Nat → Int32, u = (c, z) ∧ v = (c, z, o, t) ∧ gd_Y o t ∧ gd_R c z
theorem i_up {k : Nat} {u : SX} {v : SY} (h : i_Rel k u v) : i_Rel (k + 3) u v := h
theorem i_vc0 : wpX_init (fun u => wpY_init (fun v => i_Rel 0 u v)) :=
  gy_i (fun o t hY => ⟨_, _, o, t, rfl, rfl, hY, fun _ _ => ⟨⟨0, by decide, rfl⟩, Or.inl rfl⟩⟩)
def gd_fo (c z : Nat → Int32) (s : Nat) : Nat := if z s = 0 then (c s).toNatClampNeg else 0
theorem gd_fo_op {c z : Nat → Int32} (h : gd_R c z) : gd_op c z (gd_fo c z) := by
  intro s hs
  obtain ⟨⟨n, hn, e⟩, _⟩ := h s hs
  have hc : (c s).toNatClampNeg = n := by rw [e]; exact nI_clamp (by omega)
  unfold gd_fo
  refine ⟨fun z0 => ?_, fun z0 => ?_, ?_⟩
  · rw [if_pos z0, hc]
    exact e
  · rw [if_neg z0]
  · split
    · omega
    · omega
theorem gd_fo_le {c z : Nat → Int32} (h : gd_R c z) : ∀ s, s < 17 → gd_fo c z s ≤ 20 := by
  intro s hs
  obtain ⟨⟨n, hn, e⟩, _⟩ := h s hs
  have hc : (c s).toNatClampNeg = n := by rw [e]; exact nI_clamp (by omega)
  unfold gd_fo
  split
  · omega
  · omega
theorem gd_fo_W {c z : Nat → Int32} (h : gd_R c z) (cut : Nat) : gd_W (gd_fo c z) cut 17 ≤ 340 := gd_W_le _ cut 20 17 (gd_fo_le h)
theorem gd_fo_w {c z : Nat → Int32} (h : gd_R c z) (cut : Nat) : gd_W (gd_fo c z) cut 17 < 1000 := by
  have := gd_fo_W h cut
  omega
theorem gd_nb0 : vp_nar .boolean 0 = 0 := by decide
theorem gd_nb1 : vp_nar .boolean 1 = 1 := by decide
theorem gd_R_c {c z : Nat → Int32} (h : gd_R c z) (s : Nat) {j : Nat} (hj : j ≤ 20) : gd_R (upd c s (nI j)) z := by
  intro q hq
  by_cases e : q = s
  · subst e
    rw [pk_us]
    exact ⟨⟨j, hj, rfl⟩, (h q hq).2⟩
  · rw [pk_un e]
    exact h q hq
theorem gd_R_z {c z : Nat → Int32} (h : gd_R c z) (s : Nat) {x : Int32} (hx : x = 0 ∨ x = 1) : gd_R c (upd z s x) := by
  intro q hq
  by_cases e : q = s
  · subst e
    rw [pk_us]
    exact ⟨(h q hq).1, hx⟩
  · rw [pk_un e]
    exact h q hq
/-! sow -/
def gd_sa (c : Nat → Int32) (a b n : Nat) : Nat → Int32 := fun j => if j < n then nI ((a + 7 * j + j * j * b) % 21) else c j
def gd_ss (a b : Nat) : Nat → Int32
  | 0 => 0
  | k + 1 => gd_ss a b k + nI ((a + 7 * k + k * k * b) % 21)
theorem gd_sv {a b k : Nat} (ha : a < 21) (hb : b < 21) (hk : k < 17) : (((nI a + (7 * nI k)) + ((nI k * nI k) * nI b)) - ((nI a + (7 * nI k)) + ((nI k * nI k) * nI b)) / 21 * 21) = nI ((a + 7 * k + k * k * b) % 21) := by
  have e : ((nI a + (7 * nI k)) + ((nI k * nI k) * nI b)) = nI (a + 7 * k + k * k * b) := by
    rw [show (7 : Int32) = nI 7 from rfl, pk_mul, pk_mul, pk_mul, nI_add, nI_add]
  have h1 : k * k ≤ 16 * 16 := Nat.mul_le_mul (by omega) (by omega)
  have h2 : k * k * b ≤ 16 * 16 * 20 := Nat.mul_le_mul h1 (by omega)
  rw [e]
  exact pk_rem (d := 21) (by omega) (by decide) (by decide)
theorem gd_su (c : Nat → Int32) (a b n : Nat) : upd (gd_sa c a b n) n (nI ((a + 7 * n + n * n * b) % 21)) = gd_sa c a b (n + 1) := by
  funext j
  by_cases e : j = n
  · subst e
    rw [pk_us]
    exact (if_pos (Nat.lt_succ_self j)).symm
  · rw [pk_un e]
    unfold gd_sa
    by_cases g : j < n
    · rw [if_pos g, if_pos (by omega)]
    · rw [if_neg g, if_neg (by omega)]
theorem gd_s0 (c : Nat → Int32) (a b : Nat) : gd_sa c a b 0 = c := by
  funext j
  exact if_neg (Nat.not_lt_zero j)
theorem gd_sR {c z : Nat → Int32} (h : gd_R c z) (a b : Nat) : gd_R (gd_sa c a b 17) z := by
  intro s hs
  refine ⟨⟨(a + 7 * s + s * s * b) % 21, ?_, if_pos hs⟩, (h s hs).2⟩
  have := Nat.mod_lt (a + 7 * s + s * s * b) (show 21 > 0 by decide)
  omega
theorem gx_sl {post : Int32 → SX → Prop} {c z : Nat → Int32} {a b : Nat} (ha : a < 21) (hb : b < 21) (h : post (gd_ss a b 17) (gd_sa c a b 17, z)) : ∀ d i, i + d = 17 → wX_sow_30 post (nI a) (nI b) (d + 1) (gd_ss a b i) (nI i) (gd_sa c a b i) z := by
  intro d
  induction d with
  | zero =>
    intro i hi
    have e : i = 17 := by omega
    subst e
    exact br_t (nI_le (a := 17) (Nat.le_refl _) (by omega)) h
  | succ d ih =>
    intro i hi
    have h3 := ih (i + 1) (by omega)
    have hin : vp_in (nI i) 17 := vp_in_nI (by omega) (by decide)
    have hcl : (nI i).toNatClampNeg = i := nI_clamp (by omega)
    have eA : upd (gd_sa c a b i) (nI i).toNatClampNeg (((nI a + (7 * nI i)) + ((nI i * nI i) * nI b)) - ((nI a + (7 * nI i)) + ((nI i * nI i) * nI b)) / 21 * 21) = gd_sa c a b (i + 1) := by
      rw [hcl, gd_sv ha hb (by omega), gd_su]
    have eS : gd_ss a b i + gd_sa c a b (i + 1) (nI i).toNatClampNeg = gd_ss a b (i + 1) := by
      rw [hcl]
      show gd_ss a b i + (if i < i + 1 then _ else _) = _
      rw [if_pos (Nat.lt_succ_self i)]
      rfl
    exact br_f (nI_ge (b := 17) (by omega) (by decide)) ⟨by decide, hin, nm_r eA ⟨hin, nm_r eS (nm_r (nI_1 _) h3)⟩⟩
theorem gy_sl {post : Int32 → SY → Prop} {c z o t : Nat → Int32} {a b : Nat} (ha : a < 21) (hb : b < 21) (h : post (gd_ss a b 17) (gd_sa c a b 17, z, o, t)) : ∀ d i, i + d = 17 → wY_sow_30 post (nI a) (nI b) (d + 1) (gd_ss a b i) (nI i) (gd_sa c a b i) z o t := by
  intro d
  induction d with
  | zero =>
    intro i hi
    have e : i = 17 := by omega
    subst e
    exact br_t (nI_le (a := 17) (Nat.le_refl _) (by omega)) h
  | succ d ih =>
    intro i hi
    have h3 := ih (i + 1) (by omega)
    have hin : vp_in (nI i) 17 := vp_in_nI (by omega) (by decide)
    have hcl : (nI i).toNatClampNeg = i := nI_clamp (by omega)
    have eA : upd (gd_sa c a b i) (nI i).toNatClampNeg (((nI a + (7 * nI i)) + ((nI i * nI i) * nI b)) - ((nI a + (7 * nI i)) + ((nI i * nI i) * nI b)) / 21 * 21) = gd_sa c a b (i + 1) := by
      rw [hcl, gd_sv ha hb (by omega), gd_su]
    have eS : gd_ss a b i + gd_sa c a b (i + 1) (nI i).toNatClampNeg = gd_ss a b (i + 1) := by
      rw [hcl]
      show gd_ss a b i + (if i < i + 1 then _ else _) = _
      rw [if_pos (Nat.lt_succ_self i)]
      rfl
    exact br_f (nI_ge (b := 17) (by omega) (by decide)) ⟨by decide, hin, nm_r eA ⟨hin, nm_r eS (nm_r (nI_1 _) h3)⟩⟩
/-! between -/
theorem gd_bw : ∀ a, a < 12 → ∀ b, b < 12 → ∀ s, s < 17 → (gd_E s = (2 ^ a ||| 2 ^ b) ↔ ((gd_o s = a ∧ gd_t s = b) ∨ (gd_o s = b ∧ gd_t s = a))) := by decide +kernel
def gd_bv (a b : Nat) : Nat → Int32
  | 0 => -2
  | d + 1 => if gd_E (16 - d) = (2 ^ a ||| 2 ^ b) then nI (16 - d) else gd_bv a b d
theorem gd_pb : ∀ a, a < 12 → ∀ b, b < 12 → (2 ^ a ||| 2 ^ b) < 4096 := by decide +kernel
theorem gx_bl {post : Int32 → Prop} {c z : Nat → Int32} {a b : Nat} (ha : a < 12) (hb : b < 12) (h : post (gd_bv a b 17)) : wX_between_27 post (nI (2 ^ a ||| 2 ^ b)) c z 18 (nI 0) := by
  have hp := gd_pb a ha b hb
  have hl : ∀ d i, i + d = 17 → post (gd_bv a b d) → wX_between_27 post (nI (2 ^ a ||| 2 ^ b)) c z (d + 1) (nI i) := by
    intro d
    induction d with
    | zero =>
      intro i hi h
      have e : i = 17 := by omega
      subst e
      exact br_t (nI_le (a := 17) (Nat.le_refl _) (by omega)) h
    | succ d ih =>
      intro i hi h
      have hE := gd_Elt i (by omega)
      have ei : 16 - d = i := by omega
      simp only [gd_bv] at h
      rw [ei] at h
      refine br_f (nI_ge (b := 17) (by omega) (by decide)) (gx_ends (by omega) ?_)
      refine pk_eq (gd_E i) (2 ^ a ||| 2 ^ b) (fun e => ?_) (fun e => ?_) rfl rfl (by omega) (by omega)
      · rw [if_pos e] at h
        exact h
      · rw [if_neg e] at h
        exact nm_r (nI_1 _) (ih (i + 1) (by omega) h)
  exact hl 17 0 rfl h
theorem gy_bl {post : Int32 → Prop} {c z o t : Nat → Int32} (hY : gd_Y o t) {a b : Nat} (ha : a < 12) (hb : b < 12) (h : post (gd_bv a b 17)) : wY_between_20 post (nI a) (nI b) c z o t 18 (nI 0) := by
  have hl : ∀ d i, i + d = 17 → post (gd_bv a b d) → wY_between_20 post (nI a) (nI b) c z o t (d + 1) (nI i) := by
    intro d
    induction d with
    | zero =>
      intro i hi h
      have e : i = 17 := by omega
      subst e
      exact br_t (nI_le (a := 17) (Nat.le_refl _) (by omega)) h
    | succ d ih =>
      intro i hi h
      have hin : vp_in (nI i) 17 := vp_in_nI (by omega) (by decide)
      have hcl : (nI i).toNatClampNeg = i := nI_clamp (by omega)
      have ho := gd_ot i (by omega)
      have hv := hY i (by omega)
      have e1 : o (nI i).toNatClampNeg = nI (gd_o i) := by rw [hcl]; exact hv.1
      have e2 : t (nI i).toNatClampNeg = nI (gd_t i) := by rw [hcl]; exact hv.2
      have ei : 16 - d = i := by omega
      have hw := gd_bw a ha b hb i (by omega)
      simp only [gd_bv] at h
      rw [ei] at h
      have hyes : ((gd_o i = a ∧ gd_t i = b) ∨ (gd_o i = b ∧ gd_t i = a)) → post (nI i) := by
        intro z
        rw [if_pos (hw.mpr z)] at h
        exact h
      have hno : ¬ ((gd_o i = a ∧ gd_t i = b) ∨ (gd_o i = b ∧ gd_t i = a)) → wY_between_20 post (nI a) (nI b) c z o t (d + 1) (nI (i + 1)) := by
        intro z
        rw [if_neg (fun y => z (hw.mp y))] at h
        exact ih (i + 1) (by omega) h
      have hj : ¬ (gd_o i = a ∧ gd_t i = b) → wY_between_46 post (wY_between_20 post (nI a) (nI b) c z o t (d + 1)) (nI a) (nI b) (nI i) c z o t := by
        intro n1
        refine ⟨hin, pk_eq (gd_o i) b (fun g1 => ⟨hin, pk_eq (gd_t i) a (fun g2 => ?_) (fun g2 => ?_) e2⟩) (fun g1 => ?_) e1⟩
        · exact hyes (Or.inr ⟨g1, g2⟩)
        · exact nm_r (nI_1 _) (hno (fun y => y.elim n1 (fun q => g2 q.2)))
        · exact nm_r (nI_1 _) (hno (fun y => y.elim n1 (fun q => g1 q.1)))
      refine br_f (nI_ge (b := 17) (by omega) (by decide)) ⟨hin, pk_eq (gd_o i) a (fun g1 => ⟨hin, pk_eq (gd_t i) b (fun g2 => ?_) (fun g2 => ?_) e2⟩) (fun g1 => ?_) e1⟩
      · exact hyes (Or.inl ⟨g1, g2⟩)
      · exact hj (fun q => g2 q.2)
      · exact hj (fun q => g1 q.1)
  exact hl 17 0 rfl h
