/-! two growing steps that lead to the same closed set -/
def gd_sub (S T : Nat) : Prop := ∀ k, S.testBit k = true → T.testBit k = true
def gd_cl (f : Nat → Nat) (T : Nat) : Prop := ∀ s, s < 17 → 0 < f s → gd_c s T = false
theorem gd_sub_rf (S : Nat) : gd_sub S S := fun _ h => h
theorem gd_sub_tr {S T U : Nat} (h : gd_sub S T) (g : gd_sub T U) : gd_sub S U := fun k z => g k (h k z)
theorem gd_sub_as {S T : Nat} (h : gd_sub S T) (g : gd_sub T S) : S = T := by
  apply Nat.eq_of_testBit_eq
  intro k
  have h1 := h k
  have g1 := g k
  cases e : S.testBit k <;> cases e2 : T.testBit k
  · rfl
  · rw [e, e2] at g1; exact absurd (g1 rfl) (by decide)
  · rw [e, e2] at h1; exact absurd (h1 rfl) (by decide)
  · rfl
theorem gd_sub_l (S T : Nat) : gd_sub S (S ||| T) := fun k h => by rw [Nat.testBit_or, h, Bool.true_or]
theorem gd_sub_r (S T : Nat) : gd_sub T (S ||| T) := fun k h => by rw [Nat.testBit_or, h, Bool.or_true]
theorem gd_sub_o {S T U : Nat} (h : gd_sub S U) (g : gd_sub T U) : gd_sub (S ||| T) U := by
  intro k z
  rw [Nat.testBit_or] at z
  cases e : S.testBit k
  · rw [e, Bool.false_or] at z
    exact g k z
  · exact h k e
theorem gd_sub_E {s T : Nat} : gd_sub (gd_E s) T ↔ T.testBit (gd_o s) = true ∧ T.testBit (gd_t s) = true := by
  constructor
  · intro h
    unfold gd_E at h
    exact ⟨h _ (by rw [Nat.testBit_or, Nat.testBit_two_pow_self, Bool.true_or]), h _ (by rw [Nat.testBit_or, Nat.testBit_two_pow_self, Bool.or_true])⟩
  · intro h k z
    unfold gd_E at z
    rw [Nat.testBit_or, Nat.testBit_two_pow, Nat.testBit_two_pow] at z
    by_cases e : gd_o s = k
    · rw [← e]; exact h.1
    · by_cases e2 : gd_t s = k
      · rw [← e2]; exact h.2
      · rw [decide_eq_false e, decide_eq_false e2] at z
        exact absurd z (by decide)
theorem gd_c_f {s T : Nat} (h : gd_c s T = false) : T.testBit (gd_o s) = T.testBit (gd_t s) := by
  unfold gd_c at h
  cases e : T.testBit (gd_o s) <;> cases e2 : T.testBit (gd_t s) <;> rw [e, e2] at h <;> first | rfl | exact absurd h (by decide)
theorem gd_c_t {s T : Nat} (h : gd_c s T = true) : ¬ (T.testBit (gd_o s) = true ∧ T.testBit (gd_t s) = true) ∧ (T.testBit (gd_o s) = true ∨ T.testBit (gd_t s) = true) := by
  unfold gd_c at h
  cases e : T.testBit (gd_o s) <;> cases e2 : T.testBit (gd_t s) <;> rw [e, e2] at h <;> first | exact absurd h (by decide) | exact ⟨by decide, by decide⟩
/-- a closed set that has one end has both -/
theorem gd_cl_E {f : Nat → Nat} {T s : Nat} (hT : gd_cl f T) (hs : s < 17) (hf : 0 < f s) (h : T.testBit (gd_o s) = true ∨ T.testBit (gd_t s) = true) : gd_sub (gd_E s) T := by
  have e := gd_c_f (hT s hs hf)
  rw [gd_sub_E]
  rcases h with h | h
  · exact ⟨h, by rw [← e]; exact h⟩
  · exact ⟨by rw [e]; exact h, h⟩
/-! the component's step -/
def gd_nb (f : Nat → Nat) (S : Nat) : Nat → Nat
  | 0 => S
  | s + 1 => if gd_c s S = true ∧ 0 < f s then gd_nb f S s ||| gd_E s else gd_nb f S s
theorem gd_nb_in (f : Nat → Nat) (S : Nat) : ∀ n, gd_sub S (gd_nb f S n) := by
  intro n
  induction n with
  | zero => exact gd_sub_rf S
  | succ n ih =>
    simp only [gd_nb]
    split
    · exact gd_sub_tr ih (gd_sub_l _ _)
    · exact ih
theorem gd_nb_lt (f : Nat → Nat) (S : Nat) (hS : S < 4096) : ∀ n, n ≤ 17 → gd_nb f S n < 4096 := by
  intro n
  induction n with
  | zero => intro _; exact hS
  | succ n ih =>
    intro hn
    simp only [gd_nb]
    split
    · exact Nat.or_lt_two_pow (n := 12) (ih (by omega)) (gd_Elt n (by omega))
    · exact ih (by omega)
theorem gd_nb_up (f : Nat → Nat) (S T : Nat) (hT : gd_cl f T) (h : gd_sub S T) : ∀ n, n ≤ 17 → gd_sub (gd_nb f S n) T := by
  intro n
  induction n with
  | zero => intro _; exact h
  | succ n ih =>
    intro hn
    simp only [gd_nb]
    split
    · rename_i hc
      refine gd_sub_o (ih (by omega)) (gd_cl_E hT (by omega) hc.2 ?_)
      rcases (gd_c_t hc.1).2 with z | z
      · exact Or.inl (h _ z)
      · exact Or.inr (h _ z)
    · exact ih (by omega)
theorem gd_nb_E (f : Nat → Nat) (S s : Nat) (hc : gd_c s S = true) (hf : 0 < f s) : ∀ n, s < n → gd_sub (gd_E s) (gd_nb f S n) := by
  intro n
  induction n with
  | zero => intro h; omega
  | succ n ih =>
    intro hn
    simp only [gd_nb]
    by_cases e : s = n
    · subst e
      rw [if_pos ⟨hc, hf⟩]
      exact gd_sub_r _ _
    · have h := ih (by omega)
      split
      · exact gd_sub_tr h (gd_sub_l _ _)
      · exact h
theorem gd_nb_fx (f : Nat → Nat) (S : Nat) (h : gd_nb f S 17 = S) : gd_cl f S := by
  intro s hs hf
  cases hc : gd_c s S
  · rfl
  · have h1 := gd_nb_E f S s hc hf 17 hs
    rw [h] at h1
    exact absurd (gd_sub_E.mp h1) (gd_c_t hc).1
/-! the reference's step -/
def gd_ib (f : Nat → Nat) (S : Nat) : Nat → Nat
  | 0 => S
  | s + 1 => if 0 < f s ∧ gd_ib f S s &&& gd_E s ≠ 0 then gd_ib f S s ||| gd_E s else gd_ib f S s
theorem gd_ib_st (f : Nat → Nat) (S n : Nat) : gd_sub (gd_ib f S n) (gd_ib f S (n + 1)) := by
  simp only [gd_ib]
  split
  · exact gd_sub_l _ _
  · exact gd_sub_rf _
theorem gd_ib_mo (f : Nat → Nat) (S : Nat) : ∀ d n, gd_sub (gd_ib f S n) (gd_ib f S (n + d)) := by
  intro d
  induction d with
  | zero => intro n; exact gd_sub_rf _
  | succ d ih => intro n; exact gd_sub_tr (ih n) (gd_ib_st f S (n + d))
theorem gd_ib_in (f : Nat → Nat) (S : Nat) (n : Nat) : gd_sub S (gd_ib f S n) := by
  have h := gd_ib_mo f S n 0
  rw [Nat.zero_add] at h
  exact h
theorem gd_ib_lt (f : Nat → Nat) (S : Nat) (hS : S < 4096) : ∀ n, n ≤ 17 → gd_ib f S n < 4096 := by
  intro n
  induction n with
  | zero => intro _; exact hS
  | succ n ih =>
    intro hn
    simp only [gd_ib]
    split
    · exact Nat.or_lt_two_pow (n := 12) (ih (by omega)) (gd_Elt n (by omega))
    · exact ih (by omega)
theorem gd_ib_up (f : Nat → Nat) (S T : Nat) (hT : gd_cl f T) (h : gd_sub S T) : ∀ n, n ≤ 17 → gd_sub (gd_ib f S n) T := by
  intro n
  induction n with
  | zero => intro _; exact h
  | succ n ih =>
    intro hn
    have hI := ih (by omega)
    simp only [gd_ib]
    split
    · rename_i hc
      refine gd_sub_o hI (gd_cl_E hT (by omega) hc.1 ?_)
      have z := (gd_toE (by omega) _).mp hc.2
      rw [Bool.or_eq_true] at z
      rcases z with z | z
      · exact Or.inl (hI _ z)
      · exact Or.inr (hI _ z)
    · exact hI
theorem gd_ib_fx (f : Nat → Nat) (S : Nat) (h : gd_ib f S 17 = S) : gd_cl f S := by
  intro s hs hf
  cases hc : gd_c s S
  · rfl
  · have h0 : gd_sub S (gd_ib f S s) := gd_ib_in f S s
    have hne : gd_ib f S s &&& gd_E s ≠ 0 := by
      rw [gd_toE hs, Bool.or_eq_true]
      rcases (gd_c_t hc).2 with z | z
      · exact Or.inl (h0 _ z)
      · exact Or.inr (h0 _ z)
    have h1 : gd_sub (gd_E s) (gd_ib f S (s + 1)) := by
      simp only [gd_ib]
      rw [if_pos ⟨hf, hne⟩]
      exact gd_sub_r _ _
    have h2 := gd_ib_mo f S (16 - s) (s + 1)
    rw [show s + 1 + (16 - s) = 17 from by omega, h] at h2
    exact absurd (gd_sub_E.mp (gd_sub_tr h1 h2)) (gd_c_t hc).1
/-! counting -/
def gd_pc (S : Nat) : Nat → Nat
  | 0 => 0
  | k + 1 => gd_pc S k + (S.testBit k).toNat
theorem gd_bl (b : Bool) : b.toNat ≤ 1 := by cases b <;> decide
theorem gd_pc_le (S : Nat) : ∀ n, gd_pc S n ≤ n := by
  intro n
  induction n with
  | zero => exact Nat.le_refl _
  | succ n ih =>
    have := gd_bl (S.testBit n)
    simp only [gd_pc]
    omega
theorem gd_pc_al (S : Nat) : ∀ n, n ≤ gd_pc S n → ∀ k, k < n → S.testBit k = true := by
  intro n
  induction n with
  | zero => intro _ k hk; omega
  | succ n ih =>
    intro h k hk
    have h1 := gd_pc_le S n
    have h2 := gd_bl (S.testBit n)
    simp only [gd_pc] at h
    by_cases e : k = n
    · subst e
      cases z : S.testBit k
      · rw [z] at h
        simp only [Bool.toNat_false] at h
        omega
      · rfl
    · exact ih (by omega) k (by omega)
theorem gd_bm {a b : Bool} (h : a = true → b = true) : a.toNat ≤ b.toNat := by
  cases a <;> cases b <;> first | decide | exact absurd (h rfl) (by decide)
theorem gd_pc_mo {S T : Nat} (h : gd_sub S T) : ∀ n, gd_pc S n ≤ gd_pc T n := by
  intro n
  induction n with
  | zero => exact Nat.le_refl _
  | succ n ih =>
    have := gd_bm (h n)
    simp only [gd_pc]
    omega
theorem gd_pc_st {S T k : Nat} (h : gd_sub S T) (h0 : S.testBit k = false) (h1 : T.testBit k = true) : ∀ n, k < n → gd_pc S n < gd_pc T n := by
  intro n
  induction n with
  | zero => intro z; omega
  | succ n ih =>
    intro hn
    have hb := gd_bm (h n)
    have hm := gd_pc_mo h n
    simp only [gd_pc]
    by_cases e : k = n
    · subst e
      rw [h0, h1]
      simp only [Bool.toNat_false, Bool.toNat_true]
      omega
    · have := ih (by omega)
      omega
theorem gd_hi {S k : Nat} (h : S < 4096) (hk : 12 ≤ k) : S.testBit k = false := by
  apply Nat.testBit_lt_two_pow
  exact Nat.lt_of_lt_of_le h (Nat.pow_le_pow_right (n := 2) (by decide) hk)
theorem gd_df {S T : Nat} (h : gd_sub S T) (hS : S < 4096) (hT : T < 4096) (hne : T ≠ S) : gd_pc S 12 < gd_pc T 12 := by
  have hx : ∃ k, k < 12 ∧ S.testBit k = false ∧ T.testBit k = true := by
    apply Classical.byContradiction
    intro hn
    apply hne
    apply gd_sub_as _ h
    intro k hk
    by_cases h12 : k < 12
    · cases z : S.testBit k
      · exact absurd ⟨k, h12, z, hk⟩ hn
      · rfl
    · rw [gd_hi hT (by omega)] at hk
      exact absurd hk (by decide)
  obtain ⟨k, hk, h0, h1⟩ := hx
  exact gd_pc_st h h0 h1 12 hk
/-! iterating -/
def gd_it (g : Nat → Nat) (S : Nat) : Nat → Nat
  | 0 => S
  | r + 1 => g (gd_it g S r)
theorem gd_it_lt (g : Nat → Nat) (S : Nat) (hS : S < 4096) (hl : ∀ S, S < 4096 → g S < 4096) : ∀ r, gd_it g S r < 4096 := by
  intro r
  induction r with
  | zero => exact hS
  | succ r ih => exact hl _ ih
theorem gd_it_in (g : Nat → Nat) (S : Nat) (hi : ∀ S, gd_sub S (g S)) : ∀ r, gd_sub S (gd_it g S r) := by
  intro r
  induction r with
  | zero => exact gd_sub_rf S
  | succ r ih => exact gd_sub_tr ih (hi _)
theorem gd_it_up (g : Nat → Nat) (S T : Nat) (h : gd_sub S T) (hu : ∀ S, gd_sub S T → gd_sub (g S) T) : ∀ r, gd_sub (gd_it g S r) T := by
  intro r
  induction r with
  | zero => exact h
  | succ r ih => exact hu _ ih
theorem gd_it_pr (g : Nat → Nat) (S : Nat) (hS : S < 4096) (h1 : 1 ≤ gd_pc S 12) (hl : ∀ S, S < 4096 → g S < 4096) (hi : ∀ S, gd_sub S (g S)) : ∀ r, g (gd_it g S r) = gd_it g S r ∨ r + 1 ≤ gd_pc (gd_it g S r) 12 := by
  intro r
  induction r with
  | zero => exact Or.inr h1
  | succ r ih =>
    have hlt := gd_it_lt g S hS hl r
    by_cases e : g (gd_it g S r) = gd_it g S r
    · left
      show g (g (gd_it g S r)) = g (gd_it g S r)
      rw [e, e]
    · right
      rcases ih with ih | ih
      · exact absurd ih e
      · have h2 := gd_df (hi (gd_it g S r)) hlt (hl _ hlt) e
        show r + 1 + 1 ≤ gd_pc (g (gd_it g S r)) 12
        omega
theorem gd_it_cl (f : Nat → Nat) (g : Nat → Nat) (S : Nat) (hS : S < 4096) (h1 : 1 ≤ gd_pc S 12) (hl : ∀ S, S < 4096 → g S < 4096) (hi : ∀ S, gd_sub S (g S)) (hf : ∀ S, g S = S → gd_cl f S) (r : Nat) (hr : 11 ≤ r) : gd_cl f (gd_it g S r) := by
  rcases gd_it_pr g S hS h1 hl hi r with h | h
  · exact hf _ h
  · have hb := gd_pc_al (gd_it g S r) 12 (by omega)
    intro s hs _
    have hz := gd_ot s hs
    unfold gd_c
    rw [hb _ hz.1, hb _ hz.2]
    rfl
theorem gd_pc_1 : ∀ a, a < 12 → 1 ≤ gd_pc (2 ^ a) 12 ∧ 2 ^ a < 4096 := by decide +kernel
/-- both ways of spreading end in the same set -/
theorem gd_way (f : Nat → Nat) {a : Nat} (ha : a < 12) : gd_it (fun S => gd_nb f S 17) (2 ^ a) 11 = gd_it (fun S => gd_ib f S 17) (2 ^ a) 12 := by
  have h := gd_pc_1 a ha
  have lx : ∀ S, S < 4096 → (fun S => gd_nb f S 17) S < 4096 := fun S hS => gd_nb_lt f S hS 17 (Nat.le_refl _)
  have ly : ∀ S, S < 4096 → (fun S => gd_ib f S 17) S < 4096 := fun S hS => gd_ib_lt f S hS 17 (Nat.le_refl _)
  have ix : ∀ S, gd_sub S ((fun S => gd_nb f S 17) S) := fun S => gd_nb_in f S 17
  have iy : ∀ S, gd_sub S ((fun S => gd_ib f S 17) S) := fun S => gd_ib_in f S 17
  have cx := gd_it_cl f _ (2 ^ a) h.2 h.1 lx ix (fun S => gd_nb_fx f S) 11 (by omega)
  have cy := gd_it_cl f _ (2 ^ a) h.2 h.1 ly iy (fun S => gd_ib_fx f S) 12 (by omega)
  apply gd_sub_as
  · exact gd_it_up _ _ _ (gd_it_in _ _ iy 12) (fun S hS => gd_nb_up f S _ cy hS 17 (Nat.le_refl _)) 11
  · exact gd_it_up _ _ _ (gd_it_in _ _ ix 11) (fun S hS => gd_ib_up f S _ cx hS 17 (Nat.le_refl _)) 12
