/-! the pure picture: the grid, weights, least weights, the and and or of the least cuts -/
def gd_o (s : Nat) : Nat := if s < 9 then 4 * (s / 3) + s % 3 else s - 9
def gd_t (s : Nat) : Nat := if s < 9 then 4 * (s / 3) + s % 3 + 1 else s - 5
def gd_E (s : Nat) : Nat := 2 ^ gd_o s ||| 2 ^ gd_t s
def gd_c (s cut : Nat) : Bool := cut.testBit (gd_o s) != cut.testBit (gd_t s)
theorem gd_ot : ∀ s, s < 17 → gd_o s < 12 ∧ gd_t s < 12 := by decide +kernel
theorem gd_Elt : ∀ s, s < 17 → gd_E s < 4096 := by decide +kernel
theorem gd_cr1 : ∀ s, s < 17 → ∀ a b : Bool, (((a.toNat * 2 ^ gd_o s ||| b.toNat * 2 ^ gd_t s) ≠ 0 ∧ (a.toNat * 2 ^ gd_o s ||| b.toNat * 2 ^ gd_t s) ≠ gd_E s) ↔ (a != b) = true) := by decide +kernel
theorem gd_cr2 : ∀ s, s < 17 → ∀ a b : Bool, ((a.toNat * 2 ^ gd_o s ||| b.toNat * 2 ^ gd_t s) ≠ 0 ↔ (a || b) = true) := by decide +kernel
theorem gd_and2 (n i : Nat) : n &&& 2 ^ i = (n.testBit i).toNat * 2 ^ i := by
  apply Nat.eq_of_testBit_eq
  intro j
  rw [Nat.testBit_and, Nat.testBit_two_pow]
  by_cases e : i = j
  · subst e
    cases h : n.testBit i <;> simp [Nat.testBit_two_pow]
  · cases h : n.testBit i <;> simp [e, Nat.testBit_two_pow]
theorem gd_andE (s cut : Nat) : cut &&& gd_E s = ((cut.testBit (gd_o s)).toNat * 2 ^ gd_o s ||| (cut.testBit (gd_t s)).toNat * 2 ^ gd_t s) := by
  unfold gd_E
  rw [Nat.and_or_distrib_left, gd_and2, gd_and2]
theorem gd_crE {s : Nat} (hs : s < 17) (cut : Nat) : (cut &&& gd_E s ≠ 0 ∧ cut &&& gd_E s ≠ gd_E s) ↔ gd_c s cut = true := by
  rw [gd_andE]
  exact gd_cr1 s hs _ _
theorem gd_toE {s : Nat} (hs : s < 17) (cut : Nat) : cut &&& gd_E s ≠ 0 ↔ (cut.testBit (gd_o s) || cut.testBit (gd_t s)) = true := by
  rw [gd_andE]
  exact gd_cr2 s hs _ _
/-! numbers and bits -/
theorem gd_or (a b : Nat) : nI a ||| nI b = nI (a ||| b) := by
  apply Int32.toBitVec_inj.1
  show BitVec.ofNat 32 a ||| BitVec.ofNat 32 b = BitVec.ofNat 32 (a ||| b)
  apply BitVec.eq_of_getLsbD_eq
  intro i hi
  simp [hi]
theorem gd_shl {k : Nat} (h : k < 31) : (1 : Int32) <<< (nI k &&& 31) = nI (2 ^ k) := by
  have h2 : 1 * 2 ^ k < 2 ^ 32 := by
    rw [Nat.one_mul]
    exact Nat.pow_lt_pow_right (by decide) (by omega)
  have e := pk_shlN (n := 1) (nI k &&& 31) k (s_l k (by omega)) h2
  rw [Nat.one_mul] at e
  exact e
theorem gd_bit {n k : Nat} (hn : n < 2 ^ 31) (hk : k < 32) : (nI n >>> (nI k &&& 31)) &&& 1 = nI (n.testBit k).toNat := by
  have h2 : n / 2 ^ k ≤ n := Nat.div_le_self _ _
  rw [pk_shrN hn _ k (s_l k hk), pk_andN (by omega) 1 (by decide), Nat.toNat_testBit, Nat.pow_one]
theorem gd_beq (a b : Bool) : nI a.toNat = nI b.toNat ↔ (a != b) = false := by
  cases a <;> cases b <;> decide
theorem gd_bt0 (a : Bool) : nI a.toNat = 0 ↔ a = false := by
  cases a <;> decide
theorem gd_has (n k : Nat) : n &&& 2 ^ k = 0 ↔ n.testBit k = false := by
  rw [gd_and2]
  have hp : 0 < 2 ^ k := Nat.two_pow_pos k
  cases n.testBit k
  · simp
  · simp
theorem gd_has' (n k : Nat) : n &&& 2 ^ k = 2 ^ k ↔ n.testBit k = true := by
  rw [gd_and2]
  have hp : 0 < 2 ^ k := Nat.two_pow_pos k
  cases n.testBit k
  · simp
    omega
  · simp
/-! weights -/
def gd_W (f : Nat → Nat) (cut : Nat) : Nat → Nat
  | 0 => 0
  | s + 1 => gd_W f cut s + (if gd_c s cut = true then f s else 0)
theorem gd_W_le (f : Nat → Nat) (cut b : Nat) : ∀ n, (∀ s, s < n → f s ≤ b) → gd_W f cut n ≤ n * b := by
  intro n
  induction n with
  | zero => intro _; exact Nat.zero_le _
  | succ n ih =>
    intro h
    have h1 := ih (fun s hs => h s (by omega))
    have h2 := h n (by omega)
    unfold gd_W
    rw [Nat.succ_mul]
    split <;> omega
theorem gd_W_up (f : Nat → Nat) (cut q v : Nat) : ∀ n, gd_W (fun s => if s = q then v else f s) cut n + (if q < n ∧ gd_c q cut = true then f q else 0) = gd_W f cut n + (if q < n ∧ gd_c q cut = true then v else 0) := by
  intro n
  induction n with
  | zero => simp [gd_W]
  | succ n ih =>
    simp only [gd_W]
    by_cases e : n = q
    · subst e
      rw [if_neg (show ¬ (n < n ∧ gd_c n cut = true) from fun h => Nat.lt_irrefl _ h.1), if_neg (show ¬ (n < n ∧ gd_c n cut = true) from fun h => Nat.lt_irrefl _ h.1)] at ih
      by_cases h : gd_c n cut = true
      · have h3 : n < n + 1 ∧ gd_c n cut = true := ⟨Nat.lt_succ_self n, h⟩
        rw [if_pos h, if_pos h, if_pos h3, if_pos h3, if_pos rfl]
        omega
      · have h3 : ¬ (n < n + 1 ∧ gd_c n cut = true) := fun z => h z.2
        rw [if_neg h, if_neg h, if_neg h3, if_neg h3]
        omega
    · have e2 : (q < n + 1 ∧ gd_c q cut = true) ↔ (q < n ∧ gd_c q cut = true) := ⟨fun z => ⟨by omega, z.2⟩, fun z => ⟨by omega, z.2⟩⟩
      simp only [e2, if_neg e]
      omega
theorem gd_W_17 (f : Nat → Nat) (cut v : Nat) {q : Nat} (hq : q < 17) : gd_W (fun s => if s = q then v else f s) cut 17 + (if gd_c q cut = true then f q else 0) = gd_W f cut 17 + (if gd_c q cut = true then v else 0) := by
  have h := gd_W_up f cut q v 17
  have e : (q < 17 ∧ gd_c q cut = true) ↔ gd_c q cut = true := ⟨fun z => z.2, fun z => ⟨hq, z⟩⟩
  simp only [e] at h
  exact h
theorem gd_W_cg (f g : Nat → Nat) (cut : Nat) : ∀ n, (∀ s, s < n → f s = g s) → gd_W f cut n = gd_W g cut n := by
  intro n
  induction n with
  | zero => intro _; rfl
  | succ n ih =>
    intro h
    simp only [gd_W]
    rw [ih (fun s hs => h s (by omega)), h n (by omega)]
/-! the least weight -/
def gd_mn (w : Nat → Nat) (p : Nat → Bool) : Nat → Nat
  | 0 => 1000
  | i + 1 => if p (2 * i + 1) = true then (if w (2 * i + 1) < gd_mn w p i then w (2 * i + 1) else gd_mn w p i) else gd_mn w p i
theorem gd_mn_le (w : Nat → Nat) (p : Nat → Bool) : ∀ n, gd_mn w p n ≤ 1000 := by
  intro n
  induction n with
  | zero => exact Nat.le_refl _
  | succ n ih =>
    simp only [gd_mn]
    split
    · split <;> omega
    · exact ih
theorem gd_mn_cg (w w' : Nat → Nat) (p p' : Nat → Bool) : ∀ n, (∀ i, i < n → w (2 * i + 1) = w' (2 * i + 1) ∧ p (2 * i + 1) = p' (2 * i + 1)) → gd_mn w p n = gd_mn w' p' n := by
  intro n
  induction n with
  | zero => intro _; rfl
  | succ n ih =>
    intro h
    simp only [gd_mn]
    rw [ih (fun s hs => h s (by omega)), (h n (by omega)).1, (h n (by omega)).2]
theorem gd_mn_lb (w : Nat → Nat) (p : Nat → Bool) : ∀ n i, i < n → p (2 * i + 1) = true → gd_mn w p n ≤ w (2 * i + 1) := by
  intro n
  induction n with
  | zero => intro i hi; omega
  | succ n ih =>
    intro i hi hp
    simp only [gd_mn]
    by_cases e : i = n
    · subst e
      rw [if_pos hp]
      split <;> omega
    · have h := ih i (by omega) hp
      split
      · split <;> omega
      · exact h
theorem gd_mn_at (w : Nat → Nat) (p : Nat → Bool) : ∀ n, gd_mn w p n < 1000 → ∃ i, i < n ∧ p (2 * i + 1) = true ∧ w (2 * i + 1) = gd_mn w p n := by
  intro n
  induction n with
  | zero => intro h; exact absurd h (by simp [gd_mn])
  | succ n ih =>
    simp only [gd_mn]
    intro h
    by_cases hp : p (2 * n + 1) = true
    · rw [if_pos hp] at h ⊢
      by_cases hw : w (2 * n + 1) < gd_mn w p n
      · rw [if_pos hw]
        exact ⟨n, by omega, hp, rfl⟩
      · rw [if_neg hw] at h ⊢
        obtain ⟨i, hi, h1, h2⟩ := ih h
        exact ⟨i, by omega, h1, h2⟩
    · rw [if_neg hp] at h ⊢
      obtain ⟨i, hi, h1, h2⟩ := ih h
      exact ⟨i, by omega, h1, h2⟩
/-- the reference's found -/
def gd_fd (m : Nat) : Int32 := if m = 1000 then -1 else nI m
theorem gd_fd0 {m : Nat} (h : m ≤ 1000) : gd_fd m < 0 ↔ m = 1000 := by
  unfold gd_fd
  by_cases e : m = 1000
  · rw [if_pos e]
    exact ⟨fun _ => e, fun _ => by decide⟩
  · rw [if_neg e]
    exact ⟨fun z => absurd z (nI_pos (by omega)), fun z => absurd z e⟩
/-! the and and the or of the cuts of one weight -/
def gd_an (w : Nat → Nat) (m : Nat) : Nat → Nat
  | 0 => 2047
  | i + 1 => if w (2 * i + 1) = m then gd_an w m i &&& (2 * i + 1) else gd_an w m i
theorem gd_an_le (w : Nat → Nat) (m : Nat) : ∀ n, gd_an w m n ≤ 2047 := by
  intro n
  induction n with
  | zero => exact Nat.le_refl _
  | succ n ih =>
    simp only [gd_an]
    split
    · exact Nat.le_trans Nat.and_le_left ih
    · exact ih
def gd_un (w : Nat → Nat) (m b : Nat) : Nat → Nat
  | 0 => b
  | i + 1 => if w (2 * i + 1) = m then gd_un w m b i ||| (2 * i + 1) else gd_un w m b i
theorem gd_un_1 (w : Nat → Nat) (m : Nat) : ∀ n, gd_un w m 1 n = gd_un w m 0 n ||| 1 := by
  intro n
  induction n with
  | zero => simp [gd_un]
  | succ n ih =>
    simp only [gd_un]
    split
    · rw [ih, Nat.or_assoc, Nat.or_assoc, Nat.or_comm 1]
    · exact ih
theorem gd_odd (i : Nat) : (2 * i + 1).testBit 0 = true := by
  rw [Nat.testBit_zero]
  exact decide_eq_true (by omega)
theorem gd_un_b (w : Nat → Nat) (m : Nat) : ∀ n i, i < n → w (2 * i + 1) = m → (gd_un w m 0 n).testBit 0 = true := by
  intro n
  induction n with
  | zero => intro i hi; omega
  | succ n ih =>
    intro i hi h
    simp only [gd_un]
    by_cases e : i = n
    · subst e
      rw [if_pos h, Nat.testBit_or, gd_odd, Bool.or_true]
    · have h2 := ih i (by omega) h
      split
      · rw [Nat.testBit_or, h2, Bool.true_or]
      · exact h2
theorem gd_or1 (x : Nat) (h : x.testBit 0 = true) : x ||| 1 = x := by
  apply Nat.eq_of_testBit_eq
  intro j
  rw [Nat.testBit_or]
  by_cases e : j = 0
  · subst e
    rw [h, Bool.true_or]
  · have h1 : Nat.testBit 1 j = false := by
      have := Nat.testBit_two_pow_of_ne (n := 0) (m := j) (fun z => e z.symm)
      exact this
    rw [h1, Bool.or_false]
theorem gd_un_e (w : Nat → Nat) (m n i : Nat) (hi : i < n) (h : w (2 * i + 1) = m) : gd_un w m 1 n = gd_un w m 0 n := by
  rw [gd_un_1]
  exact gd_or1 _ (gd_un_b w m n i hi h)
