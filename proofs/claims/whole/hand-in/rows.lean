section
/-! rows pasted from kit/rows -/
theorem pk_us {f : Nat → Int32} {k : Nat} {x : Int32} : upd f k x k = x := if_pos rfl
theorem pk_un {f : Nat → Int32} {k j : Nat} {x : Int32} (h : j ≠ k) : upd f k x j = f j := if_neg h
theorem pk_sub {a b : Nat} (h : b ≤ a) : nI a - nI b = nI (a - b) := by
  obtain ⟨c, rfl⟩ : ∃ c, a = c + b := ⟨a - b, by omega⟩
  rw [← nI_add, Int32.add_sub_cancel, Nat.add_sub_cancel]
theorem pk_m1 (n : Nat) : nI (n + 1) + (-1) = nI n := by
  rw [← nI_1, Int32.add_assoc, show (1 : Int32) + (-1) = 0 from rfl, Int32.add_zero]
theorem pk_mul (a b : Nat) : nI a * nI b = nI (a * b) := (Int32.ofNat_mul a b).symm
theorem pk_div {a d : Nat} (ha : a < 2 ^ 31) (h0 : 0 < d) (hd : d < 2 ^ 31) : nI a / nI d = nI (a / d) := by
  apply Int32.toInt_inj.mp
  rw [lg_idiv_nonneg (by rw [nI_toInt ha]; omega) (by rw [nI_toInt hd]; omega), nI_toInt ha, nI_toInt hd, nI_toInt (Nat.lt_of_le_of_lt (Nat.div_le_self a d) ha)]
  first | rfl | exact (Int.natCast_ediv _ _).symm
theorem pk_rem {a d : Nat} (ha : a < 2 ^ 31) (h0 : 0 < d) (hd : d < 2 ^ 31) : nI a - nI a / nI d * nI d = nI (a % d) := by
  rw [pk_div ha h0 hd, pk_mul, pk_sub (Nat.div_mul_le_self a d)]
  exact congrArg nI (by have := Nat.div_add_mod' a d; omega)
theorem pk_ix (x : Int32) {n : Nat} (hn : n < 2 ^ 31) : x < 0 ∨ nI n ≤ x ∨ ∃ j : Nat, j < n ∧ x = nI j := by
  by_cases h : x < 0
  · exact Or.inl h
  · obtain ⟨j, hj, rfl⟩ := nI_of h
    by_cases h2 : j < n
    · exact Or.inr (Or.inr ⟨j, h2, rfl⟩)
    · exact Or.inr (Or.inl (nI_le (by omega) hj))
theorem pk_le {x y : Int32} {A B : Prop} (a b : Nat) (f : a ≤ b → A) (g : b < a → B) (hx : x = nI a := by rfl) (hy : y = nI b := by rfl) (ha : a < 2 ^ 31 := by omega) (hb : b < 2 ^ 31 := by omega) : (x ≤ y → A) ∧ (¬ x ≤ y → B) := by
  subst hx hy
  rw [nI_leI ha hb]
  exact ⟨f, fun z => g (by omega)⟩
theorem pk_lt {x y : Int32} {A B : Prop} (a b : Nat) (f : a < b → A) (g : b ≤ a → B) (hx : x = nI a := by rfl) (hy : y = nI b := by rfl) (ha : a < 2 ^ 31 := by omega) (hb : b < 2 ^ 31 := by omega) : (x < y → A) ∧ (¬ x < y → B) := by
  subst hx hy
  rw [nI_ltI ha hb]
  exact ⟨f, fun z => g (by omega)⟩
theorem pk_eq {x y : Int32} {A B : Prop} (a b : Nat) (f : a = b → A) (g : a ≠ b → B) (hx : x = nI a := by rfl) (hy : y = nI b := by rfl) (ha : a < 2 ^ 31 := by omega) (hb : b < 2 ^ 31 := by omega) : (x = y → A) ∧ (¬ x = y → B) := by
  subst hx hy
  rw [nI_eq ha hb]
  exact ⟨f, g⟩
theorem pk_in {x : Int32} (n N : Nat) (h : n < N) (hx : x = nI n := by rfl) (hN : N < 2 ^ 31 := by omega) : vp_in x N := by
  subst hx
  exact vp_in_nI h hN
theorem pk_cl {x : Int32} (n : Nat) (hx : x = nI n := by rfl) (h : n < 2 ^ 31 := by omega) : x.toNatClampNeg = n := by
  subst hx
  exact nI_clamp h
theorem pk_tn {n : Nat} (h : n < 2 ^ 32) : (nI n).toBitVec.toNat = n := Nat.mod_eq_of_lt h
theorem pk_and (x : Int32) {m : Int32} (k : Nat) (hm : m.toBitVec.toNat = 2 ^ k - 1) : x &&& m = nI (x.toBitVec.toNat % 2 ^ k) := by
  apply Int32.toBitVec_inj.mp
  apply BitVec.eq_of_toNat_eq
  rw [Int32.toBitVec_and, BitVec.toNat_and, hm, Nat.and_two_pow_sub_one_eq_mod]
  show _ = (BitVec.ofNat 32 _).toNat
  rw [BitVec.toNat_ofNat]
  exact (Nat.mod_eq_of_lt (Nat.lt_of_le_of_lt (Nat.mod_le _ _) x.toBitVec.isLt)).symm
theorem pk_andN {n : Nat} (h : n < 2 ^ 32) {m : Int32} (k : Nat) (hm : m.toBitVec.toNat = 2 ^ k - 1) : nI n &&& m = nI (n % 2 ^ k) := by
  rw [pk_and _ k hm, pk_tn h]
theorem pk_shl (a s : Int32) (k : Nat) (hs : (s.toBitVec.smod 32).toNat = k) : (a <<< s).toBitVec.toNat = a.toBitVec.toNat * 2 ^ k % 2 ^ 32 := by
  show (a.toBitVec <<< (s.toBitVec.smod 32).toNat).toNat = _
  rw [hs, BitVec.toNat_shiftLeft, Nat.shiftLeft_eq]
theorem pk_shlN {n : Nat} (s : Int32) (k : Nat) (hs : (s.toBitVec.smod 32).toNat = k) (h : n * 2 ^ k < 2 ^ 32) : nI n <<< s = nI (n * 2 ^ k) := by
  apply Int32.toBitVec_inj.mp
  apply BitVec.eq_of_toNat_eq
  have hn : n < 2 ^ 32 := Nat.lt_of_le_of_lt (Nat.le_mul_of_pos_right n (Nat.two_pow_pos k)) h
  rw [pk_shl _ _ k hs, pk_tn hn, pk_tn h, Nat.mod_eq_of_lt h]
theorem pk_shr (a s : Int32) (k : Nat) (hs : (s.toBitVec.smod 32).toNat = k) : (a >>> s).toInt = a.toInt >>> k := by
  show (a.toBitVec.sshiftRight (s.toBitVec.smod 32).toNat).toInt = _
  rw [hs, BitVec.toInt_sshiftRight]
  rfl
theorem pk_shrN {n : Nat} (h : n < 2 ^ 31) (s : Int32) (k : Nat) (hs : (s.toBitVec.smod 32).toNat = k) : nI n >>> s = nI (n / 2 ^ k) := by
  apply Int32.toInt_inj.mp
  have h2 : n / 2 ^ k ≤ n := Nat.div_le_self _ _
  rw [pk_shr _ _ k hs, nI_toInt h, nI_toInt (by omega), Int.shiftRight_eq_div_pow]
  rfl
theorem pk_loop {σ : Type} (W : Nat → Nat → σ → Prop) (I : Nat → σ → Prop) (e i0 : Nat) (s : σ) (hi : i0 ≤ e) (h0 : I i0 s) (hx : ∀ n s, I e s → W (n + 1) e s)
    (hs : ∀ n i s, i < e → I i s → (∀ s', I (i + 1) s' → W n (i + 1) s') → W (n + 1) i s) : ∃ n, W n i0 s :=
  ⟨e + 1, loop_i W I e hx hs (e + 1) i0 s hi (by omega) h0⟩
theorem s_l : ∀ n, n < 32 → ((nI n &&& 31).toBitVec.smod 32).toNat = n := by decide +kernel
theorem nx_and (a b : Nat) : nI a &&& nI b = nI (a &&& b) := by
  apply Int32.toBitVec_inj.1
  show BitVec.ofNat 32 a &&& BitVec.ofNat 32 b = BitVec.ofNat 32 (a &&& b)
  apply BitVec.eq_of_getLsbD_eq
  intro i hi
  simp [hi]
end
section
/-! the pure picture: the grid, weights, least weights, the and and or of the least cuts -/
def gd_o (s : Nat) : Nat := if s < 9 then 4 * (s / 3) + s % 3 else s - 9
def gd_t (s : Nat) : Nat := if s < 9 then 4 * (s / 3) + s % 3 + 1 else s - 5
def gd_E (s : Nat) : Nat := 2 ^ gd_o s ||| 2 ^ gd_t s
def gd_c (s cut : Nat) : Bool := cut.testBit (gd_o s) != cut.testBit (gd_t s)
theorem gd_ot : ∀ s, s < 17 → gd_o s < 12 ∧ gd_t s < 12 := by decide +kernel
theorem gd_Elt : ∀ s, s < 17 → gd_E s < 4096 := by decide +kernel
theorem gd_cr1 : ∀ s, s < 17 → ∀ a b : Bool, (((a.toNat * 2 ^ gd_o s ||| b.toNat * 2 ^ gd_t s) ≠ 0 ∧ (a.toNat * 2 ^ gd_o s ||| b.toNat * 2 ^ gd_t s) ≠ gd_E s) ↔ (a != b) = true) := by decide +kernel
theorem gd_cr2 : ∀ s, s < 17 → ∀ a b : Bool, ((a.toNat * 2 ^ gd_o s ||| b.toNat * 2 ^ gd_t s) ≠ 0 ↔ (a || b) = true) := by decide +kernel
theorem gd_and2 (n i : Nat) : n &&& 2 ^ i = (n.testBit i).toNat * 2 ^ i := by
  apply Nat.eq_of_testBit_eq
  intro j
  rw [Nat.testBit_and, Nat.testBit_two_pow]
  by_cases e : i = j
  · subst e
    cases h : n.testBit i <;> simp [Nat.testBit_two_pow]
  · cases h : n.testBit i <;> simp [e, Nat.testBit_two_pow]
theorem gd_andE (s cut : Nat) : cut &&& gd_E s = ((cut.testBit (gd_o s)).toNat * 2 ^ gd_o s ||| (cut.testBit (gd_t s)).toNat * 2 ^ gd_t s) := by
  unfold gd_E
  rw [Nat.and_or_distrib_left, gd_and2, gd_and2]
theorem gd_crE {s : Nat} (hs : s < 17) (cut : Nat) : (cut &&& gd_E s ≠ 0 ∧ cut &&& gd_E s ≠ gd_E s) ↔ gd_c s cut = true := by
  rw [gd_andE]
  exact gd_cr1 s hs _ _
theorem gd_toE {s : Nat} (hs : s < 17) (cut : Nat) : cut &&& gd_E s ≠ 0 ↔ (cut.testBit (gd_o s) || cut.testBit (gd_t s)) = true := by
  rw [gd_andE]
  exact gd_cr2 s hs _ _
/-! numbers and bits -/
theorem gd_or (a b : Nat) : nI a ||| nI b = nI (a ||| b) := by
  apply Int32.toBitVec_inj.1
  show BitVec.ofNat 32 a ||| BitVec.ofNat 32 b = BitVec.ofNat 32 (a ||| b)
  apply BitVec.eq_of_getLsbD_eq
  intro i hi
  simp [hi]
theorem gd_shl {k : Nat} (h : k < 31) : (1 : Int32) <<< (nI k &&& 31) = nI (2 ^ k) := by
  have h2 : 1 * 2 ^ k < 2 ^ 32 := by
    rw [Nat.one_mul]
    exact Nat.pow_lt_pow_right (by decide) (by omega)
  have e := pk_shlN (n := 1) (nI k &&& 31) k (s_l k (by omega)) h2
  rw [Nat.one_mul] at e
  exact e
theorem gd_bit {n k : Nat} (hn : n < 2 ^ 31) (hk : k < 32) : (nI n >>> (nI k &&& 31)) &&& 1 = nI (n.testBit k).toNat := by
  have h2 : n / 2 ^ k ≤ n := Nat.div_le_self _ _
  rw [pk_shrN hn _ k (s_l k hk), pk_andN (by omega) 1 (by decide), Nat.toNat_testBit, Nat.pow_one]
theorem gd_beq (a b : Bool) : nI a.toNat = nI b.toNat ↔ (a != b) = false := by
  cases a <;> cases b <;> decide
theorem gd_bt0 (a : Bool) : nI a.toNat = 0 ↔ a = false := by
  cases a <;> decide
theorem gd_has (n k : Nat) : n &&& 2 ^ k = 0 ↔ n.testBit k = false := by
  rw [gd_and2]
  have hp : 0 < 2 ^ k := Nat.two_pow_pos k
  cases n.testBit k
  · simp
  · simp
theorem gd_has' (n k : Nat) : n &&& 2 ^ k = 2 ^ k ↔ n.testBit k = true := by
  rw [gd_and2]
  have hp : 0 < 2 ^ k := Nat.two_pow_pos k
  cases n.testBit k
  · simp
    omega
  · simp
/-! weights -/
def gd_W (f : Nat → Nat) (cut : Nat) : Nat → Nat
  | 0 => 0
  | s + 1 => gd_W f cut s + (if gd_c s cut = true then f s else 0)
theorem gd_W_le (f : Nat → Nat) (cut b : Nat) : ∀ n, (∀ s, s < n → f s ≤ b) → gd_W f cut n ≤ n * b := by
  intro n
  induction n with
  | zero => intro _; exact Nat.zero_le _
  | succ n ih =>
    intro h
    have h1 := ih (fun s hs => h s (by omega))
    have h2 := h n (by omega)
    unfold gd_W
    rw [Nat.succ_mul]
    split <;> omega
theorem gd_W_up (f : Nat → Nat) (cut q v : Nat) : ∀ n, gd_W (fun s => if s = q then v else f s) cut n + (if q < n ∧ gd_c q cut = true then f q else 0) = gd_W f cut n + (if q < n ∧ gd_c q cut = true then v else 0) := by
  intro n
  induction n with
  | zero => simp [gd_W]
  | succ n ih =>
    simp only [gd_W]
    by_cases e : n = q
    · subst e
      rw [if_neg (show ¬ (n < n ∧ gd_c n cut = true) from fun h => Nat.lt_irrefl _ h.1), if_neg (show ¬ (n < n ∧ gd_c n cut = true) from fun h => Nat.lt_irrefl _ h.1)] at ih
      by_cases h : gd_c n cut = true
      · have h3 : n < n + 1 ∧ gd_c n cut = true := ⟨Nat.lt_succ_self n, h⟩
        rw [if_pos h, if_pos h, if_pos h3, if_pos h3, if_pos rfl]
        omega
      · have h3 : ¬ (n < n + 1 ∧ gd_c n cut = true) := fun z => h z.2
        rw [if_neg h, if_neg h, if_neg h3, if_neg h3]
        omega
    · have e2 : (q < n + 1 ∧ gd_c q cut = true) ↔ (q < n ∧ gd_c q cut = true) := ⟨fun z => ⟨by omega, z.2⟩, fun z => ⟨by omega, z.2⟩⟩
      simp only [e2, if_neg e]
      omega
theorem gd_W_17 (f : Nat → Nat) (cut v : Nat) {q : Nat} (hq : q < 17) : gd_W (fun s => if s = q then v else f s) cut 17 + (if gd_c q cut = true then f q else 0) = gd_W f cut 17 + (if gd_c q cut = true then v else 0) := by
  have h := gd_W_up f cut q v 17
  have e : (q < 17 ∧ gd_c q cut = true) ↔ gd_c q cut = true := ⟨fun z => z.2, fun z => ⟨hq, z⟩⟩
  simp only [e] at h
  exact h
theorem gd_W_cg (f g : Nat → Nat) (cut : Nat) : ∀ n, (∀ s, s < n → f s = g s) → gd_W f cut n = gd_W g cut n := by
  intro n
  induction n with
  | zero => intro _; rfl
  | succ n ih =>
    intro h
    simp only [gd_W]
    rw [ih (fun s hs => h s (by omega)), h n (by omega)]
/-! the least weight -/
def gd_mn (w : Nat → Nat) (p : Nat → Bool) : Nat → Nat
  | 0 => 1000
  | i + 1 => if p (2 * i + 1) = true then (if w (2 * i + 1) < gd_mn w p i then w (2 * i + 1) else gd_mn w p i) else gd_mn w p i
theorem gd_mn_le (w : Nat → Nat) (p : Nat → Bool) : ∀ n, gd_mn w p n ≤ 1000 := by
  intro n
  induction n with
  | zero => exact Nat.le_refl _
  | succ n ih =>
    simp only [gd_mn]
    split
    · split <;> omega
    · exact ih
theorem gd_mn_cg (w w' : Nat → Nat) (p p' : Nat → Bool) : ∀ n, (∀ i, i < n → w (2 * i + 1) = w' (2 * i + 1) ∧ p (2 * i + 1) = p' (2 * i + 1)) → gd_mn w p n = gd_mn w' p' n := by
  intro n
  induction n with
  | zero => intro _; rfl
  | succ n ih =>
    intro h
    simp only [gd_mn]
    rw [ih (fun s hs => h s (by omega)), (h n (by omega)).1, (h n (by omega)).2]
theorem gd_mn_lb (w : Nat → Nat) (p : Nat → Bool) : ∀ n i, i < n → p (2 * i + 1) = true → gd_mn w p n ≤ w (2 * i + 1) := by
  intro n
  induction n with
  | zero => intro i hi; omega
  | succ n ih =>
    intro i hi hp
    simp only [gd_mn]
    by_cases e : i = n
    · subst e
      rw [if_pos hp]
      split <;> omega
    · have h := ih i (by omega) hp
      split
      · split <;> omega
      · exact h
theorem gd_mn_at (w : Nat → Nat) (p : Nat → Bool) : ∀ n, gd_mn w p n < 1000 → ∃ i, i < n ∧ p (2 * i + 1) = true ∧ w (2 * i + 1) = gd_mn w p n := by
  intro n
  induction n with
  | zero => intro h; exact absurd h (by simp [gd_mn])
  | succ n ih =>
    simp only [gd_mn]
    intro h
    by_cases hp : p (2 * n + 1) = true
    · rw [if_pos hp] at h ⊢
      by_cases hw : w (2 * n + 1) < gd_mn w p n
      · rw [if_pos hw]
        exact ⟨n, by omega, hp, rfl⟩
      · rw [if_neg hw] at h ⊢
        obtain ⟨i, hi, h1, h2⟩ := ih h
        exact ⟨i, by omega, h1, h2⟩
    · rw [if_neg hp] at h ⊢
      obtain ⟨i, hi, h1, h2⟩ := ih h
      exact ⟨i, by omega, h1, h2⟩
/-- the reference's found -/
def gd_fd (m : Nat) : Int32 := if m = 1000 then -1 else nI m
theorem gd_fd0 {m : Nat} (h : m ≤ 1000) : gd_fd m < 0 ↔ m = 1000 := by
  unfold gd_fd
  by_cases e : m = 1000
  · rw [if_pos e]
    exact ⟨fun _ => e, fun _ => by decide⟩
  · rw [if_neg e]
    exact ⟨fun z => absurd z (nI_pos (by omega)), fun z => absurd z e⟩
/-! the and and the or of the cuts of one weight -/
def gd_an (w : Nat → Nat) (m : Nat) : Nat → Nat
  | 0 => 2047
  | i + 1 => if w (2 * i + 1) = m then gd_an w m i &&& (2 * i + 1) else gd_an w m i
theorem gd_an_le (w : Nat → Nat) (m : Nat) : ∀ n, gd_an w m n ≤ 2047 := by
  intro n
  induction n with
  | zero => exact Nat.le_refl _
  | succ n ih =>
    simp only [gd_an]
    split
    · exact Nat.le_trans Nat.and_le_left ih
    · exact ih
def gd_un (w : Nat → Nat) (m b : Nat) : Nat → Nat
  | 0 => b
  | i + 1 => if w (2 * i + 1) = m then gd_un w m b i ||| (2 * i + 1) else gd_un w m b i
theorem gd_un_1 (w : Nat → Nat) (m : Nat) : ∀ n, gd_un w m 1 n = gd_un w m 0 n ||| 1 := by
  intro n
  induction n with
  | zero => simp [gd_un]
  | succ n ih =>
    simp only [gd_un]
    split
    · rw [ih, Nat.or_assoc, Nat.or_assoc, Nat.or_comm 1]
    · exact ih
theorem gd_odd (i : Nat) : (2 * i + 1).testBit 0 = true := by
  rw [Nat.testBit_zero]
  exact decide_eq_true (by omega)
theorem gd_un_b (w : Nat → Nat) (m : Nat) : ∀ n i, i < n → w (2 * i + 1) = m → (gd_un w m 0 n).testBit 0 = true := by
  intro n
  induction n with
  | zero => intro i hi; omega
  | succ n ih =>
    intro i hi h
    simp only [gd_un]
    by_cases e : i = n
    · subst e
      rw [if_pos h, Nat.testBit_or, gd_odd, Bool.or_true]
    · have h2 := ih i (by omega) h
      split
      · rw [Nat.testBit_or, h2, Bool.true_or]
      · exact h2
theorem gd_or1 (x : Nat) (h : x.testBit 0 = true) : x ||| 1 = x := by
  apply Nat.eq_of_testBit_eq
  intro j
  rw [Nat.testBit_or]
  by_cases e : j = 0
  · subst e
    rw [h, Bool.true_or]
  · have h1 : Nat.testBit 1 j = false := by
      have := Nat.testBit_two_pow_of_ne (n := 0) (m := j) (fun z => e z.symm)
      exact this
    rw [h1, Bool.or_false]
theorem gd_un_e (w : Nat → Nat) (m n i : Nat) (hi : i < n) (h : w (2 * i + 1) = m) : gd_un w m 1 n = gd_un w m 0 n := by
  rw [gd_un_1]
  exact gd_or1 _ (gd_un_b w m n i hi h)
end
section
/-! two growing steps that lead to the same closed set -/
def gd_sub (S T : Nat) : Prop := ∀ k, S.testBit k = true → T.testBit k = true
def gd_cl (f : Nat → Nat) (T : Nat) : Prop := ∀ s, s < 17 → 0 < f s → gd_c s T = false
theorem gd_sub_rf (S : Nat) : gd_sub S S := fun _ h => h
theorem gd_sub_tr {S T U : Nat} (h : gd_sub S T) (g : gd_sub T U) : gd_sub S U := fun k z => g k (h k z)
theorem gd_sub_as {S T : Nat} (h : gd_sub S T) (g : gd_sub T S) : S = T := by
  apply Nat.eq_of_testBit_eq
  intro k
  have h1 := h k
  have g1 := g k
  cases e : S.testBit k <;> cases e2 : T.testBit k
  · rfl
  · rw [e, e2] at g1; exact absurd (g1 rfl) (by decide)
  · rw [e, e2] at h1; exact absurd (h1 rfl) (by decide)
  · rfl
theorem gd_sub_l (S T : Nat) : gd_sub S (S ||| T) := fun k h => by rw [Nat.testBit_or, h, Bool.true_or]
theorem gd_sub_r (S T : Nat) : gd_sub T (S ||| T) := fun k h => by rw [Nat.testBit_or, h, Bool.or_true]
theorem gd_sub_o {S T U : Nat} (h : gd_sub S U) (g : gd_sub T U) : gd_sub (S ||| T) U := by
  intro k z
  rw [Nat.testBit_or] at z
  cases e : S.testBit k
  · rw [e, Bool.false_or] at z
    exact g k z
  · exact h k e
theorem gd_sub_E {s T : Nat} : gd_sub (gd_E s) T ↔ T.testBit (gd_o s) = true ∧ T.testBit (gd_t s) = true := by
  constructor
  · intro h
    unfold gd_E at h
    exact ⟨h _ (by rw [Nat.testBit_or, Nat.testBit_two_pow_self, Bool.true_or]), h _ (by rw [Nat.testBit_or, Nat.testBit_two_pow_self, Bool.or_true])⟩
  · intro h k z
    unfold gd_E at z
    rw [Nat.testBit_or, Nat.testBit_two_pow, Nat.testBit_two_pow] at z
    by_cases e : gd_o s = k
    · rw [← e]; exact h.1
    · by_cases e2 : gd_t s = k
      · rw [← e2]; exact h.2
      · rw [decide_eq_false e, decide_eq_false e2] at z
        exact absurd z (by decide)
theorem gd_c_f {s T : Nat} (h : gd_c s T = false) : T.testBit (gd_o s) = T.testBit (gd_t s) := by
  unfold gd_c at h
  cases e : T.testBit (gd_o s) <;> cases e2 : T.testBit (gd_t s) <;> rw [e, e2] at h <;> first | rfl | exact absurd h (by decide)
theorem gd_c_t {s T : Nat} (h : gd_c s T = true) : ¬ (T.testBit (gd_o s) = true ∧ T.testBit (gd_t s) = true) ∧ (T.testBit (gd_o s) = true ∨ T.testBit (gd_t s) = true) := by
  unfold gd_c at h
  cases e : T.testBit (gd_o s) <;> cases e2 : T.testBit (gd_t s) <;> rw [e, e2] at h <;> first | exact absurd h (by decide) | exact ⟨by decide, by decide⟩
/-- a closed set that has one end has both -/
theorem gd_cl_E {f : Nat → Nat} {T s : Nat} (hT : gd_cl f T) (hs : s < 17) (hf : 0 < f s) (h : T.testBit (gd_o s) = true ∨ T.testBit (gd_t s) = true) : gd_sub (gd_E s) T := by
  have e := gd_c_f (hT s hs hf)
  rw [gd_sub_E]
  rcases h with h | h
  · exact ⟨h, by rw [← e]; exact h⟩
  · exact ⟨by rw [e]; exact h, h⟩
/-! the component's step -/
def gd_nb (f : Nat → Nat) (S : Nat) : Nat → Nat
  | 0 => S
  | s + 1 => if gd_c s S = true ∧ 0 < f s then gd_nb f S s ||| gd_E s else gd_nb f S s
theorem gd_nb_in (f : Nat → Nat) (S : Nat) : ∀ n, gd_sub S (gd_nb f S n) := by
  intro n
  induction n with
  | zero => exact gd_sub_rf S
  | succ n ih =>
    simp only [gd_nb]
    split
    · exact gd_sub_tr ih (gd_sub_l _ _)
    · exact ih
theorem gd_nb_lt (f : Nat → Nat) (S : Nat) (hS : S < 4096) : ∀ n, n ≤ 17 → gd_nb f S n < 4096 := by
  intro n
  induction n with
  | zero => intro _; exact hS
  | succ n ih =>
    intro hn
    simp only [gd_nb]
    split
    · exact Nat.or_lt_two_pow (n := 12) (ih (by omega)) (gd_Elt n (by omega))
    · exact ih (by omega)
theorem gd_nb_up (f : Nat → Nat) (S T : Nat) (hT : gd_cl f T) (h : gd_sub S T) : ∀ n, n ≤ 17 → gd_sub (gd_nb f S n) T := by
  intro n
  induction n with
  | zero => intro _; exact h
  | succ n ih =>
    intro hn
    simp only [gd_nb]
    split
    · rename_i hc
      refine gd_sub_o (ih (by omega)) (gd_cl_E hT (by omega) hc.2 ?_)
      rcases (gd_c_t hc.1).2 with z | z
      · exact Or.inl (h _ z)
      · exact Or.inr (h _ z)
    · exact ih (by omega)
theorem gd_nb_E (f : Nat → Nat) (S s : Nat) (hc : gd_c s S = true) (hf : 0 < f s) : ∀ n, s < n → gd_sub (gd_E s) (gd_nb f S n) := by
  intro n
  induction n with
  | zero => intro h; omega
  | succ n ih =>
    intro hn
    simp only [gd_nb]
    by_cases e : s = n
    · subst e
      rw [if_pos ⟨hc, hf⟩]
      exact gd_sub_r _ _
    · have h := ih (by omega)
      split
      · exact gd_sub_tr h (gd_sub_l _ _)
      · exact h
theorem gd_nb_fx (f : Nat → Nat) (S : Nat) (h : gd_nb f S 17 = S) : gd_cl f S := by
  intro s hs hf
  cases hc : gd_c s S
  · rfl
  · have h1 := gd_nb_E f S s hc hf 17 hs
    rw [h] at h1
    exact absurd (gd_sub_E.mp h1) (gd_c_t hc).1
/-! the reference's step -/
def gd_ib (f : Nat → Nat) (S : Nat) : Nat → Nat
  | 0 => S
  | s + 1 => if 0 < f s ∧ gd_ib f S s &&& gd_E s ≠ 0 then gd_ib f S s ||| gd_E s else gd_ib f S s
theorem gd_ib_st (f : Nat → Nat) (S n : Nat) : gd_sub (gd_ib f S n) (gd_ib f S (n + 1)) := by
  simp only [gd_ib]
  split
  · exact gd_sub_l _ _
  · exact gd_sub_rf _
theorem gd_ib_mo (f : Nat → Nat) (S : Nat) : ∀ d n, gd_sub (gd_ib f S n) (gd_ib f S (n + d)) := by
  intro d
  induction d with
  | zero => intro n; exact gd_sub_rf _
  | succ d ih => intro n; exact gd_sub_tr (ih n) (gd_ib_st f S (n + d))
theorem gd_ib_in (f : Nat → Nat) (S : Nat) (n : Nat) : gd_sub S (gd_ib f S n) := by
  have h := gd_ib_mo f S n 0
  rw [Nat.zero_add] at h
  exact h
theorem gd_ib_lt (f : Nat → Nat) (S : Nat) (hS : S < 4096) : ∀ n, n ≤ 17 → gd_ib f S n < 4096 := by
  intro n
  induction n with
  | zero => intro _; exact hS
  | succ n ih =>
    intro hn
    simp only [gd_ib]
    split
    · exact Nat.or_lt_two_pow (n := 12) (ih (by omega)) (gd_Elt n (by omega))
    · exact ih (by omega)
theorem gd_ib_up (f : Nat → Nat) (S T : Nat) (hT : gd_cl f T) (h : gd_sub S T) : ∀ n, n ≤ 17 → gd_sub (gd_ib f S n) T := by
  intro n
  induction n with
  | zero => intro _; exact h
  | succ n ih =>
    intro hn
    have hI := ih (by omega)
    simp only [gd_ib]
    split
    · rename_i hc
      refine gd_sub_o hI (gd_cl_E hT (by omega) hc.1 ?_)
      have z := (gd_toE (by omega) _).mp hc.2
      rw [Bool.or_eq_true] at z
      rcases z with z | z
      · exact Or.inl (hI _ z)
      · exact Or.inr (hI _ z)
    · exact hI
theorem gd_ib_fx (f : Nat → Nat) (S : Nat) (h : gd_ib f S 17 = S) : gd_cl f S := by
  intro s hs hf
  cases hc : gd_c s S
  · rfl
  · have h0 : gd_sub S (gd_ib f S s) := gd_ib_in f S s
    have hne : gd_ib f S s &&& gd_E s ≠ 0 := by
      rw [gd_toE hs, Bool.or_eq_true]
      rcases (gd_c_t hc).2 with z | z
      · exact Or.inl (h0 _ z)
      · exact Or.inr (h0 _ z)
    have h1 : gd_sub (gd_E s) (gd_ib f S (s + 1)) := by
      simp only [gd_ib]
      rw [if_pos ⟨hf, hne⟩]
      exact gd_sub_r _ _
    have h2 := gd_ib_mo f S (16 - s) (s + 1)
    rw [show s + 1 + (16 - s) = 17 from by omega, h] at h2
    exact absurd (gd_sub_E.mp (gd_sub_tr h1 h2)) (gd_c_t hc).1
/-! counting -/
def gd_pc (S : Nat) : Nat → Nat
  | 0 => 0
  | k + 1 => gd_pc S k + (S.testBit k).toNat
theorem gd_bl (b : Bool) : b.toNat ≤ 1 := by cases b <;> decide
theorem gd_pc_le (S : Nat) : ∀ n, gd_pc S n ≤ n := by
  intro n
  induction n with
  | zero => exact Nat.le_refl _
  | succ n ih =>
    have := gd_bl (S.testBit n)
    simp only [gd_pc]
    omega
theorem gd_pc_al (S : Nat) : ∀ n, n ≤ gd_pc S n → ∀ k, k < n → S.testBit k = true := by
  intro n
  induction n with
  | zero => intro _ k hk; omega
  | succ n ih =>
    intro h k hk
    have h1 := gd_pc_le S n
    have h2 := gd_bl (S.testBit n)
    simp only [gd_pc] at h
    by_cases e : k = n
    · subst e
      cases z : S.testBit k
      · rw [z] at h
        simp only [Bool.toNat_false] at h
        omega
      · rfl
    · exact ih (by omega) k (by omega)
theorem gd_bm {a b : Bool} (h : a = true → b = true) : a.toNat ≤ b.toNat := by
  cases a <;> cases b <;> first | decide | exact absurd (h rfl) (by decide)
theorem gd_pc_mo {S T : Nat} (h : gd_sub S T) : ∀ n, gd_pc S n ≤ gd_pc T n := by
  intro n
  induction n with
  | zero => exact Nat.le_refl _
  | succ n ih =>
    have := gd_bm (h n)
    simp only [gd_pc]
    omega
theorem gd_pc_st {S T k : Nat} (h : gd_sub S T) (h0 : S.testBit k = false) (h1 : T.testBit k = true) : ∀ n, k < n → gd_pc S n < gd_pc T n := by
  intro n
  induction n with
  | zero => intro z; omega
  | succ n ih =>
    intro hn
    have hb := gd_bm (h n)
    have hm := gd_pc_mo h n
    simp only [gd_pc]
    by_cases e : k = n
    · subst e
      rw [h0, h1]
      simp only [Bool.toNat_false, Bool.toNat_true]
      omega
    · have := ih (by omega)
      omega
theorem gd_hi {S k : Nat} (h : S < 4096) (hk : 12 ≤ k) : S.testBit k = false := by
  apply Nat.testBit_lt_two_pow
  exact Nat.lt_of_lt_of_le h (Nat.pow_le_pow_right (n := 2) (by decide) hk)
theorem gd_df {S T : Nat} (h : gd_sub S T) (hS : S < 4096) (hT : T < 4096) (hne : T ≠ S) : gd_pc S 12 < gd_pc T 12 := by
  have hx : ∃ k, k < 12 ∧ S.testBit k = false ∧ T.testBit k = true := by
    apply Classical.byContradiction
    intro hn
    apply hne
    apply gd_sub_as _ h
    intro k hk
    by_cases h12 : k < 12
    · cases z : S.testBit k
      · exact absurd ⟨k, h12, z, hk⟩ hn
      · rfl
    · rw [gd_hi hT (by omega)] at hk
      exact absurd hk (by decide)
  obtain ⟨k, hk, h0, h1⟩ := hx
  exact gd_pc_st h h0 h1 12 hk
/-! iterating -/
def gd_it (g : Nat → Nat) (S : Nat) : Nat → Nat
  | 0 => S
  | r + 1 => g (gd_it g S r)
theorem gd_it_lt (g : Nat → Nat) (S : Nat) (hS : S < 4096) (hl : ∀ S, S < 4096 → g S < 4096) : ∀ r, gd_it g S r < 4096 := by
  intro r
  induction r with
  | zero => exact hS
  | succ r ih => exact hl _ ih
theorem gd_it_in (g : Nat → Nat) (S : Nat) (hi : ∀ S, gd_sub S (g S)) : ∀ r, gd_sub S (gd_it g S r) := by
  intro r
  induction r with
  | zero => exact gd_sub_rf S
  | succ r ih => exact gd_sub_tr ih (hi _)
theorem gd_it_up (g : Nat → Nat) (S T : Nat) (h : gd_sub S T) (hu : ∀ S, gd_sub S T → gd_sub (g S) T) : ∀ r, gd_sub (gd_it g S r) T := by
  intro r
  induction r with
  | zero => exact h
  | succ r ih => exact hu _ ih
theorem gd_it_pr (g : Nat → Nat) (S : Nat) (hS : S < 4096) (h1 : 1 ≤ gd_pc S 12) (hl : ∀ S, S < 4096 → g S < 4096) (hi : ∀ S, gd_sub S (g S)) : ∀ r, g (gd_it g S r) = gd_it g S r ∨ r + 1 ≤ gd_pc (gd_it g S r) 12 := by
  intro r
  induction r with
  | zero => exact Or.inr h1
  | succ r ih =>
    have hlt := gd_it_lt g S hS hl r
    by_cases e : g (gd_it g S r) = gd_it g S r
    · left
      show g (g (gd_it g S r)) = g (gd_it g S r)
      rw [e, e]
    · right
      rcases ih with ih | ih
      · exact absurd ih e
      · have h2 := gd_df (hi (gd_it g S r)) hlt (hl _ hlt) e
        show r + 1 + 1 ≤ gd_pc (g (gd_it g S r)) 12
        omega
theorem gd_it_cl (f : Nat → Nat) (g : Nat → Nat) (S : Nat) (hS : S < 4096) (h1 : 1 ≤ gd_pc S 12) (hl : ∀ S, S < 4096 → g S < 4096) (hi : ∀ S, gd_sub S (g S)) (hf : ∀ S, g S = S → gd_cl f S) (r : Nat) (hr : 11 ≤ r) : gd_cl f (gd_it g S r) := by
  rcases gd_it_pr g S hS h1 hl hi r with h | h
  · exact hf _ h
  · have hb := gd_pc_al (gd_it g S r) 12 (by omega)
    intro s hs _
    have hz := gd_ot s hs
    unfold gd_c
    rw [hb _ hz.1, hb _ hz.2]
    rfl
theorem gd_pc_1 : ∀ a, a < 12 → 1 ≤ gd_pc (2 ^ a) 12 ∧ 2 ^ a < 4096 := by decide +kernel
/-- both ways of spreading end in the same set -/
theorem gd_way (f : Nat → Nat) {a : Nat} (ha : a < 12) : gd_it (fun S => gd_nb f S 17) (2 ^ a) 11 = gd_it (fun S => gd_ib f S 17) (2 ^ a) 12 := by
  have h := gd_pc_1 a ha
  have lx : ∀ S, S < 4096 → (fun S => gd_nb f S 17) S < 4096 := fun S hS => gd_nb_lt f S hS 17 (Nat.le_refl _)
  have ly : ∀ S, S < 4096 → (fun S => gd_ib f S 17) S < 4096 := fun S hS => gd_ib_lt f S hS 17 (Nat.le_refl _)
  have ix : ∀ S, gd_sub S ((fun S => gd_nb f S 17) S) := fun S => gd_nb_in f S 17
  have iy : ∀ S, gd_sub S ((fun S => gd_ib f S 17) S) := fun S => gd_ib_in f S 17
  have cx := gd_it_cl f _ (2 ^ a) h.2 h.1 lx ix (fun S => gd_nb_fx f S) 11 (by omega)
  have cy := gd_it_cl f _ (2 ^ a) h.2 h.1 ly iy (fun S => gd_ib_fx f S) 12 (by omega)
  apply gd_sub_as
  · exact gd_it_up _ _ _ (gd_it_in _ _ iy 12) (fun S hS => gd_nb_up f S _ cy hS 17 (Nat.le_refl _)) 11
  · exact gd_it_up _ _ _ (gd_it_in _ _ ix 11) (fun S hS => gd_ib_up f S _ cx hS 17 (Nat.le_refl _)) 12
end
section
/-! the component's walks against the pure picture -/
def gd_op (c z : Nat → Int32) (f : Nat → Nat) : Prop := ∀ s, s < 17 → (z s = 0 → c s = nI (f s)) ∧ (¬ z s = 0 → f s = 0) ∧ f s < 1000
theorem gd_ix (x : Int32) (n : Nat) : (x < 0 ∨ ∃ j, n ≤ j ∧ j < 2 ^ 31 ∧ x = nI j) ∨ ∃ j, j < n ∧ x = nI j := by
  by_cases h : x < 0
  · exact Or.inl (Or.inl h)
  · obtain ⟨j, hj, rfl⟩ := nI_of h
    by_cases h2 : j < n
    · exact Or.inr ⟨j, h2, rfl⟩
    · exact Or.inl (Or.inr ⟨j, by omega, hj, rfl⟩)
theorem gd_if {c d A B : Prop} (e : c ↔ d) (f : d → A) (g : ¬ d → B) : (c → A) ∧ (¬ c → B) := ⟨fun h => f (e.mp h), fun h => g (fun z => h (e.mpr z))⟩
theorem gd_10 : ¬ (1 : Int32) = 0 := by decide
theorem gd_n2 (i : Nat) : nI (2 * i + 1) + 2 = nI (2 * (i + 1) + 1) := by
  rw [show 2 * (i + 1) + 1 = 2 * i + 1 + 2 from by omega]
  exact nI_add (2 * i + 1) 2
theorem gd_m0 {w : Nat → Nat} {p : Nat → Bool} {i : Nat} (h : ¬ p (2 * i + 1) = true) : gd_mn w p (i + 1) = gd_mn w p i := by
  simp only [gd_mn]
  rw [if_neg h]
theorem gd_m1 {w : Nat → Nat} {p : Nat → Bool} {i : Nat} (h : p (2 * i + 1) = true) (g : gd_mn w p i ≤ w (2 * i + 1)) : gd_mn w p (i + 1) = gd_mn w p i := by
  simp only [gd_mn]
  rw [if_pos h, if_neg (by omega)]
theorem gd_m2 {w : Nat → Nat} {p : Nat → Bool} {i : Nat} (h : p (2 * i + 1) = true) (g : w (2 * i + 1) < gd_mn w p i) : gd_mn w p (i + 1) = w (2 * i + 1) := by
  simp only [gd_mn]
  rw [if_pos h, if_pos g]
theorem gx_st {post : Int32 → Prop} {s : Nat} (hs : s < 17) (h : post 1) : wpX_isStreet post (nI s) :=
  br_f (nI_pos (by omega)) (br_f (nI_ge (b := 17) hs (by decide)) h)
theorem gx_st0 {post : Int32 → Prop} {p : Int32} (hb : p < 0 ∨ ∃ j, 17 ≤ j ∧ j < 2 ^ 31 ∧ p = nI j) (h : post 0) : wpX_isStreet post p := by
  rcases hb with hb | ⟨j, h1, h2, rfl⟩
  · exact br_t hb h
  · exact br_f (nI_pos h2) (br_t (nI_le (a := 17) h1 h2) h)
theorem gx_cg {post : Int32 → Prop} {s : Nat} (hs : s < 12) (h : post 1) : wpX_isCrossing post (nI s) :=
  br_f (nI_pos (by omega)) (br_f (nI_ge (b := 12) hs (by decide)) h)
theorem gx_cg0 {post : Int32 → Prop} {p : Int32} (hb : p < 0 ∨ ∃ j, 12 ≤ j ∧ j < 2 ^ 31 ∧ p = nI j) (h : post 0) : wpX_isCrossing post p := by
  rcases hb with hb | ⟨j, h1, h2, rfl⟩
  · exact br_t hb h
  · exact br_f (nI_pos h2) (br_t (nI_le (a := 12) h1 h2) h)
theorem gd_e1 : ∀ s, s < 17 → 9 ≤ s → ((1 : Int32) <<< ((nI s - 9) &&& 31)) ||| ((1 : Int32) <<< (((nI s - 9) + 4) &&& 31)) = nI (gd_E s) := by decide +kernel
theorem gd_e2 : ∀ s, s < 17 → s < 9 → ((1 : Int32) <<< (((4 * (nI s / 3)) + (nI s - nI s / 3 * 3)) &&& 31)) ||| ((1 : Int32) <<< ((((4 * (nI s / 3)) + (nI s - nI s / 3 * 3)) + 1) &&& 31)) = nI (gd_E s) := by decide +kernel
theorem gx_ends {post : Int32 → Prop} {s : Nat} (hs : s < 17) (h : post (nI (gd_E s))) : wpX_ends post (nI s) := by
  by_cases h9 : 9 ≤ s
  · refine br_t (nI_le (a := 9) h9 (by omega)) ?_
    intro y ey
    subst ey
    rw [gd_e1 s hs h9]
    exact h
  · refine br_f (nI_ge (b := 9) (by omega) (by decide)) ⟨by decide, by decide, ?_⟩
    intro y ey
    subst ey
    rw [gd_e2 s hs (by omega)]
    exact h
theorem gx_cr {post : Int32 → Prop} {s cut : Nat} (hs : s < 17) (hc : cut < 4096) (h1 : gd_c s cut = true → post 1) (h0 : ¬ gd_c s cut = true → post 0) : wpX_crosses post (nI s) (nI cut) := by
  unfold wpX_crosses
  refine gx_ends hs ?_
  refine nm_r (nx_and _ _) ?_
  have hh := gd_crE hs cut
  have hE := gd_Elt s hs
  have hle : cut &&& gd_E s ≤ cut := Nat.and_le_left
  generalize cut &&& gd_E s = m at hh hle ⊢
  refine pk_eq m 0 (fun e => ?_) (fun e => ?_)
  · exact h0 (fun z => (hh.mpr z).1 e)
  · refine pk_eq m (gd_E s) (fun e2 => ?_) (fun e2 => ?_)
    · exact h0 (fun z => (hh.mpr z).2 e2)
    · exact h1 (hh.mp ⟨e, e2⟩)
theorem gx_oc {post : Int32 → Prop} {c z : Nat → Int32} {f : Nat → Nat} (hf : gd_op c z f) {s : Nat} (hs : s < 17) (h : post (nI (f s))) : wpX_openCapacity post (c, z) (nI s) := by
  have hi : vp_in (nI s) 17 := vp_in_nI hs (by omega)
  have hcl : (nI s).toNatClampNeg = s := nI_clamp (by omega)
  have hs' := hf s hs
  refine ⟨hi, br_c (fun e => ⟨hi, ?_⟩) (fun e => ?_)⟩
  · rw [hcl] at e ⊢
    rw [hs'.1 e]
    exact h
  · rw [hcl] at e
    rw [hs'.2.1 e] at h
    exact h
theorem gx_wl {post : Int32 → Prop} {c z : Nat → Int32} {f : Nat → Nat} (hf : gd_op c z f) {cut : Nat} (hc : cut < 4096) (h : post (nI (gd_W f cut 17))) : ∀ d i, i + d = 17 → wX_weightOf_4 post (nI cut) c z (d + 1) (nI (gd_W f cut i)) (nI i) := by
  intro d
  induction d with
  | zero =>
    intro i hi
    have e : i = 17 := by omega
    subst e
    exact br_t (nI_le (a := 17) (Nat.le_refl _) (by omega)) h
  | succ d ih =>
    intro i hi
    have h3 := ih (i + 1) (by omega)
    refine br_f (nI_ge (b := 17) (by omega) (by decide)) ?_
    refine gx_cr (by omega) hc (fun e => ?_) (fun e => ?_)
    · refine br_f gd_10 ?_
      refine gx_oc hf (by omega) ?_
      rw [show gd_W f cut (i + 1) = gd_W f cut i + f i from by simp [gd_W, e]] at h3
      exact nm_r (nI_add _ _) (nm_r (nI_1 _) h3)
    · refine br_t rfl ?_
      rw [show gd_W f cut (i + 1) = gd_W f cut i from by simp [gd_W, e]] at h3
      exact nm_r (nI_1 _) h3
theorem gx_w {post : Int32 → Prop} {c z : Nat → Int32} {f : Nat → Nat} (hf : gd_op c z f) {cut : Nat} (hc : cut < 4096) (h : post (nI (gd_W f cut 17))) : wpX_weightOf post (c, z) (nI cut) :=
  ⟨18, gx_wl hf hc h 17 0 rfl⟩
theorem gx_ll {post : Int32 → Prop} {c z : Nat → Int32} {f : Nat → Nat} (hf : gd_op c z f) {a b : Nat} (ha : a < 4096) {p : Nat → Bool} (hp : ∀ i, i < 1024 → (p (2 * i + 1) = true ↔ ((2 * i + 1) &&& a = a ∧ (2 * i + 1) &&& b = 0))) (hw : ∀ cut, gd_W f cut 17 < 1000) (h : post (nI (gd_mn (fun cut => gd_W f cut 17) p 1024))) : ∀ d i, i + d = 1024 → wX_leastWeight_7 post (nI a) (nI b) c z (d + 1) (nI (gd_mn (fun cut => gd_W f cut 17) p i)) (nI (2 * i + 1)) := by
  intro d
  induction d with
  | zero =>
    intro i hi
    have e : i = 1024 := by omega
    subst e
    exact br_t (nI_le (a := 2048) (by omega) (by omega)) h
  | succ d ih =>
    intro i hi
    have h3 := ih (i + 1) (by omega)
    have hpi := hp i (by omega)
    have hml := gd_mn_le (fun cut => gd_W f cut 17) p i
    have hwi := hw (2 * i + 1)
    refine br_f (nI_ge (b := 2048) (by omega) (by decide)) ?_
    refine pk_eq ((2 * i + 1) &&& a) a (fun e1 => ?_) (fun e1 => ?_) (nx_and _ _) rfl (Nat.lt_of_le_of_lt Nat.and_le_left (by omega)) (by omega)
    · refine pk_eq ((2 * i + 1) &&& b) 0 (fun e2 => ?_) (fun e2 => ?_) (nx_and _ _) rfl (Nat.lt_of_le_of_lt Nat.and_le_left (by omega)) (by omega)
      · have hpt := hpi.mpr ⟨e1, e2⟩
        refine gx_w hf (by omega) ?_
        refine pk_le (gd_mn (fun cut => gd_W f cut 17) p i) (gd_W f (2 * i + 1) 17) (fun g => ?_) (fun g => ?_)
        · rw [gd_m1 hpt g] at h3
          exact nm_r (gd_n2 i) h3
        · rw [gd_m2 hpt g] at h3
          exact nm_r (gd_n2 i) h3
      · rw [gd_m0 (fun z => e2 (hpi.mp z).2)] at h3
        exact nm_r (gd_n2 i) h3
    · rw [gd_m0 (fun z => e1 (hpi.mp z).1)] at h3
      exact nm_r (gd_n2 i) h3
theorem gx_l {post : Int32 → Prop} {c z : Nat → Int32} {f : Nat → Nat} (hf : gd_op c z f) {a b : Nat} (ha : a < 4096) {p : Nat → Bool} (hp : ∀ i, i < 1024 → (p (2 * i + 1) = true ↔ ((2 * i + 1) &&& a = a ∧ (2 * i + 1) &&& b = 0))) (hw : ∀ cut, gd_W f cut 17 < 1000) (h : post (nI (gd_mn (fun cut => gd_W f cut 17) p 1024))) : wpX_leastWeight post (c, z) (nI a) (nI b) :=
  ⟨1025, gx_ll hf ha hp hw h 1024 0 rfl⟩
theorem gx_l0 {post : Int32 → Prop} {c z : Nat → Int32} {f : Nat → Nat} (hf : gd_op c z f) (hw : ∀ cut, gd_W f cut 17 < 1000) (h : post (nI (gd_mn (fun cut => gd_W f cut 17) (fun _ => true) 1024))) : wpX_leastWeight post (c, z) 0 0 := by
  have h2 := gx_l (a := 0) (b := 0) (p := fun _ => true) hf (by decide) (fun i _ => ⟨fun _ => ⟨Nat.and_zero _, Nat.and_zero _⟩, fun _ => rfl⟩) hw h
  exact h2
theorem gx_al {post : Int32 → Prop} {c z : Nat → Int32} {f : Nat → Nat} (hf : gd_op c z f) {m : Nat} (hm : m < 1000) (hw : ∀ cut, gd_W f cut 17 < 1000) (h : post (nI (gd_an (fun cut => gd_W f cut 17) m 1024))) : ∀ d i, i + d = 1024 → wX_commonPart_6 post (nI m) c z (d + 1) (nI (gd_an (fun cut => gd_W f cut 17) m i)) (nI (2 * i + 1)) := by
  intro d
  induction d with
  | zero =>
    intro i hi
    have e : i = 1024 := by omega
    subst e
    exact br_t (nI_le (a := 2048) (by omega) (by omega)) h
  | succ d ih =>
    intro i hi
    have h3 := ih (i + 1) (by omega)
    have hwi := hw (2 * i + 1)
    refine br_f (nI_ge (b := 2048) (by omega) (by decide)) ?_
    refine gx_w hf (by omega) ?_
    refine pk_eq (gd_W f (2 * i + 1) 17) m (fun e => ?_) (fun e => ?_)
    · simp only [gd_an, if_pos e] at h3
      exact nm_r (nx_and _ _) (nm_r (gd_n2 i) h3)
    · simp only [gd_an, if_neg e] at h3
      exact nm_r (gd_n2 i) h3
theorem gx_a {post : Int32 → Prop} {c z : Nat → Int32} {f : Nat → Nat} (hf : gd_op c z f) {m : Nat} (hm : m < 1000) (hw : ∀ cut, gd_W f cut 17 < 1000) (h : post (nI (gd_an (fun cut => gd_W f cut 17) m 1024))) : wpX_commonPart post (c, z) (nI m) :=
  ⟨1025, gx_al hf hm hw h 1024 0 rfl⟩
theorem gx_ul {post : Int32 → Prop} {c z : Nat → Int32} {f : Nat → Nat} (hf : gd_op c z f) {m : Nat} (hm : m < 1000) (hw : ∀ cut, gd_W f cut 17 < 1000) (h : post (nI (gd_un (fun cut => gd_W f cut 17) m 0 1024))) : ∀ d i, i + d = 1024 → wX_lastCut_11 post (nI m) c z (d + 1) (nI (gd_un (fun cut => gd_W f cut 17) m 0 i)) (nI (2 * i + 1)) := by
  intro d
  induction d with
  | zero =>
    intro i hi
    have e : i = 1024 := by omega
    subst e
    exact br_t (nI_le (a := 2048) (by omega) (by omega)) h
  | succ d ih =>
    intro i hi
    have h3 := ih (i + 1) (by omega)
    have hwi := hw (2 * i + 1)
    refine br_f (nI_ge (b := 2048) (by omega) (by decide)) ?_
    refine gx_w hf (by omega) ?_
    refine pk_eq (gd_W f (2 * i + 1) 17) m (fun e => ?_) (fun e => ?_)
    · simp only [gd_un, if_pos e] at h3
      exact nm_r (gd_or _ _) (nm_r (gd_n2 i) h3)
    · simp only [gd_un, if_neg e] at h3
      exact nm_r (gd_n2 i) h3
theorem gx_gl {post : Int32 → Prop} {c z : Nat → Int32} {f : Nat → Nat} (hf : gd_op c z f) {q : Nat} (hq : q < 17) {ch : Int32} {w : Nat → Nat} (hc : ∀ cut, (gd_c q cut = true → nI (gd_W f cut 17) + ch = nI (w cut)) ∧ (¬ gd_c q cut = true → gd_W f cut 17 = w cut) ∧ w cut < 1000) (h : post (nI (gd_mn w (fun _ => true) 1024))) : ∀ d i, i + d = 1024 → wX_leastWeightChanged_7 post (nI q) ch c z (d + 1) (nI (gd_mn w (fun _ => true) i)) (nI (2 * i + 1)) := by
  intro d
  induction d with
  | zero =>
    intro i hi
    have e : i = 1024 := by omega
    subst e
    exact br_t (nI_le (a := 2048) (by omega) (by omega)) h
  | succ d ih =>
    intro i hi
    have h3 := ih (i + 1) (by omega)
    have hci := hc (2 * i + 1)
    have hml := gd_mn_le w (fun _ => true) i
    have hJ : wX_leastWeightChanged_38 post (wX_leastWeightChanged_7 post (nI q) ch c z (d + 1)) (nI q) ch (nI (gd_mn w (fun _ => true) i)) (nI (2 * i + 1)) (nI (w (2 * i + 1))) c z := by
      refine pk_le (gd_mn w (fun _ => true) i) (w (2 * i + 1)) (fun g => ?_) (fun g => ?_) rfl rfl (by omega) (by have := hci.2.2; omega)
      · rw [gd_m1 rfl g] at h3
        exact nm_r (gd_n2 i) h3
      · rw [gd_m2 rfl g] at h3
        exact nm_r (gd_n2 i) h3
    refine br_f (nI_ge (b := 2048) (by omega) (by decide)) ?_
    refine gx_w hf (by omega) ?_
    refine gx_cr hq (by omega) (fun e => ?_) (fun e => ?_)
    · exact br_f gd_10 (nm_r (hci.1 e) hJ)
    · rw [← hci.2.1 e] at hJ
      exact br_t rfl hJ
theorem gx_g {post : Int32 → Prop} {c z : Nat → Int32} {f : Nat → Nat} (hf : gd_op c z f) {q : Nat} (hq : q < 17) {ch : Int32} {w : Nat → Nat} (hc : ∀ cut, (gd_c q cut = true → nI (gd_W f cut 17) + ch = nI (w cut)) ∧ (¬ gd_c q cut = true → gd_W f cut 17 = w cut) ∧ w cut < 1000) (h : post (nI (gd_mn w (fun _ => true) 1024))) : wpX_leastWeightChanged post (c, z) (nI q) ch :=
  ⟨1025, gx_gl hf hq hc h 1024 0 rfl⟩
theorem gx_has {post : Int32 → Prop} {n k : Nat} (hn : n < 2 ^ 31) (hk : k < 31) (h1 : n.testBit k = true → post 1) (h0 : n.testBit k = false → post 0) : wpX_contains post (nI n) (nI k) := by
  have e : nI n &&& ((1 : Int32) <<< (nI k &&& 31)) = nI (n &&& 2 ^ k) := by rw [gd_shl hk, nx_and]
  refine pk_eq (n &&& 2 ^ k) 0 (fun g => ?_) (fun g => ?_) e rfl (Nat.lt_of_le_of_lt Nat.and_le_left hn) (by omega)
  · exact h0 ((gd_has n k).mp g)
  · cases hb : n.testBit k
    · exact absurd ((gd_has n k).mpr hb) g
    · exact h1 hb
theorem gx_nl {post : Int32 → Prop} {c z : Nat → Int32} {f : Nat → Nat} (hf : gd_op c z f) {S : Nat} (hS : S < 4096) (h : post (nI (gd_nb f S 17))) : ∀ d i, i + d = 17 → wX_withNeighbours_4 post (nI S) c z (d + 1) (nI (gd_nb f S i)) (nI i) := by
  intro d
  induction d with
  | zero =>
    intro i hi
    have e : i = 17 := by omega
    subst e
    exact br_t (nI_le (a := 17) (Nat.le_refl _) (by omega)) h
  | succ d ih =>
    intro i hi
    have h3 := ih (i + 1) (by omega)
    have hfi := (hf i (by omega)).2.2
    refine br_f (nI_ge (b := 17) (by omega) (by decide)) ?_
    refine gx_cr (by omega) hS (fun e => ?_) (fun e => ?_)
    · refine br_f gd_10 ?_
      refine gx_oc hf (by omega) ?_
      refine pk_le (f i) 0 (fun g => ?_) (fun g => ?_)
      · rw [show gd_nb f S (i + 1) = gd_nb f S i from by simp only [gd_nb]; rw [if_neg (fun z => absurd z.2 (by omega))]] at h3
        exact nm_r (nI_1 _) h3
      · refine gx_ends (by omega) ?_
        rw [show gd_nb f S (i + 1) = gd_nb f S i ||| gd_E i from by simp only [gd_nb]; rw [if_pos ⟨e, g⟩]] at h3
        exact nm_r (gd_or _ _) (nm_r (nI_1 _) h3)
    · refine br_t rfl ?_
      rw [show gd_nb f S (i + 1) = gd_nb f S i from by simp only [gd_nb]; rw [if_neg (fun z => e z.1)]] at h3
      exact nm_r (nI_1 _) h3
theorem gx_n {post : Int32 → Prop} {c z : Nat → Int32} {f : Nat → Nat} (hf : gd_op c z f) {S : Nat} (hS : S < 4096) (h : post (nI (gd_nb f S 17))) : wpX_withNeighbours post (c, z) (nI S) :=
  ⟨18, gx_nl hf hS h 17 0 rfl⟩
theorem gx_yl {post : Int32 → Prop} {c z : Nat → Int32} {f : Nat → Nat} (hf : gd_op c z f) {a b : Nat} (ha : a < 12) (hb : b < 12) (h : post (nI ((gd_it (fun S => gd_nb f S 17) (2 ^ a) 11).testBit b).toNat)) : ∀ d i, i + d = 11 → wX_way_23 post (nI b) c z (d + 1) (nI (gd_it (fun S => gd_nb f S 17) (2 ^ a) i)) (nI (i + 1)) := by
  have hlt : ∀ i, gd_it (fun S => gd_nb f S 17) (2 ^ a) i < 4096 := gd_it_lt _ _ (gd_pc_1 a ha).2 (fun S hS => gd_nb_lt f S hS 17 (Nat.le_refl _))
  intro d
  induction d with
  | zero =>
    intro i hi
    have e : i = 11 := by omega
    subst e
    refine br_t (nI_le (a := 12) (Nat.le_refl _) (by omega)) ?_
    have h4 := hlt 11
    refine gx_has (by omega) (by omega) (fun g => ?_) (fun g => ?_)
    · rw [g] at h
      exact br_f gd_10 h
    · rw [g] at h
      exact br_t rfl h
  | succ d ih =>
    intro i hi
    refine br_f (nI_ge (b := 12) (by omega) (by decide)) ?_
    exact gx_n hf (hlt i) (nm_r (nI_1 _) (ih (i + 1) (by omega)))
def gd_ct (f : Nat → Nat) (cut : Nat) : Nat → Nat
  | 0 => 0
  | s + 1 => if gd_c s cut = true ∧ 0 < f s then gd_ct f cut s + 1 else gd_ct f cut s
theorem gx_kl {post : Int32 → Prop} {c z : Nat → Int32} {f : Nat → Nat} (hf : gd_op c z f) {S : Nat} (hS : S < 4096) (h : post (nI (gd_ct f S 17))) : ∀ d i, i + d = 17 → wX_cutStreets_18 post (nI S) c z (d + 1) (nI (gd_ct f S i)) (nI i) := by
  intro d
  induction d with
  | zero =>
    intro i hi
    have e : i = 17 := by omega
    subst e
    exact br_t (nI_le (a := 17) (Nat.le_refl _) (by omega)) h
  | succ d ih =>
    intro i hi
    have h3 := ih (i + 1) (by omega)
    have hfi := (hf i (by omega)).2.2
    refine br_f (nI_ge (b := 17) (by omega) (by decide)) ?_
    refine gx_cr (by omega) hS (fun e => ?_) (fun e => ?_)
    · refine br_f gd_10 ?_
      refine gx_oc hf (by omega) ?_
      refine pk_le (f i) 0 (fun g => ?_) (fun g => ?_)
      · rw [show gd_ct f S (i + 1) = gd_ct f S i from by simp only [gd_ct]; rw [if_neg (fun z => absurd z.2 (by omega))]] at h3
        exact nm_r (nI_1 _) h3
      · rw [show gd_ct f S (i + 1) = gd_ct f S i + 1 from by simp only [gd_ct]; rw [if_pos ⟨e, g⟩]] at h3
        exact nm_r (nI_1 _) (nm_r (nI_1 _) h3)
    · refine br_t rfl ?_
      rw [show gd_ct f S (i + 1) = gd_ct f S i from by simp only [gd_ct]; rw [if_neg (fun z => e z.1)]] at h3
      exact nm_r (nI_1 _) h3
end
section
/-! the reference's walks against the pure picture -/
def gd_Y (o t : Nat → Int32) : Prop := ∀ s, s < 17 → o s = nI (gd_o s) ∧ t s = nI (gd_t s)
theorem gy_bs {post : Int32 → Prop} {v : SY} {s : Nat} (hs : s < 17) (h : post 0) : wpY_badStreet post v (nI s) :=
  br_f (nI_pos (by omega)) (br_t (nI_le (b := 16) (by omega) (by decide)) h)
theorem gy_bs1 {post : Int32 → Prop} {v : SY} {p : Int32} (hb : p < 0 ∨ ∃ j, 17 ≤ j ∧ j < 2 ^ 31 ∧ p = nI j) (h : post 1) : wpY_badStreet post v p := by
  rcases hb with hb | ⟨j, h1, h2, rfl⟩
  · exact br_t hb h
  · exact br_f (nI_pos h2) (br_f (nI_ge (a := 16) (by omega) h2) h)
theorem gy_b {post : Int32 → Prop} {v : SY} {s : Nat} (hs : s < 12) (h : post 0) : wpY_bad post v (nI s) :=
  br_f (nI_pos (by omega)) (br_t (nI_le (b := 11) (by omega) (by decide)) h)
theorem gy_b1 {post : Int32 → Prop} {v : SY} {p : Int32} (hb : p < 0 ∨ ∃ j, 12 ≤ j ∧ j < 2 ^ 31 ∧ p = nI j) (h : post 1) : wpY_bad post v p := by
  rcases hb with hb | ⟨j, h1, h2, rfl⟩
  · exact br_t hb h
  · exact br_f (nI_pos h2) (br_f (nI_ge (a := 11) (by omega) h2) h)
theorem gy_oc {post : Int32 → Prop} {c z o t : Nat → Int32} {f : Nat → Nat} (hf : gd_op c z f) {s : Nat} (hs : s < 17) (h : post (nI (f s))) : wpY_open post (c, z, o, t) (nI s) := by
  have hi : vp_in (nI s) 17 := vp_in_nI hs (by omega)
  have hcl : (nI s).toNatClampNeg = s := nI_clamp (by omega)
  have hs' := hf s hs
  refine ⟨hi, br_c (fun e => ⟨hi, ?_⟩) (fun e => ?_)⟩
  · rw [hcl] at e ⊢
    rw [hs'.1 e]
    exact h
  · rw [hcl] at e
    rw [hs'.2.1 e] at h
    exact h
theorem gy_c {o t : Nat → Int32} (hY : gd_Y o t) {s cut : Nat} (hs : s < 17) (hc : cut < 4096) : ((nI cut >>> ((o (nI s).toNatClampNeg) &&& 31)) &&& 1) = ((nI cut >>> ((t (nI s).toNatClampNeg) &&& 31)) &&& 1) ↔ ¬ gd_c s cut = true := by
  have ho := gd_ot s hs
  rw [nI_clamp (by omega), (hY s hs).1, (hY s hs).2, gd_bit (by omega) (by omega), gd_bit (by omega) (by omega), gd_beq, Bool.not_eq_true]
  exact Iff.rfl
theorem gy_wl {post : Int32 → Prop} {c z o t : Nat → Int32} (hY : gd_Y o t) {f : Nat → Nat} (hf : gd_op c z f) {cut : Nat} (hc : cut < 4096) (h : post (nI (gd_W f cut 17))) : ∀ d i, i + d = 17 → wY_weigh_4 post (nI cut) c z o t (d + 1) (nI (gd_W f cut i)) (nI i) := by
  intro d
  induction d with
  | zero =>
    intro i hi
    have e : i = 17 := by omega
    subst e
    exact br_t (nI_le (a := 17) (Nat.le_refl _) (by omega)) h
  | succ d ih =>
    intro i hi
    have h3 := ih (i + 1) (by omega)
    have hin : vp_in (nI i) 17 := vp_in_nI (by omega) (by decide)
    refine br_f (nI_ge (b := 17) (by omega) (by decide)) ⟨hin, hin, gd_if (gy_c hY (by omega) hc) (fun e => ?_) (fun e => ?_)⟩
    · rw [show gd_W f cut (i + 1) = gd_W f cut i from by simp [gd_W, e]] at h3
      exact nm_r (nI_1 _) h3
    · have e' : gd_c i cut = true := Classical.not_not.mp e
      refine gy_oc hf (by omega) ?_
      rw [show gd_W f cut (i + 1) = gd_W f cut i + f i from by simp [gd_W, e']] at h3
      exact nm_r (nI_add _ _) (nm_r (nI_1 _) h3)
theorem gy_w {post : Int32 → Prop} {c z o t : Nat → Int32} (hY : gd_Y o t) {f : Nat → Nat} (hf : gd_op c z f) {cut : Nat} (hc : cut < 4096) (h : post (nI (gd_W f cut 17))) : wpY_weigh post (c, z, o, t) (nI cut) :=
  ⟨18, gy_wl hY hf hc h 17 0 rfl⟩
theorem gd_bs (a b : Bool) : nI a.toNat = nI b.toNat ↔ a = b := by
  cases a <;> cases b <;> decide
theorem gd_fdn {m : Nat} (h : m < 1000) : gd_fd m = nI m := if_neg (by omega)
theorem gy_ll {post : Int32 → Prop} {c z o t : Nat → Int32} (hY : gd_Y o t) {f : Nat → Nat} (hf : gd_op c z f) {k : Nat} (hk : k < 12) {g : Bool} {p : Nat → Bool} (hp : ∀ i, i < 1024 → (p (2 * i + 1) = true ↔ (2 * i + 1).testBit k = g)) (hw : ∀ cut, gd_W f cut 17 < 1000) (h : post (gd_fd (gd_mn (fun cut => gd_W f cut 17) p 1024))) : ∀ d i, i + d = 1024 → wY_least_5 post (nI k) (nI g.toNat) c z o t (d + 1) (gd_fd (gd_mn (fun cut => gd_W f cut 17) p i)) (nI (2 * i + 1)) := by
  intro d
  induction d with
  | zero =>
    intro i hi
    have e : i = 1024 := by omega
    subst e
    exact br_t (nI_le (a := 2048) (by omega) (by omega)) h
  | succ d ih =>
    intro i hi
    have h3 := ih (i + 1) (by omega)
    have hpi := hp i (by omega)
    have hml := gd_mn_le (fun cut => gd_W f cut 17) p i
    have hwi := hw (2 * i + 1)
    have hb : ((nI (2 * i + 1) >>> (nI k &&& 31)) &&& 1) = nI g.toNat ↔ p (2 * i + 1) = true := by
      rw [gd_bit (by omega) (by omega), gd_bs]
      exact hpi.symm
    refine br_f (nI_ge (b := 2048) (by omega) (by decide)) (gd_if hb (fun e => ?_) (fun e => ?_))
    · refine gy_w hY hf (by omega) (gd_if (gd_fd0 hml) (fun e2 => ?_) (fun e2 => ?_))
      · rw [gd_m2 e (show gd_W f (2 * i + 1) 17 < _ by omega), gd_fdn hwi] at h3
        exact nm_r (gd_n2 i) h3
      · have e3 : gd_fd (gd_mn (fun cut => gd_W f cut 17) p i) = nI (gd_mn (fun cut => gd_W f cut 17) p i) := gd_fdn (by omega)
        refine pk_le (gd_mn (fun cut => gd_W f cut 17) p i) (gd_W f (2 * i + 1) 17) (fun q => ?_) (fun q => ?_) e3
        · rw [gd_m1 e q] at h3
          exact nm_r (gd_n2 i) h3
        · rw [gd_m2 e q, gd_fdn hwi] at h3
          exact nm_r (gd_n2 i) h3
    · rw [gd_m0 e] at h3
      exact nm_r (gd_n2 i) h3
theorem gd_fd1 (w : Nat → Nat) (p : Nat → Bool) : gd_fd (gd_mn w p 0) = -1 := by simp [gd_mn, gd_fd]
theorem gy_l {post : Int32 → Prop} {c z o t : Nat → Int32} (hY : gd_Y o t) {f : Nat → Nat} (hf : gd_op c z f) {k : Nat} (hk : k < 12) {g : Bool} {p : Nat → Bool} (hp : ∀ i, i < 1024 → (p (2 * i + 1) = true ↔ (2 * i + 1).testBit k = g)) (hw : ∀ cut, gd_W f cut 17 < 1000) (hx : ∃ i, i < 1024 ∧ p (2 * i + 1) = true) (h : post (nI (gd_mn (fun cut => gd_W f cut 17) p 1024))) : wpY_least post (c, z, o, t) (nI k) (nI g.toNat) := by
  obtain ⟨i, hi, hpi⟩ := hx
  have h1 := gd_mn_lb (fun cut => gd_W f cut 17) p 1024 i hi hpi
  have h2 : gd_mn (fun cut => gd_W f cut 17) p 1024 < 1000 := Nat.lt_of_le_of_lt h1 (hw _)
  have h3 := gy_ll hY hf hk hp hw (post := post) (by rw [gd_fdn h2]; exact h) 1024 0 rfl
  rw [gd_fd1] at h3
  exact ⟨1025, h3⟩
theorem gy_l0 {post : Int32 → Prop} {c z o t : Nat → Int32} (hY : gd_Y o t) {f : Nat → Nat} (hf : gd_op c z f) (hw : ∀ cut, gd_W f cut 17 < 1000) (h : post (nI (gd_mn (fun cut => gd_W f cut 17) (fun _ => true) 1024))) : wpY_least post (c, z, o, t) 0 1 := by
  have h2 := gy_l (k := 0) (g := true) (p := fun _ => true) hY hf (by decide) (fun i _ => ⟨fun _ => gd_odd i, fun _ => rfl⟩) hw ⟨0, by decide, rfl⟩ h
  exact h2
theorem gy_al {post : Int32 → Prop} {c z o t : Nat → Int32} (hY : gd_Y o t) {f : Nat → Nat} (hf : gd_op c z f) {m : Nat} (hm : m < 1000) (hw : ∀ cut, gd_W f cut 17 < 1000) (h : post (nI (gd_an (fun cut => gd_W f cut 17) m 1024))) : ∀ d i, i + d = 1024 → wY_first_13 post (nI m) c z o t (d + 1) (nI (gd_an (fun cut => gd_W f cut 17) m i)) (nI (2 * i + 1)) := by
  intro d
  induction d with
  | zero =>
    intro i hi
    have e : i = 1024 := by omega
    subst e
    exact br_t (nI_le (a := 2048) (by omega) (by omega)) h
  | succ d ih =>
    intro i hi
    have h3 := ih (i + 1) (by omega)
    have hwi := hw (2 * i + 1)
    refine br_f (nI_ge (b := 2048) (by omega) (by decide)) ?_
    refine gy_w hY hf (by omega) ?_
    refine pk_eq (gd_W f (2 * i + 1) 17) m (fun e => ?_) (fun e => ?_)
    · simp only [gd_an, if_pos e] at h3
      exact nm_r (nx_and _ _) (nm_r (gd_n2 i) h3)
    · simp only [gd_an, if_neg e] at h3
      exact nm_r (gd_n2 i) h3
theorem gd_mnT {w : Nat → Nat} (hw : ∀ cut, w cut < 1000) : gd_mn w (fun _ => true) 1024 < 1000 :=
  Nat.lt_of_le_of_lt (gd_mn_lb w (fun _ => true) 1024 0 (by decide) rfl) (hw _)
theorem gy_a {post : Int32 → Prop} {c z o t : Nat → Int32} (hY : gd_Y o t) {f : Nat → Nat} (hf : gd_op c z f) (hw : ∀ cut, gd_W f cut 17 < 1000) (h : post (nI (gd_an (fun cut => gd_W f cut 17) (gd_mn (fun cut => gd_W f cut 17) (fun _ => true) 1024) 1024))) : wpY_first post (c, z, o, t) := by
  unfold wpY_first
  exact gy_l0 hY hf hw ⟨1025, gy_al hY hf (gd_mnT hw) hw h 1024 0 rfl⟩
theorem gy_ul {post : Int32 → Prop} {c z o t : Nat → Int32} (hY : gd_Y o t) {f : Nat → Nat} (hf : gd_op c z f) {m : Nat} (hm : m < 1000) (hw : ∀ cut, gd_W f cut 17 < 1000) (h : post (nI (gd_un (fun cut => gd_W f cut 17) m 1 1024))) : ∀ d i, i + d = 1024 → wY_lastCut_11 post (nI m) c z o t (d + 1) (nI (gd_un (fun cut => gd_W f cut 17) m 1 i)) (nI (2 * i + 1)) := by
  intro d
  induction d with
  | zero =>
    intro i hi
    have e : i = 1024 := by omega
    subst e
    exact br_t (nI_le (a := 2048) (by omega) (by omega)) h
  | succ d ih =>
    intro i hi
    have h3 := ih (i + 1) (by omega)
    have hwi := hw (2 * i + 1)
    refine br_f (nI_ge (b := 2048) (by omega) (by decide)) ?_
    refine gy_w hY hf (by omega) ?_
    refine pk_eq (gd_W f (2 * i + 1) 17) m (fun e => ?_) (fun e => ?_)
    · simp only [gd_un, if_pos e] at h3
      exact nm_r (gd_or _ _) (nm_r (gd_n2 i) h3)
    · simp only [gd_un, if_neg e] at h3
      exact nm_r (gd_n2 i) h3
theorem gy_E {o t : Nat → Int32} (hY : gd_Y o t) {s : Nat} (hs : s < 17) : ((1 : Int32) <<< ((o (nI s).toNatClampNeg) &&& 31)) ||| ((1 : Int32) <<< ((t (nI s).toNatClampNeg) &&& 31)) = nI (gd_E s) := by
  have ho := gd_ot s hs
  rw [nI_clamp (by omega), (hY s hs).1, (hY s hs).2, gd_shl (by omega), gd_shl (by omega), gd_or]
  rfl
theorem gy_nl {post : Int32 → Prop} {J : Int32 → Int32 → Prop} {c z o t : Nat → Int32} (hY : gd_Y o t) {f : Nat → Nat} (hf : gd_op c z f) {x2 : Int32} {r S : Nat} (hS : S < 4096) (h : J (nI (gd_ib f S 17)) (nI (r + 1))) : ∀ d i, i + d = 17 → wY_way_35 post J x2 (nI r) c z o t (d + 1) (nI (gd_ib f S i)) (nI i) := by
  intro d
  induction d with
  | zero =>
    intro i hi
    have e : i = 17 := by omega
    subst e
    exact br_t (nI_le (a := 17) (Nat.le_refl _) (by omega)) (nm_r (nI_1 _) h)
  | succ d ih =>
    intro i hi
    have h3 := ih (i + 1) (by omega)
    have hfi := (hf i (by omega)).2.2
    have hlt := gd_ib_lt f S hS i (by omega)
    have hin : vp_in (nI i) 17 := vp_in_nI (by omega) (by decide)
    refine br_f (nI_ge (b := 17) (by omega) (by decide)) ⟨hin, hin, nm_r (gy_E hY (by omega)) ?_⟩
    refine gy_oc hf (by omega) ?_
    refine pk_le (f i) 0 (fun g => ?_) (fun g => ?_)
    · rw [show gd_ib f S (i + 1) = gd_ib f S i from by simp only [gd_ib]; rw [if_neg (fun z => absurd z.1 (by omega))]] at h3
      exact nm_r (nI_1 _) h3
    · refine pk_eq (gd_ib f S i &&& gd_E i) 0 (fun e => ?_) (fun e => ?_) (nx_and _ _) rfl (Nat.lt_of_le_of_lt Nat.and_le_left (by omega)) (by omega)
      · rw [show gd_ib f S (i + 1) = gd_ib f S i from by simp only [gd_ib]; rw [if_neg (fun z => z.2 e)]] at h3
        exact nm_r (nI_1 _) h3
      · rw [show gd_ib f S (i + 1) = gd_ib f S i ||| gd_E i from by simp only [gd_ib]; rw [if_pos ⟨g, e⟩]] at h3
        exact nm_r (gd_or _ _) (nm_r (nI_1 _) h3)
theorem gy_yl {post : Int32 → Prop} {c z o t : Nat → Int32} (hY : gd_Y o t) {f : Nat → Nat} (hf : gd_op c z f) {a b : Nat} (ha : a < 12) (hb : b < 12) (h : post (nI ((gd_it (fun S => gd_ib f S 17) (2 ^ a) 12).testBit b).toNat)) : ∀ d i, i + d = 12 → wY_way_25 post (nI b) c z o t (d + 1) (nI (gd_it (fun S => gd_ib f S 17) (2 ^ a) i)) (nI i) := by
  have hlt : ∀ i, gd_it (fun S => gd_ib f S 17) (2 ^ a) i < 4096 := gd_it_lt _ _ (gd_pc_1 a ha).2 (fun S hS => gd_ib_lt f S hS 17 (Nat.le_refl _))
  intro d
  induction d with
  | zero =>
    intro i hi
    have e : i = 12 := by omega
    subst e
    refine br_t (nI_le (a := 12) (Nat.le_refl _) (by omega)) ?_
    have h4 := hlt 12
    rw [gd_bit (by omega) (by omega)]
    exact h
  | succ d ih =>
    intro i hi
    refine br_f (nI_ge (b := 12) (by omega) (by decide)) ?_
    exact ⟨18, gy_nl hY hf (hlt i) (ih (i + 1) (by omega)) 17 0 rfl⟩
theorem gy_kl {post : Int32 → Prop} {c z o t : Nat → Int32} (hY : gd_Y o t) {f : Nat → Nat} (hf : gd_op c z f) {S : Nat} (hS : S < 4096) (h : post (nI (gd_ct f S 17))) : ∀ d i, i + d = 17 → wY_cutStreets_9 post (nI S) c z o t (d + 1) (nI (gd_ct f S i)) (nI i) := by
  intro d
  induction d with
  | zero =>
    intro i hi
    have e : i = 17 := by omega
    subst e
    exact br_t (nI_le (a := 17) (Nat.le_refl _) (by omega)) h
  | succ d ih =>
    intro i hi
    have h3 := ih (i + 1) (by omega)
    have hfi := (hf i (by omega)).2.2
    have hin : vp_in (nI i) 17 := vp_in_nI (by omega) (by decide)
    refine br_f (nI_ge (b := 17) (by omega) (by decide)) ⟨hin, hin, gd_if (gy_c hY (by omega) hS) (fun e => ?_) (fun e => ?_)⟩
    · rw [show gd_ct f S (i + 1) = gd_ct f S i from by simp only [gd_ct]; rw [if_neg (fun z => e z.1)]] at h3
      exact nm_r (nI_1 _) h3
    · have e' : gd_c i S = true := Classical.not_not.mp e
      refine gy_oc hf (by omega) ?_
      refine pk_le (f i) 0 (fun g => ?_) (fun g => ?_)
      · rw [show gd_ct f S (i + 1) = gd_ct f S i from by simp only [gd_ct]; rw [if_neg (fun z => absurd z.2 (by omega))]] at h3
        exact nm_r (nI_1 _) h3
      · rw [show gd_ct f S (i + 1) = gd_ct f S i + 1 from by simp only [gd_ct]; rw [if_pos ⟨e', g⟩]] at h3
        exact nm_r (nI_1 _) (nm_r (nI_1 _) h3)
/-! the reference's constructor -/
theorem gd_i2 : ∀ s, s < 17 → 9 ≤ s → nI s - 9 = nI (gd_o s) ∧ nI s - 5 = nI (gd_t s) := by decide +kernel
theorem gd_i1 : ∀ s, s < 17 → s < 9 → (4 * (nI s / 3)) + (nI s - nI s / 3 * 3) = nI (gd_o s) ∧ nI (gd_o s) + 1 = nI (gd_t s) := by decide +kernel
theorem gd_uY {o t : Nat → Int32} {i : Nat} {x y : Int32} (h : ∀ j, j < i → o j = nI (gd_o j) ∧ t j = nI (gd_t j)) (hx : x = nI (gd_o i)) (hy : y = nI (gd_t i)) : ∀ j, j < i + 1 → upd o i x j = nI (gd_o j) ∧ upd t i y j = nI (gd_t j) := by
  intro j hj
  by_cases e : j = i
  · subst e
    rw [pk_us, pk_us]
    exact ⟨hx, hy⟩
  · rw [pk_un e, pk_un e]
    exact h j (by omega)
theorem gy_i82 {post : SY → Prop} {c z : Nat → Int32} (h : ∀ o t, gd_Y o t → post (c, z, o, t)) : ∀ d i, i + d = 17 → 9 ≤ i → ∀ o t : Nat → Int32, (∀ j, j < i → o j = nI (gd_o j) ∧ t j = nI (gd_t j)) → wY_init_82 post (d + 1) (nI i) c z o t := by
  intro d
  induction d with
  | zero =>
    intro i hi h9 o t hI
    have e : i = 17 := by omega
    subst e
    exact br_t (nI_le (a := 17) (Nat.le_refl _) (by omega)) (h o t hI)
  | succ d ih =>
    intro i hi h9 o t hI
    have hin : vp_in (nI i) 17 := vp_in_nI (by omega) (by decide)
    have hcl : (nI i).toNatClampNeg = i := nI_clamp (by omega)
    have hv := gd_i2 i (by omega) h9
    refine br_f (nI_ge (b := 17) (by omega) (by decide)) ⟨hin, nm_e ⟨hin, nm_e (nm_r (nI_1 _) ?_)⟩⟩
    rw [hcl]
    exact ih (i + 1) (by omega) (by omega) _ _ (gd_uY hI hv.1 hv.2)
theorem gy_i38 {post : SY → Prop} {c z : Nat → Int32} (h : ∀ o t, gd_Y o t → post (c, z, o, t)) : ∀ d i, i + d = 9 → ∀ o t : Nat → Int32, (∀ j, j < i → o j = nI (gd_o j) ∧ t j = nI (gd_t j)) → wY_init_38 post (d + 1) (nI i) c z o t := by
  intro d
  induction d with
  | zero =>
    intro i hi o t hI
    have e : i = 9 := by omega
    subst e
    exact br_t (nI_le (a := 9) (Nat.le_refl _) (by omega)) ⟨9, gy_i82 h 8 9 rfl (Nat.le_refl _) o t hI⟩
  | succ d ih =>
    intro i hi o t hI
    have hin : vp_in (nI i) 17 := vp_in_nI (by omega) (by decide)
    have hcl : (nI i).toNatClampNeg = i := nI_clamp (by omega)
    have hv := gd_i1 i (by omega) (by omega)
    refine br_f (nI_ge (b := 9) (by omega) (by decide)) ⟨by decide, by decide, hin, nm_e ⟨hin, hin, nm_e (nm_r (nI_1 _) ?_)⟩⟩
    rw [hcl]
    refine ih (i + 1) (by omega) _ _ (gd_uY hI hv.1 ?_)
    rw [pk_us, hv.1]
    exact hv.2
theorem gy_i {post : SY → Prop} (h : ∀ o t, gd_Y o t → post ((fun _ => 0), (fun _ => 0), o, t)) : wpY_init post :=
  ⟨10, gy_i38 h 9 0 rfl _ _ (fun j hj => absurd hj (by omega))⟩
end
section
/-! the relation, and the open capacities that it gives -/
def gd_R (c z : Nat → Int32) : Prop := ∀ s, s < 17 → (∃ n, n ≤ 20 ∧ c s = nI n) ∧ (z s = 0 ∨ z s = 1)
def i_Rel (k : Nat) (u : SX) (v : SY) : Prop := ∃ c z o t : Nat → Int32, u = (c, z) ∧ v = (c, z, o, t) ∧ gd_Y o t ∧ gd_R c z
theorem i_up {k : Nat} {u : SX} {v : SY} (h : i_Rel k u v) : i_Rel (k + 3) u v := h
theorem i_vc0 : wpX_init (fun u => wpY_init (fun v => i_Rel 0 u v)) :=
  gy_i (fun o t hY => ⟨_, _, o, t, rfl, rfl, hY, fun _ _ => ⟨⟨0, by decide, rfl⟩, Or.inl rfl⟩⟩)
def gd_fo (c z : Nat → Int32) (s : Nat) : Nat := if z s = 0 then (c s).toNatClampNeg else 0
theorem gd_fo_op {c z : Nat → Int32} (h : gd_R c z) : gd_op c z (gd_fo c z) := by
  intro s hs
  obtain ⟨⟨n, hn, e⟩, _⟩ := h s hs
  have hc : (c s).toNatClampNeg = n := by rw [e]; exact nI_clamp (by omega)
  unfold gd_fo
  refine ⟨fun z0 => ?_, fun z0 => ?_, ?_⟩
  · rw [if_pos z0, hc]
    exact e
  · rw [if_neg z0]
  · split
    · omega
    · omega
theorem gd_fo_le {c z : Nat → Int32} (h : gd_R c z) : ∀ s, s < 17 → gd_fo c z s ≤ 20 := by
  intro s hs
  obtain ⟨⟨n, hn, e⟩, _⟩ := h s hs
  have hc : (c s).toNatClampNeg = n := by rw [e]; exact nI_clamp (by omega)
  unfold gd_fo
  split
  · omega
  · omega
theorem gd_fo_W {c z : Nat → Int32} (h : gd_R c z) (cut : Nat) : gd_W (gd_fo c z) cut 17 ≤ 340 := gd_W_le _ cut 20 17 (gd_fo_le h)
theorem gd_fo_w {c z : Nat → Int32} (h : gd_R c z) (cut : Nat) : gd_W (gd_fo c z) cut 17 < 1000 := by
  have := gd_fo_W h cut
  omega
theorem gd_nb0 : vp_nar .boolean 0 = 0 := by decide
theorem gd_nb1 : vp_nar .boolean 1 = 1 := by decide
theorem gd_R_c {c z : Nat → Int32} (h : gd_R c z) (s : Nat) {j : Nat} (hj : j ≤ 20) : gd_R (upd c s (nI j)) z := by
  intro q hq
  by_cases e : q = s
  · subst e
    rw [pk_us]
    exact ⟨⟨j, hj, rfl⟩, (h q hq).2⟩
  · rw [pk_un e]
    exact h q hq
theorem gd_R_z {c z : Nat → Int32} (h : gd_R c z) (s : Nat) {x : Int32} (hx : x = 0 ∨ x = 1) : gd_R c (upd z s x) := by
  intro q hq
  by_cases e : q = s
  · subst e
    rw [pk_us]
    exact ⟨(h q hq).1, hx⟩
  · rw [pk_un e]
    exact h q hq
/-! sow -/
def gd_sa (c : Nat → Int32) (a b n : Nat) : Nat → Int32 := fun j => if j < n then nI ((a + 7 * j + j * j * b) % 21) else c j
def gd_ss (a b : Nat) : Nat → Int32
  | 0 => 0
  | k + 1 => gd_ss a b k + nI ((a + 7 * k + k * k * b) % 21)
theorem gd_sv {a b k : Nat} (ha : a < 21) (hb : b < 21) (hk : k < 17) : (((nI a + (7 * nI k)) + ((nI k * nI k) * nI b)) - ((nI a + (7 * nI k)) + ((nI k * nI k) * nI b)) / 21 * 21) = nI ((a + 7 * k + k * k * b) % 21) := by
  have e : ((nI a + (7 * nI k)) + ((nI k * nI k) * nI b)) = nI (a + 7 * k + k * k * b) := by
    rw [show (7 : Int32) = nI 7 from rfl, pk_mul, pk_mul, pk_mul, nI_add, nI_add]
  have h1 : k * k ≤ 16 * 16 := Nat.mul_le_mul (by omega) (by omega)
  have h2 : k * k * b ≤ 16 * 16 * 20 := Nat.mul_le_mul h1 (by omega)
  rw [e]
  exact pk_rem (d := 21) (by omega) (by decide) (by decide)
theorem gd_su (c : Nat → Int32) (a b n : Nat) : upd (gd_sa c a b n) n (nI ((a + 7 * n + n * n * b) % 21)) = gd_sa c a b (n + 1) := by
  funext j
  by_cases e : j = n
  · subst e
    rw [pk_us]
    exact (if_pos (Nat.lt_succ_self j)).symm
  · rw [pk_un e]
    unfold gd_sa
    by_cases g : j < n
    · rw [if_pos g, if_pos (by omega)]
    · rw [if_neg g, if_neg (by omega)]
theorem gd_s0 (c : Nat → Int32) (a b : Nat) : gd_sa c a b 0 = c := by
  funext j
  exact if_neg (Nat.not_lt_zero j)
theorem gd_sR {c z : Nat → Int32} (h : gd_R c z) (a b : Nat) : gd_R (gd_sa c a b 17) z := by
  intro s hs
  refine ⟨⟨(a + 7 * s + s * s * b) % 21, ?_, if_pos hs⟩, (h s hs).2⟩
  have := Nat.mod_lt (a + 7 * s + s * s * b) (show 21 > 0 by decide)
  omega
theorem gx_sl {post : Int32 → SX → Prop} {c z : Nat → Int32} {a b : Nat} (ha : a < 21) (hb : b < 21) (h : post (gd_ss a b 17) (gd_sa c a b 17, z)) : ∀ d i, i + d = 17 → wX_sow_30 post (nI a) (nI b) (d + 1) (gd_ss a b i) (nI i) (gd_sa c a b i) z := by
  intro d
  induction d with
  | zero =>
    intro i hi
    have e : i = 17 := by omega
    subst e
    exact br_t (nI_le (a := 17) (Nat.le_refl _) (by omega)) h
  | succ d ih =>
    intro i hi
    have h3 := ih (i + 1) (by omega)
    have hin : vp_in (nI i) 17 := vp_in_nI (by omega) (by decide)
    have hcl : (nI i).toNatClampNeg = i := nI_clamp (by omega)
    have eA : upd (gd_sa c a b i) (nI i).toNatClampNeg (((nI a + (7 * nI i)) + ((nI i * nI i) * nI b)) - ((nI a + (7 * nI i)) + ((nI i * nI i) * nI b)) / 21 * 21) = gd_sa c a b (i + 1) := by
      rw [hcl, gd_sv ha hb (by omega), gd_su]
    have eS : gd_ss a b i + gd_sa c a b (i + 1) (nI i).toNatClampNeg = gd_ss a b (i + 1) := by
      rw [hcl]
      show gd_ss a b i + (if i < i + 1 then _ else _) = _
      rw [if_pos (Nat.lt_succ_self i)]
      rfl
    exact br_f (nI_ge (b := 17) (by omega) (by decide)) ⟨by decide, hin, nm_r eA ⟨hin, nm_r eS (nm_r (nI_1 _) h3)⟩⟩
theorem gy_sl {post : Int32 → SY → Prop} {c z o t : Nat → Int32} {a b : Nat} (ha : a < 21) (hb : b < 21) (h : post (gd_ss a b 17) (gd_sa c a b 17, z, o, t)) : ∀ d i, i + d = 17 → wY_sow_30 post (nI a) (nI b) (d + 1) (gd_ss a b i) (nI i) (gd_sa c a b i) z o t := by
  intro d
  induction d with
  | zero =>
    intro i hi
    have e : i = 17 := by omega
    subst e
    exact br_t (nI_le (a := 17) (Nat.le_refl _) (by omega)) h
  | succ d ih =>
    intro i hi
    have h3 := ih (i + 1) (by omega)
    have hin : vp_in (nI i) 17 := vp_in_nI (by omega) (by decide)
    have hcl : (nI i).toNatClampNeg = i := nI_clamp (by omega)
    have eA : upd (gd_sa c a b i) (nI i).toNatClampNeg (((nI a + (7 * nI i)) + ((nI i * nI i) * nI b)) - ((nI a + (7 * nI i)) + ((nI i * nI i) * nI b)) / 21 * 21) = gd_sa c a b (i + 1) := by
      rw [hcl, gd_sv ha hb (by omega), gd_su]
    have eS : gd_ss a b i + gd_sa c a b (i + 1) (nI i).toNatClampNeg = gd_ss a b (i + 1) := by
      rw [hcl]
      show gd_ss a b i + (if i < i + 1 then _ else _) = _
      rw [if_pos (Nat.lt_succ_self i)]
      rfl
    exact br_f (nI_ge (b := 17) (by omega) (by decide)) ⟨by decide, hin, nm_r eA ⟨hin, nm_r eS (nm_r (nI_1 _) h3)⟩⟩
/-! between -/
theorem gd_bw : ∀ a, a < 12 → ∀ b, b < 12 → ∀ s, s < 17 → (gd_E s = (2 ^ a ||| 2 ^ b) ↔ ((gd_o s = a ∧ gd_t s = b) ∨ (gd_o s = b ∧ gd_t s = a))) := by decide +kernel
def gd_bv (a b : Nat) : Nat → Int32
  | 0 => -2
  | d + 1 => if gd_E (16 - d) = (2 ^ a ||| 2 ^ b) then nI (16 - d) else gd_bv a b d
theorem gd_pb : ∀ a, a < 12 → ∀ b, b < 12 → (2 ^ a ||| 2 ^ b) < 4096 := by decide +kernel
theorem gx_bl {post : Int32 → Prop} {c z : Nat → Int32} {a b : Nat} (ha : a < 12) (hb : b < 12) (h : post (gd_bv a b 17)) : wX_between_27 post (nI (2 ^ a ||| 2 ^ b)) c z 18 (nI 0) := by
  have hp := gd_pb a ha b hb
  have hl : ∀ d i, i + d = 17 → post (gd_bv a b d) → wX_between_27 post (nI (2 ^ a ||| 2 ^ b)) c z (d + 1) (nI i) := by
    intro d
    induction d with
    | zero =>
      intro i hi h
      have e : i = 17 := by omega
      subst e
      exact br_t (nI_le (a := 17) (Nat.le_refl _) (by omega)) h
    | succ d ih =>
      intro i hi h
      have hE := gd_Elt i (by omega)
      have ei : 16 - d = i := by omega
      simp only [gd_bv] at h
      rw [ei] at h
      refine br_f (nI_ge (b := 17) (by omega) (by decide)) (gx_ends (by omega) ?_)
      refine pk_eq (gd_E i) (2 ^ a ||| 2 ^ b) (fun e => ?_) (fun e => ?_) rfl rfl (by omega) (by omega)
      · rw [if_pos e] at h
        exact h
      · rw [if_neg e] at h
        exact nm_r (nI_1 _) (ih (i + 1) (by omega) h)
  exact hl 17 0 rfl h
theorem gy_bl {post : Int32 → Prop} {c z o t : Nat → Int32} (hY : gd_Y o t) {a b : Nat} (ha : a < 12) (hb : b < 12) (h : post (gd_bv a b 17)) : wY_between_20 post (nI a) (nI b) c z o t 18 (nI 0) := by
  have hl : ∀ d i, i + d = 17 → post (gd_bv a b d) → wY_between_20 post (nI a) (nI b) c z o t (d + 1) (nI i) := by
    intro d
    induction d with
    | zero =>
      intro i hi h
      have e : i = 17 := by omega
      subst e
      exact br_t (nI_le (a := 17) (Nat.le_refl _) (by omega)) h
    | succ d ih =>
      intro i hi h
      have hin : vp_in (nI i) 17 := vp_in_nI (by omega) (by decide)
      have hcl : (nI i).toNatClampNeg = i := nI_clamp (by omega)
      have ho := gd_ot i (by omega)
      have hv := hY i (by omega)
      have e1 : o (nI i).toNatClampNeg = nI (gd_o i) := by rw [hcl]; exact hv.1
      have e2 : t (nI i).toNatClampNeg = nI (gd_t i) := by rw [hcl]; exact hv.2
      have ei : 16 - d = i := by omega
      have hw := gd_bw a ha b hb i (by omega)
      simp only [gd_bv] at h
      rw [ei] at h
      have hyes : ((gd_o i = a ∧ gd_t i = b) ∨ (gd_o i = b ∧ gd_t i = a)) → post (nI i) := by
        intro z
        rw [if_pos (hw.mpr z)] at h
        exact h
      have hno : ¬ ((gd_o i = a ∧ gd_t i = b) ∨ (gd_o i = b ∧ gd_t i = a)) → wY_between_20 post (nI a) (nI b) c z o t (d + 1) (nI (i + 1)) := by
        intro z
        rw [if_neg (fun y => z (hw.mp y))] at h
        exact ih (i + 1) (by omega) h
      have hj : ¬ (gd_o i = a ∧ gd_t i = b) → wY_between_46 post (wY_between_20 post (nI a) (nI b) c z o t (d + 1)) (nI a) (nI b) (nI i) c z o t := by
        intro n1
        refine ⟨hin, pk_eq (gd_o i) b (fun g1 => ⟨hin, pk_eq (gd_t i) a (fun g2 => ?_) (fun g2 => ?_) e2⟩) (fun g1 => ?_) e1⟩
        · exact hyes (Or.inr ⟨g1, g2⟩)
        · exact nm_r (nI_1 _) (hno (fun y => y.elim n1 (fun q => g2 q.2)))
        · exact nm_r (nI_1 _) (hno (fun y => y.elim n1 (fun q => g1 q.1)))
      refine br_f (nI_ge (b := 17) (by omega) (by decide)) ⟨hin, pk_eq (gd_o i) a (fun g1 => ⟨hin, pk_eq (gd_t i) b (fun g2 => ?_) (fun g2 => ?_) e2⟩) (fun g1 => ?_) e1⟩
      · exact hyes (Or.inl ⟨g1, g2⟩)
      · exact hj (fun q => g2 q.2)
      · exact hj (fun q => g1 q.1)
  exact hl 17 0 rfl h
end
section
/-! what is owed: the changing calls and the plain questions -/
theorem gd_rl {k : Nat} {c z o t : Nat → Int32} (hY : gd_Y o t) (hR : gd_R c z) : i_Rel k (c, z) (c, z, o, t) := ⟨c, z, o, t, rfl, rfl, hY, hR⟩
theorem i_vc_set {k : Nat} {u : SX} {v : SY} (I : i_Rel k u v) (hk : k + 3 ≤ 1536) (v1 : Int32) (v2 : Int32) : wpX_set (fun r u' => wpY_set (fun r' v' => r' = r ∧ i_Rel (k + 3) u' v') v v1 v2) u v1 v2 := by
  obtain ⟨c, z, o, t, rfl, rfl, hY, hR⟩ := I
  unfold wpX_set
  rcases gd_ix v1 17 with hb | ⟨s, hs, rfl⟩
  · refine gx_st0 hb (br_t rfl ?_)
    unfold wpY_set
    exact gy_bs1 hb (br_f gd_10 ⟨rfl, gd_rl hY hR⟩)
  · have hi : vp_in (nI s) 17 := vp_in_nI hs (by decide)
    have hcl : (nI s).toNatClampNeg = s := nI_clamp (by omega)
    refine gx_st hs (br_f gd_10 ?_)
    rcases gd_ix v2 21 with hb | ⟨j, hj, rfl⟩
    · rcases hb with hb | ⟨j, h1, h2, rfl⟩
      · refine br_t hb ?_
        unfold wpY_set
        exact gy_bs hs (br_t rfl (br_t hb ⟨rfl, gd_rl hY hR⟩))
      · have n0 := nI_pos h2
        have n1 : ¬ nI j ≤ 20 := nI_ge (a := 20) (by omega) h2
        refine br_f n0 (br_f n1 ?_)
        unfold wpY_set
        exact gy_bs hs (br_t rfl (br_f n0 (br_f n1 ⟨rfl, gd_rl hY hR⟩)))
    · have n0 : ¬ nI j < 0 := nI_pos (by omega)
      have n1 : nI j ≤ 20 := nI_le (b := 20) (by omega) (by decide)
      refine br_f n0 (br_t n1 ⟨hi, nm_e ⟨hi, nm_e ?_⟩⟩)
      unfold wpY_set
      refine gy_bs hs (br_t rfl (br_f n0 (br_t n1 ⟨hi, nm_e ⟨hi, nm_e ⟨rfl, ?_⟩⟩⟩)))
      rw [hcl]
      exact gd_rl hY (gd_R_c hR s (by omega))
theorem i_vc_sow {k : Nat} {u : SX} {v : SY} (I : i_Rel k u v) (hk : k + 3 ≤ 1536) (v1 : Int32) (v2 : Int32) : wpX_sow (fun r u' => wpY_sow (fun r' v' => r' = r ∧ i_Rel (k + 3) u' v') v v1 v2) u v1 v2 := by
  obtain ⟨c, z, o, t, rfl, rfl, hY, hR⟩ := I
  unfold wpX_sow
  rcases gd_ix v1 21 with hb | ⟨a, ha, rfl⟩
  · rcases hb with hb | ⟨j, h1, h2, rfl⟩
    · refine br_t hb ?_
      unfold wpY_sow
      exact br_t hb ⟨rfl, gd_rl hY hR⟩
    · have n0 := nI_pos h2
      have n1 : ¬ nI j ≤ 20 := nI_ge (a := 20) (by omega) h2
      refine br_f n0 (br_f n1 ?_)
      unfold wpY_sow
      exact br_f n0 (br_f n1 ⟨rfl, gd_rl hY hR⟩)
  · have n0 : ¬ nI a < 0 := nI_pos (by omega)
    have n1 : nI a ≤ 20 := nI_le (b := 20) (by omega) (by decide)
    rcases gd_ix v2 21 with hb | ⟨b, hb, rfl⟩
    · rcases hb with hb | ⟨j, h1, h2, rfl⟩
      · refine br_f n0 (br_t n1 (br_t hb ?_))
        unfold wpY_sow
        exact br_f n0 (br_t n1 (br_t hb ⟨rfl, gd_rl hY hR⟩))
      · have m0 := nI_pos h2
        have m1 : ¬ nI j ≤ 20 := nI_ge (a := 20) (by omega) h2
        refine br_f n0 (br_t n1 (br_f m0 (br_f m1 ?_)))
        unfold wpY_sow
        exact br_f n0 (br_t n1 (br_f m0 (br_f m1 ⟨rfl, gd_rl hY hR⟩)))
    · have m0 : ¬ nI b < 0 := nI_pos (by omega)
      have m1 : nI b ≤ 20 := nI_le (b := 20) (by omega) (by decide)
      refine br_f n0 (br_t n1 (br_f m0 (br_t m1 ⟨18, ?_⟩)))
      have hX := gx_sl (c := c) (z := z) (post := fun r u' => wpY_sow (fun r' v' => r' = r ∧ i_Rel (k + 3) u' v') (c, z, o, t) (nI a) (nI b)) ha hb ?_ 17 0 rfl
      · rw [gd_s0] at hX
        exact hX
      · show wpY_sow _ _ _ _
        unfold wpY_sow
        refine br_f n0 (br_t n1 (br_f m0 (br_t m1 ⟨18, ?_⟩)))
        have hZ := gy_sl (c := c) (z := z) (o := o) (t := t) (post := fun r' v' => r' = gd_ss a b 17 ∧ i_Rel (k + 3) (gd_sa c a b 17, z) v') ha hb ⟨rfl, gd_rl hY (gd_sR hR a b)⟩ 17 0 rfl
        rw [gd_s0] at hZ
        exact hZ
theorem i_vc_close {k : Nat} {u : SX} {v : SY} (I : i_Rel k u v) (hk : k + 3 ≤ 1536) (v1 : Int32) (v2 : Int32) : wpX_close (fun r u' => wpY_close (fun r' v' => r' = r ∧ i_Rel (k + 3) u' v') v v1 v2) u v1 v2 := by
  obtain ⟨c, z, o, t, rfl, rfl, hY, hR⟩ := I
  unfold wpX_close
  rcases gd_ix v1 17 with hb | ⟨s, hs, rfl⟩
  · refine gx_st0 hb (br_t rfl ?_)
    unfold wpY_close
    exact gy_bs1 hb (br_f gd_10 ⟨rfl, gd_rl hY hR⟩)
  · have hi : vp_in (nI s) 17 := vp_in_nI hs (by decide)
    have r0 : i_Rel (k + 3) (c, upd z (nI s).toNatClampNeg (vp_nar .boolean 0)) (c, upd z (nI s).toNatClampNeg (vp_nar .boolean 0), o, t) := gd_rl hY (gd_R_z hR _ (Or.inl gd_nb0))
    have r1 : i_Rel (k + 3) (c, upd z (nI s).toNatClampNeg (vp_nar .boolean 1)) (c, upd z (nI s).toNatClampNeg (vp_nar .boolean 1), o, t) := gd_rl hY (gd_R_z hR _ (Or.inr gd_nb1))
    refine gx_st hs (br_f gd_10 ⟨hi, br_c (fun e => br_c (fun g => ⟨hi, nm_e ?_⟩) (fun g => ⟨hi, nm_e ?_⟩)) (fun e => br_c (fun g => ⟨hi, nm_e ?_⟩) (fun g => ⟨hi, nm_e ?_⟩))⟩)
    · unfold wpY_close
      exact gy_bs hs (br_t rfl ⟨hi, br_t e (br_t g ⟨hi, nm_e ⟨rfl, r0⟩⟩)⟩)
    · unfold wpY_close
      exact gy_bs hs (br_t rfl ⟨hi, br_t e (br_f g ⟨hi, nm_e ⟨rfl, r1⟩⟩)⟩)
    · unfold wpY_close
      exact gy_bs hs (br_t rfl ⟨hi, br_f e (br_t g ⟨hi, nm_e ⟨rfl, r0⟩⟩)⟩)
    · unfold wpY_close
      exact gy_bs hs (br_t rfl ⟨hi, br_f e (br_f g ⟨hi, nm_e ⟨rfl, r1⟩⟩)⟩)
theorem i_vc_capacity {k : Nat} {u : SX} {v : SY} (I : i_Rel k u v) (hk : k + 3 ≤ 1536) (v1 : Int32) : wpX_capacity (fun r => wpY_capacity (fun r' => r' = r ∧ i_Rel (k + 3) u v) v v1) u v1 := by
  obtain ⟨c, z, o, t, rfl, rfl, hY, hR⟩ := I
  unfold wpX_capacity
  rcases gd_ix v1 17 with hb | ⟨s, hs, rfl⟩
  · refine gx_st0 hb (br_t rfl ?_)
    unfold wpY_capacity
    exact gy_bs1 hb (br_f gd_10 ⟨rfl, gd_rl hY hR⟩)
  · have hi : vp_in (nI s) 17 := vp_in_nI hs (by decide)
    refine gx_st hs (br_f gd_10 ⟨hi, ?_⟩)
    unfold wpY_capacity
    exact gy_bs hs (br_t rfl ⟨hi, rfl, gd_rl hY hR⟩)
theorem i_vc_between {k : Nat} {u : SX} {v : SY} (I : i_Rel k u v) (hk : k + 3 ≤ 1536) (v1 : Int32) (v2 : Int32) : wpX_between (fun r => wpY_between (fun r' => r' = r ∧ i_Rel (k + 3) u v) v v1 v2) u v1 v2 := by
  obtain ⟨c, z, o, t, rfl, rfl, hY, hR⟩ := I
  unfold wpX_between
  rcases gd_ix v1 12 with h1 | ⟨a, ha, rfl⟩
  · refine gx_cg0 h1 (br_t rfl ?_)
    unfold wpY_between
    exact gy_b1 h1 (br_f gd_10 ⟨rfl, gd_rl hY hR⟩)
  · rcases gd_ix v2 12 with h1 | ⟨b, hb, rfl⟩
    · refine gx_cg ha (br_f gd_10 (gx_cg0 h1 (br_t rfl ?_)))
      unfold wpY_between
      exact gy_b ha (br_t rfl (gy_b1 h1 (br_f gd_10 ⟨rfl, gd_rl hY hR⟩)))
    · have e : ((1 : Int32) <<< (nI a &&& 31)) ||| ((1 : Int32) <<< (nI b &&& 31)) = nI (2 ^ a ||| 2 ^ b) := by
        rw [gd_shl (by omega), gd_shl (by omega), gd_or]
      refine gx_cg ha (br_f gd_10 (gx_cg hb (br_f gd_10 (nm_r e ⟨18, gx_bl ha hb ?_⟩))))
      unfold wpY_between
      exact gy_b ha (br_t rfl (gy_b hb (br_t rfl ⟨18, gy_bl hY ha hb ⟨rfl, gd_rl hY hR⟩⟩)))
theorem i_vc_flow {k : Nat} {u : SX} {v : SY} (I : i_Rel k u v) (hk : k + 3 ≤ 1536) : wpX_flow (fun r => wpY_flow (fun r' => r' = r ∧ i_Rel (k + 3) u v) v) u := by
  obtain ⟨c, z, o, t, rfl, rfl, hY, hR⟩ := I
  have hf := gd_fo_op hR
  have hw := gd_fo_w hR
  unfold wpX_flow
  refine gx_l0 hf hw ?_
  unfold wpY_flow
  exact gy_l0 hY hf hw ⟨rfl, gd_rl hY hR⟩
theorem i_vc_weight {k : Nat} {u : SX} {v : SY} (I : i_Rel k u v) (hk : k + 3 ≤ 1536) (v1 : Int32) : wpX_weight (fun r => wpY_weight (fun r' => r' = r ∧ i_Rel (k + 3) u v) v v1) u v1 := by
  obtain ⟨c, z, o, t, rfl, rfl, hY, hR⟩ := I
  have hf := gd_fo_op hR
  unfold wpX_weight
  rcases gd_ix v1 4096 with hb | ⟨s, hs, rfl⟩
  · rcases hb with hb | ⟨j, h1, h2, rfl⟩
    · refine br_t hb ?_
      unfold wpY_weight
      exact br_t hb ⟨rfl, gd_rl hY hR⟩
    · have n0 := nI_pos h2
      refine br_f n0 (br_f (nI_nlt (b := 4096) (by omega) h2) ?_)
      unfold wpY_weight
      exact br_f n0 (br_f (nI_ge (a := 4095) (by omega) h2) ⟨rfl, gd_rl hY hR⟩)
  · have n0 : ¬ nI s < 0 := nI_pos (by omega)
    have n1 : nI s < 4096 := nI_lt (b := 4096) hs (by decide)
    have n2 : nI s ≤ 4095 := nI_le (b := 4095) (by omega) (by decide)
    have eb : nI s &&& 1 = 0 ↔ s.testBit 0 = false := by
      have e1 : nI s &&& 1 = nI (s &&& 2 ^ 0) := nx_and s 1
      rw [e1, ← gd_has s 0]
      exact nI_eq (b := 0) (Nat.lt_of_le_of_lt Nat.and_le_left (by omega)) (by decide)
    have e11 : s.testBit 11 = true ↔ 2047 < s := by
      rw [Nat.testBit_eq_decide_div_mod_eq, decide_eq_true_iff]
      omega
    refine br_f n0 (br_t n1 (gx_has (k := 0) (by omega) (by omega) (fun g => ?_) (fun g => ?_)))
    · have g' : ¬ nI s &&& 1 = 0 := by
        rw [eb, g]
        decide
      refine br_f gd_10 (gx_has (k := 11) (by omega) (by omega) (fun q => ?_) (fun q => ?_))
      · refine br_f gd_10 ?_
        have q' := e11.mp q
        unfold wpY_weight
        exact br_f n0 (br_t n2 (br_f g' (br_f (nI_ge (a := 2047) q' (by omega)) ⟨rfl, gd_rl hY hR⟩)))
      · refine br_t rfl (gx_w hf hs ?_)
        have q' : ¬ 2047 < s := fun y => absurd (e11.mpr y) (by rw [q]; decide)
        unfold wpY_weight
        exact br_f n0 (br_t n2 (br_f g' (br_t (nI_le (b := 2047) (by omega) (by decide)) (gy_w hY hf hs ⟨rfl, gd_rl hY hR⟩))))
    · refine br_t rfl ?_
      unfold wpY_weight
      exact br_f n0 (br_t n2 (br_t (eb.mpr g) ⟨rfl, gd_rl hY hR⟩))
end
section
/-! loss and gain: the changed open capacities -/
theorem gd_all : ∀ a, a < 11 → (2 * 1023 + 1).testBit a = true := by decide +kernel
theorem gd_one : ∀ a, a < 12 → a ≠ 0 → (!(2 * 0 + 1).testBit a) = true := by decide +kernel
theorem gd_neg {a b : Nat} (h : b ≤ a) : nI a + (-nI b) = nI (a - b) := by
  rw [← Int32.sub_eq_add_neg]
  exact pk_sub h
theorem gd_lossW {c z : Nat → Int32} (hR : gd_R c z) {s : Nat} (hs : s < 17) : ∀ cut, (gd_c s cut = true → nI (gd_W (gd_fo c z) cut 17) + (-nI (gd_fo c z s)) = nI (gd_W (fun q => if q = s then 0 else gd_fo c z q) cut 17)) ∧ (¬ gd_c s cut = true → gd_W (gd_fo c z) cut 17 = gd_W (fun q => if q = s then 0 else gd_fo c z q) cut 17) ∧ gd_W (fun q => if q = s then 0 else gd_fo c z q) cut 17 < 1000 := by
  intro cut
  have h := gd_W_17 (gd_fo c z) cut 0 hs
  have hb := gd_fo_W hR cut
  by_cases e : gd_c s cut = true
  · rw [if_pos e, if_pos e] at h
    refine ⟨fun _ => ?_, fun g => absurd e g, by omega⟩
    rw [gd_neg (by omega)]
    exact congrArg nI (by omega)
  · rw [if_neg e, if_neg e] at h
    exact ⟨fun g => absurd g e, fun _ => by omega, by omega⟩
theorem gd_lossF {c z : Nat → Int32} (hR : gd_R c z) (s : Nat) : gd_op c (upd z s 1) (fun q => if q = s then 0 else gd_fo c z q) := by
  intro q hq
  have h := gd_fo_op hR q hq
  by_cases e : q = s
  · subst e
    rw [pk_us]
    refine ⟨fun g => absurd g gd_10, fun _ => ?_, ?_⟩
    · exact if_pos rfl
    · show (if q = q then 0 else gd_fo c z q) < 1000
      rw [if_pos rfl]
      decide
  · rw [pk_un e]
    show (z q = 0 → c q = nI (if q = s then 0 else gd_fo c z q)) ∧ (¬ z q = 0 → (if q = s then 0 else gd_fo c z q) = 0) ∧ (if q = s then 0 else gd_fo c z q) < 1000
    rw [if_neg e]
    exact h
theorem gd_back {c z : Nat → Int32} (hR : gd_R c z) {s : Nat} (hs : s < 17) : upd (upd z s 1) s (vp_nar .boolean (z s)) = z := by
  have e0 : vp_nar .boolean (z s) = z s := by
    rcases (hR s hs).2 with e | e
    · rw [e]; exact gd_nb0
    · rw [e]; exact gd_nb1
  funext q
  by_cases e : q = s
  · subst e
    rw [pk_us, e0]
  · rw [pk_un e, pk_un e]
theorem gd_gainW {c z : Nat → Int32} (hR : gd_R c z) {s : Nat} (hs : s < 17) {j : Nat} (hj : j ≤ 100) : ∀ cut, (gd_c s cut = true → nI (gd_W (gd_fo c z) cut 17) + nI j = nI (gd_W (fun q => if q = s then gd_fo c z s + j else gd_fo c z q) cut 17)) ∧ (¬ gd_c s cut = true → gd_W (gd_fo c z) cut 17 = gd_W (fun q => if q = s then gd_fo c z s + j else gd_fo c z q) cut 17) ∧ gd_W (fun q => if q = s then gd_fo c z s + j else gd_fo c z q) cut 17 < 1000 := by
  intro cut
  have h := gd_W_17 (gd_fo c z) cut (gd_fo c z s + j) hs
  have hb := gd_fo_W hR cut
  by_cases e : gd_c s cut = true
  · rw [if_pos e, if_pos e] at h
    refine ⟨fun _ => ?_, fun g => absurd e g, by omega⟩
    rw [nI_add]
    exact congrArg nI (by omega)
  · rw [if_neg e, if_neg e] at h
    exact ⟨fun g => absurd g e, fun _ => by omega, by omega⟩
theorem gd_gainF {c z : Nat → Int32} (hR : gd_R c z) {s : Nat} (hs : s < 17) (hz : z s = 0) {j : Nat} (hj : j ≤ 100) : gd_op (upd c s (c s + nI j)) z (fun q => if q = s then gd_fo c z s + j else gd_fo c z q) := by
  intro q hq
  have h := gd_fo_op hR q hq
  have hl := gd_fo_le hR q hq
  by_cases e : q = s
  · subst e
    rw [pk_us]
    show (z q = 0 → c q + nI j = nI (if q = q then gd_fo c z q + j else gd_fo c z q)) ∧ (¬ z q = 0 → (if q = q then gd_fo c z q + j else gd_fo c z q) = 0) ∧ (if q = q then gd_fo c z q + j else gd_fo c z q) < 1000
    rw [if_pos rfl]
    refine ⟨fun g => ?_, fun g => absurd hz g, by omega⟩
    rw [h.1 g, nI_add]
  · rw [pk_un e]
    show (z q = 0 → c q = nI (if q = s then gd_fo c z s + j else gd_fo c z q)) ∧ (¬ z q = 0 → (if q = s then gd_fo c z s + j else gd_fo c z q) = 0) ∧ (if q = s then gd_fo c z s + j else gd_fo c z q) < 1000
    rw [if_neg e]
    exact h
theorem gd_gainN {c z : Nat → Int32} (hR : gd_R c z) {s : Nat} (hz : ¬ z s = 0) {x : Int32} : gd_op (upd c s x) z (gd_fo c z) := by
  intro q hq
  have h := gd_fo_op hR q hq
  by_cases e : q = s
  · subst e
    exact ⟨fun g => absurd g hz, h.2⟩
  · rw [pk_un e]
    exact h
theorem gd_back2 {c : Nat → Int32} {s : Nat} {x : Int32} : upd (upd c s (c s + x)) s (upd c s (c s + x) s - x) = c := by
  funext q
  by_cases e : q = s
  · subst e
    rw [pk_us, pk_us, Int32.add_sub_cancel]
  · rw [pk_un e, pk_un e]
end
section
/-! what is owed: the cuts, loss, gain, way -/
theorem i_vc_firstCut {k : Nat} {u : SX} {v : SY} (I : i_Rel k u v) (hk : k + 3 ≤ 1536) : wpX_firstCut (fun r => wpY_firstCut (fun r' => r' = r ∧ i_Rel (k + 3) u v) v) u := by
  obtain ⟨c, z, o, t, rfl, rfl, hY, hR⟩ := I
  have hf := gd_fo_op hR
  have hw := gd_fo_w hR
  unfold wpX_firstCut
  refine gx_l0 hf hw (gx_a hf (gd_mnT hw) hw ?_)
  unfold wpY_firstCut
  exact gy_a hY hf hw ⟨rfl, gd_rl hY hR⟩
theorem i_vc_lastCut {k : Nat} {u : SX} {v : SY} (I : i_Rel k u v) (hk : k + 3 ≤ 1536) : wpX_lastCut (fun r => wpY_lastCut (fun r' => r' = r ∧ i_Rel (k + 3) u v) v) u := by
  obtain ⟨c, z, o, t, rfl, rfl, hY, hR⟩ := I
  have hf := gd_fo_op hR
  have hw := gd_fo_w hR
  have hm := gd_mnT hw
  obtain ⟨i, hi, _, he⟩ := gd_mn_at (fun cut => gd_W (gd_fo c z) cut 17) (fun _ => true) 1024 hm
  have eu := gd_un_e (fun cut => gd_W (gd_fo c z) cut 17) _ 1024 i hi he
  unfold wpX_lastCut
  refine gx_l0 hf hw ⟨1025, gx_ul hf hm hw ?_ 1024 0 rfl⟩
  unfold wpY_lastCut
  exact gy_l0 hY hf hw ⟨1025, gy_ul hY hf hm hw ⟨congrArg nI eu, gd_rl hY hR⟩ 1024 0 rfl⟩
theorem i_vc_leastWith {k : Nat} {u : SX} {v : SY} (I : i_Rel k u v) (hk : k + 3 ≤ 1536) (v1 : Int32) : wpX_leastWith (fun r => wpY_leastWith (fun r' => r' = r ∧ i_Rel (k + 3) u v) v v1) u v1 := by
  obtain ⟨c, z, o, t, rfl, rfl, hY, hR⟩ := I
  have hf := gd_fo_op hR
  have hw := gd_fo_w hR
  unfold wpX_leastWith
  rcases gd_ix v1 12 with h1 | ⟨a, ha, rfl⟩
  · refine gx_cg0 h1 (br_t rfl ?_)
    unfold wpY_leastWith
    exact gy_b1 h1 (br_f gd_10 ⟨rfl, gd_rl hY hR⟩)
  · refine gx_cg ha (br_f gd_10 (pk_eq a 11 (fun e => ?_) (fun e => ?_)))
    · unfold wpY_leastWith
      exact gy_b ha (br_t rfl (pk_eq a 11 (fun _ => ⟨rfl, gd_rl hY hR⟩) (fun g => absurd e g)))
    · have h2 : (2 : Nat) ^ a < 4096 := (gd_pc_1 a ha).2
      rw [gd_shl (by omega)]
      have hb : (2 * 1023 + 1).testBit a = true := gd_all a (by omega)
      refine gx_l (b := 0) (p := fun cut => cut.testBit a) hf h2 (fun i _ => ⟨fun q => ⟨(gd_has' _ a).mpr q, Nat.and_zero _⟩, fun q => (gd_has' _ a).mp q.1⟩) hw ?_
      unfold wpY_leastWith
      refine gy_b ha (br_t rfl (br_f (fun q => e ((nI_eq (b := 11) (by omega) (by decide)).mp q)) ?_))
      exact gy_l (g := true) (p := fun cut => cut.testBit a) hY hf ha (fun i _ => Iff.rfl) hw ⟨1023, by decide, hb⟩ ⟨rfl, gd_rl hY hR⟩
theorem i_vc_leastWithout {k : Nat} {u : SX} {v : SY} (I : i_Rel k u v) (hk : k + 3 ≤ 1536) (v1 : Int32) : wpX_leastWithout (fun r => wpY_leastWithout (fun r' => r' = r ∧ i_Rel (k + 3) u v) v v1) u v1 := by
  obtain ⟨c, z, o, t, rfl, rfl, hY, hR⟩ := I
  have hf := gd_fo_op hR
  have hw := gd_fo_w hR
  unfold wpX_leastWithout
  rcases gd_ix v1 12 with h1 | ⟨a, ha, rfl⟩
  · refine gx_cg0 h1 (br_t rfl ?_)
    unfold wpY_leastWithout
    exact gy_b1 h1 (br_f gd_10 ⟨rfl, gd_rl hY hR⟩)
  · refine gx_cg ha (br_f gd_10 (pk_eq a 0 (fun e => ?_) (fun e => ?_)))
    · unfold wpY_leastWithout
      exact gy_b ha (br_t rfl (pk_eq a 0 (fun _ => ⟨rfl, gd_rl hY hR⟩) (fun g => absurd e g)))
    · rw [gd_shl (by omega)]
      have hb : (!(2 * 0 + 1).testBit a) = true := gd_one a ha e
      refine gx_l (a := 0) (p := fun cut => !cut.testBit a) hf (by decide) (fun i _ => ⟨fun q => ⟨Nat.and_zero _, (gd_has _ a).mpr (Bool.not_eq_true' _ ▸ q)⟩, fun q => (Bool.not_eq_true' _).mpr ((gd_has _ a).mp q.2)⟩) hw ?_
      unfold wpY_leastWithout
      refine gy_b ha (br_t rfl (br_f (fun q => e ((nI_eq (b := 0) (by omega) (by decide)).mp q)) ?_))
      exact gy_l (g := false) (p := fun cut => !cut.testBit a) hY hf ha (fun i _ => by rw [Bool.not_eq_true']) hw ⟨0, by decide, hb⟩ ⟨rfl, gd_rl hY hR⟩
theorem i_vc_loss {k : Nat} {u : SX} {v : SY} (I : i_Rel k u v) (hk : k + 3 ≤ 1536) (v1 : Int32) : wpX_loss (fun r => wpY_loss (fun r' v' => r' = r ∧ i_Rel (k + 3) u v') v v1) u v1 := by
  obtain ⟨c, z, o, t, rfl, rfl, hY, hR⟩ := I
  have hf := gd_fo_op hR
  have hw := gd_fo_w hR
  unfold wpX_loss
  rcases gd_ix v1 17 with hb | ⟨s, hs, rfl⟩
  · refine gx_st0 hb (br_t rfl ?_)
    unfold wpY_loss
    exact gy_bs1 hb (br_f gd_10 ⟨rfl, gd_rl hY hR⟩)
  · have hi : vp_in (nI s) 17 := vp_in_nI hs (by decide)
    have hcl : (nI s).toNatClampNeg = s := nI_clamp (by omega)
    have hc := gd_lossW hR hs
    have hw2 : ∀ cut, gd_W (fun q => if q = s then 0 else gd_fo c z q) cut 17 < 1000 := fun cut => (hc cut).2.2
    refine gx_st hs (br_f gd_10 (gx_oc hf hs (gx_l0 hf hw (gx_g hf hs hc ?_))))
    unfold wpY_loss
    refine gy_bs hs (br_t rfl (gy_l0 hY hf hw ⟨hi, nm_e ⟨hi, nm_e ?_⟩⟩))
    rw [hcl, gd_nb1]
    refine gy_l0 hY (gd_lossF hR s) hw2 ⟨hi, nm_e ⟨rfl, ?_⟩⟩
    rw [gd_back hR hs]
    exact gd_rl hY hR
theorem i_vc_gain {k : Nat} {u : SX} {v : SY} (I : i_Rel k u v) (hk : k + 3 ≤ 1536) (v1 : Int32) (v2 : Int32) : wpX_gain (fun r => wpY_gain (fun r' v' => r' = r ∧ i_Rel (k + 3) u v') v v1 v2) u v1 v2 := by
  obtain ⟨c, z, o, t, rfl, rfl, hY, hR⟩ := I
  have hf := gd_fo_op hR
  have hw := gd_fo_w hR
  unfold wpX_gain
  rcases gd_ix v1 17 with hb | ⟨s, hs, rfl⟩
  · refine gx_st0 hb (br_t rfl ?_)
    unfold wpY_gain
    exact gy_bs1 hb (br_f gd_10 ⟨rfl, gd_rl hY hR⟩)
  · have hi : vp_in (nI s) 17 := vp_in_nI hs (by decide)
    have hcl : (nI s).toNatClampNeg = s := nI_clamp (by omega)
    refine gx_st hs (br_f gd_10 ?_)
    rcases gd_ix v2 101 with hb | ⟨j, hj, rfl⟩
    · rcases hb with hb | ⟨j, h1, h2, rfl⟩
      · refine br_t hb ?_
        unfold wpY_gain
        exact gy_bs hs (br_t rfl (br_t hb ⟨rfl, gd_rl hY hR⟩))
      · have n0 := nI_pos h2
        have n1 : ¬ nI j ≤ 100 := nI_ge (a := 100) (by omega) h2
        refine br_f n0 (br_f n1 ?_)
        unfold wpY_gain
        exact gy_bs hs (br_t rfl (br_f n0 (br_f n1 ⟨rfl, gd_rl hY hR⟩)))
    · have n0 : ¬ nI j < 0 := nI_pos (by omega)
      have n1 : nI j ≤ 100 := nI_le (b := 100) (by omega) (by decide)
      refine br_f n0 (br_t n1 ⟨hi, br_c (fun e => ?_) (fun e => ?_)⟩)
      · rw [hcl] at e
        have hc := gd_gainW hR hs (j := j) (by omega)
        have hw2 : ∀ cut, gd_W (fun q => if q = s then gd_fo c z s + j else gd_fo c z q) cut 17 < 1000 := fun cut => (hc cut).2.2
        refine gx_g hf hs hc (gx_l0 hf hw ?_)
        unfold wpY_gain
        refine gy_bs hs (br_t rfl (br_f n0 (br_t n1 (gy_l0 hY hf hw ⟨hi, hi, nm_e ?_⟩))))
        rw [hcl]
        refine gy_l0 hY (gd_gainF hR hs e (by omega)) hw2 ⟨hi, hi, nm_e ⟨rfl, ?_⟩⟩
        rw [gd_back2]
        exact gd_rl hY hR
      · rw [hcl] at e
        unfold wpY_gain
        refine gy_bs hs (br_t rfl (br_f n0 (br_t n1 (gy_l0 hY hf hw ⟨hi, hi, nm_e ?_⟩))))
        rw [hcl]
        refine gy_l0 hY (gd_gainN hR e) hw ⟨hi, hi, nm_e ⟨Int32.sub_self _, ?_⟩⟩
        rw [gd_back2]
        exact gd_rl hY hR
theorem i_vc_way {k : Nat} {u : SX} {v : SY} (I : i_Rel k u v) (hk : k + 3 ≤ 1536) (v1 : Int32) (v2 : Int32) : wpX_way (fun r => wpY_way (fun r' => r' = r ∧ i_Rel (k + 3) u v) v v1 v2) u v1 v2 := by
  obtain ⟨c, z, o, t, rfl, rfl, hY, hR⟩ := I
  have hf := gd_fo_op hR
  unfold wpX_way
  rcases gd_ix v1 12 with h1 | ⟨a, ha, rfl⟩
  · refine gx_cg0 h1 (br_t rfl ?_)
    unfold wpY_way
    exact gy_b1 h1 (br_f gd_10 ⟨rfl, gd_rl hY hR⟩)
  · rcases gd_ix v2 12 with h1 | ⟨b, hb, rfl⟩
    · refine gx_cg ha (br_f gd_10 (gx_cg0 h1 (br_t rfl ?_)))
      unfold wpY_way
      exact gy_b ha (br_t rfl (gy_b1 h1 (br_f gd_10 ⟨rfl, gd_rl hY hR⟩)))
    · have e : (1 : Int32) <<< (nI a &&& 31) = nI (2 ^ a) := gd_shl (by omega)
      refine gx_cg ha (br_f gd_10 (gx_cg hb (br_f gd_10 (nm_r e ⟨12, gx_yl hf ha hb ?_ 11 0 rfl⟩))))
      unfold wpY_way
      refine gy_b ha (br_t rfl (gy_b hb (br_t rfl (nm_r e ⟨13, gy_yl hY hf ha hb ⟨?_, gd_rl hY hR⟩ 12 0 rfl⟩))))
      rw [gd_way _ ha]
theorem i_vc_cutStreets {k : Nat} {u : SX} {v : SY} (I : i_Rel k u v) (hk : k + 3 ≤ 1536) : wpX_cutStreets (fun r => wpY_cutStreets (fun r' => r' = r ∧ i_Rel (k + 3) u v) v) u := by
  obtain ⟨c, z, o, t, rfl, rfl, hY, hR⟩ := I
  have hf := gd_fo_op hR
  have hw := gd_fo_w hR
  have hm := gd_mnT hw
  have hS : gd_an (fun cut => gd_W (gd_fo c z) cut 17) (gd_mn (fun cut => gd_W (gd_fo c z) cut 17) (fun _ => true) 1024) 1024 < 4096 := Nat.lt_of_le_of_lt (gd_an_le _ _ _) (by decide)
  unfold wpX_cutStreets
  refine gx_l0 hf hw (gx_a hf hm hw ⟨18, gx_kl hf hS ?_ 17 0 rfl⟩)
  unfold wpY_cutStreets
  exact gy_a hY hf hw ⟨18, gy_kl hY hf hS ⟨rfl, gd_rl hY hR⟩ 17 0 rfl⟩
end
