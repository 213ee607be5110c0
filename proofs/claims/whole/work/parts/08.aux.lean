/-! loss and gain: the changed open capacities -/
theorem gd_all : ∀ a, a < 11 → (2 * 1023 + 1).testBit a = true := by decide +kernel
theorem gd_one : ∀ a, a < 12 → a ≠ 0 → (!(2 * 0 + 1).testBit a) = true := by decide +kernel
theorem gd_neg {a b : Nat} (h : b ≤ a) : nI a + (-nI b) = nI (a - b) := by
  rw [← Int32.sub_eq_add_neg]
  exact pk_sub h
theorem gd_lossW {c z : Nat → Int32} (hR : gd_R c z) {s : Nat} (hs : s < 17) : ∀ cut, (gd_c s cut = true → nI (gd_W (gd_fo c z) cut 17) + (-nI (gd_fo c z s)) = nI (gd_W (fun q => if q = s then 0 else gd_fo c z q) cut 17)) ∧ (¬ gd_c s cut = true → gd_W (gd_fo c z) cut 17 = gd_W (fun q => if q = s then 0 else gd_fo c z q) cut 17) ∧ gd_W (fun q => if q = s then 0 else gd_fo c z q) cut 17 < 1000 := by
  intro cut
  have h := gd_W_17 (gd_fo c z) cut 0 hs
  have hb := gd_fo_W hR cut
  by_cases e : gd_c s cut = true
  · rw [if_pos e, if_pos e] at h
    refine ⟨fun _ => ?_, fun g => absurd e g, by omega⟩
    rw [gd_neg (by omega)]
    exact congrArg nI (by omega)
  · rw [if_neg e, if_neg e] at h
    exact ⟨fun g => absurd g e, fun _ => by omega, by omega⟩
theorem gd_lossF {c z : Nat → Int32} (hR : gd_R c z) (s : Nat) : gd_op c (upd z s 1) (fun q => if q = s then 0 else gd_fo c z q) := by
  intro q hq
  have h := gd_fo_op hR q hq
  by_cases e : q = s
  · subst e
    rw [pk_us]
    refine ⟨fun g => absurd g gd_10, fun _ => ?_, ?_⟩
    · exact if_pos rfl
    · show (if q = q then 0 else gd_fo c z q) < 1000
      rw [if_pos rfl]
      decide
  · rw [pk_un e]
    show (z q = 0 → c q = nI (if q = s then 0 else gd_fo c z q)) ∧ (¬ z q = 0 → (if q = s then 0 else gd_fo c z q) = 0) ∧ (if q = s then 0 else gd_fo c z q) < 1000
    rw [if_neg e]
    exact h
theorem gd_back {c z : Nat → Int32} (hR : gd_R c z) {s : Nat} (hs : s < 17) : upd (upd z s 1) s (vp_nar .boolean (z s)) = z := by
  have e0 : vp_nar .boolean (z s) = z s := by
    rcases (hR s hs).2 with e | e
    · rw [e]; exact gd_nb0
    · rw [e]; exact gd_nb1
  funext q
  by_cases e : q = s
  · subst e
    rw [pk_us, e0]
  · rw [pk_un e, pk_un e]
theorem gd_gainW {c z : Nat → Int32} (hR : gd_R c z) {s : Nat} (hs : s < 17) {j : Nat} (hj : j ≤ 100) : ∀ cut, (gd_c s cut = true → nI (gd_W (gd_fo c z) cut 17) + nI j = nI (gd_W (fun q => if q = s then gd_fo c z s + j else gd_fo c z q) cut 17)) ∧ (¬ gd_c s cut = true → gd_W (gd_fo c z) cut 17 = gd_W (fun q => if q = s then gd_fo c z s + j else gd_fo c z q) cut 17) ∧ gd_W (fun q => if q = s then gd_fo c z s + j else gd_fo c z q) cut 17 < 1000 := by
  intro cut
  have h := gd_W_17 (gd_fo c z) cut (gd_fo c z s + j) hs
  have hb := gd_fo_W hR cut
  by_cases e : gd_c s cut = true
  · rw [if_pos e, if_pos e] at h
    refine ⟨fun _ => ?_, fun g => absurd e g, by omega⟩
    rw [nI_add]
    exact congrArg nI (by omega)
  · rw [if_neg e, if_neg e] at h
    exact ⟨fun g => absurd g e, fun _ => by omega, by omega⟩
theorem gd_gainF {c z : Nat → Int32} (hR : gd_R c z) {s : Nat} (hs : s < 17) (hz : z s = 0) {j : Nat} (hj : j ≤ 100) : gd_op (upd c s (c s + nI j)) z (fun q => if q = s then gd_fo c z s + j else gd_fo c z q) := by
  intro q hq
  have h := gd_fo_op hR q hq
  have hl := gd_fo_le hR q hq
  by_cases e : q = s
  · subst e
    rw [pk_us]
    show (z q = 0 → c q + nI j = nI (if q = q then gd_fo c z q + j else gd_fo c z q)) ∧ (¬ z q = 0 → (if q = q then gd_fo c z q + j else gd_fo c z q) = 0) ∧ (if q = q then gd_fo c z q + j else gd_fo c z q) < 1000
    rw [if_pos rfl]
    refine ⟨fun g => ?_, fun g => absurd hz g, by omega⟩
    rw [h.1 g, nI_add]
  · rw [pk_un e]
    show (z q = 0 → c q = nI (if q = s then gd_fo c z s + j else gd_fo c z q)) ∧ (¬ z q = 0 → (if q = s then gd_fo c z s + j else gd_fo c z q) = 0) ∧ (if q = s then gd_fo c z s + j else gd_fo c z q) < 1000
    rw [if_neg e]
    exact h
theorem gd_gainN {c z : Nat → Int32} (hR : gd_R c z) {s : Nat} (hz : ¬ z s = 0) {x : Int32} : gd_op (upd c s x) z (gd_fo c z) := by
  intro q hq
  have h := gd_fo_op hR q hq
  by_cases e : q = s
  · subst e
    exact ⟨fun g => absurd g hz, h.2⟩
  · rw [pk_un e]
    exact h
theorem gd_back2 {c : Nat → Int32} {s : Nat} {x : Int32} : upd (upd c s (c s + x)) s (upd c s (c s + x) s - x) = c := by
  funext q
  by_cases e : q = s
  · subst e
    rw [pk_us, pk_us, Int32.add_sub_cancel]
  · rw [pk_un e, pk_un e]
