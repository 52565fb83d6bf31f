/-! numbers and loops -/
theorem nle {a b : Nat} (ha : a < 2147483648) (hb : b < 2147483648) : (nI a ≤ nI b) ↔ a ≤ b := by
  rw [Int32.le_iff_toInt_le, nI_toInt ha, nI_toInt hb]
  omega
theorem nlt {a b : Nat} (ha : a < 2147483648) (hb : b < 2147483648) : (nI a < nI b) ↔ a < b := by
  rw [Int32.lt_iff_toInt_lt, nI_toInt ha, nI_toInt hb]
  omega
theorem neq {a b : Nat} (ha : a < 2147483648) (hb : b < 2147483648) : (nI a = nI b) ↔ a = b := by
  rw [← Int32.toInt_inj, nI_toInt ha, nI_toInt hb]
  omega
theorem nadd (a b : Nat) : nI a + nI b = nI (a + b) := (Int32.ofNat_add a b).symm
theorem nmul (a b : Nat) : nI a * nI b = nI (a * b) := (Int32.ofNat_mul a b).symm
theorem nsub {a b : Nat} (h : b ≤ a) : nI a - nI b = nI (a - b) := (Int32.ofNat_sub a b h).symm
theorem ncl {a : Nat} (h : a < 2147483648) : (nI a).toNatClampNeg = a := nI_clamp h
theorem inb_n {a n : Nat} (h : a < n) (hn : n < 2147483648) : inb (nI a) n = true := by
  have := vp_in_nI h hn
  unfold vp_in at this
  unfold inb
  exact decide_eq_true this
theorem gd_t {α : Type} {b : Bool} {x : Option α} (h : b = true) : gd b x = x := by simp [gd, h]
theorem nm_k {α β : Type} (x : α) (k : α → β) : nm x k = k x := rfl
theorem npred (a : Nat) : nI (a + 1) + (-1) = nI a := by
  have h : nI (a + 1) = nI a + nI 1 := (nadd a 1).symm
  rw [h, Int32.add_assoc]
  have : nI 1 + (-1) = 0 := by decide
  rw [this, Int32.add_zero]
/-- a loop by an invariant: n rounds, or fewer -/
theorem lp_run {α β : Type} {step : α → Option (β ⊕ α)} (I : Nat → α → Prop) (E : β → Prop) (n : Nat)
    (hs : ∀ i a, i < n → I i a → (∃ a', step a = some (.inr a') ∧ I (i + 1) a') ∨ ∃ b, step a = some (.inl b) ∧ E b)
    (he : ∀ a, I n a → ∃ b, step a = some (.inl b) ∧ E b) :
    ∀ (k i : Nat) (a : α) (F : Nat), i + k = n → k < F → I i a → ∃ b, lp step F a = some b ∧ E b := by
  intro k
  induction k with
  | zero =>
    intro i a F hi hF hI
    have hi : i = n := by omega
    subst hi
    obtain ⟨b, h1, h2⟩ := he a hI
    match F, hF with
    | F + 1, _ => exact ⟨b, by simp [lp, h1], h2⟩
  | succ k ih =>
    intro i a F hi hF hI
    match F, hF with
    | F + 1, hF =>
      rcases hs i a (by omega) hI with ⟨a', h1, h2⟩ | ⟨b, h1, h2⟩
      · obtain ⟨b, h3, h4⟩ := ih (i + 1) a' F (by omega) (by omega) h2
        exact ⟨b, by simp [lp, h1, h3], h4⟩
      · exact ⟨b, by simp [lp, h1], h2⟩
theorem lp_go {α β : Type} {step : α → Option (β ⊕ α)} {a : α} (I : Nat → α → Prop) (E : β → Prop) (n : Nat) (h0 : I 0 a) (hn : n < 2000)
    (hs : ∀ i a, i < n → I i a → (∃ a', step a = some (.inr a') ∧ I (i + 1) a') ∨ ∃ b, step a = some (.inl b) ∧ E b)
    (he : ∀ a, I n a → ∃ b, step a = some (.inl b) ∧ E b) : ∃ b, lp step FU a = some b ∧ E b :=
  lp_run I E n hs he n 0 a FU (by omega) hn h0
/-- a loop whose rounds are known -/
theorem lp_for {α β : Type} {step : α → Option (β ⊕ α)} (st : Nat → α) (n : Nat) {b : β} (hn : n < 2000)
    (hs : ∀ i, i < n → step (st i) = some (.inr (st (i + 1)))) (he : step (st n) = some (.inl b)) : lp step FU (st 0) = some b := by
  obtain ⟨b', h1, h2⟩ := lp_go (a := st 0) (step := step) (fun i a => a = st i) (fun x => x = b) n rfl hn
    (fun i a hi ha => Or.inl ⟨_, by rw [ha]; exact hs i hi, rfl⟩) (fun a ha => ⟨b, by rw [ha]; exact he, rfl⟩)
  rw [h1, h2]
/-- a set, as a number of 12 bits: its members counted -/
def pc (m : Nat) : Nat := fb_ct (fun i => m.testBit i) 12
set_option maxRecDepth 100000 in
theorem bc_pc : ∀ m, m < 4096 → ∀ u : S, fJ6_bitCount_0f7a4 (nI m) u = some (nI (pc m)) := by
  intro m hm u
  have h : ∀ m, m < 4096 → fJ6_bitCount_0f7a4 (nI m) (fun _ _ => 0, 0) = some (nI (pc m)) := by decide +kernel
  exact (rfl : fJ6_bitCount_0f7a4 (nI m) u = fJ6_bitCount_0f7a4 (nI m) (fun _ _ => 0, 0)).trans (h m hm)
