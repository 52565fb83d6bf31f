/-! what the law tells: covers, bits, rows of sets -/
theorem lp_fogR {α ρ : Type} {step : α → Option ((ρ ⊕ α) ⊕ α)} (I : Nat → α → Prop) (n : Nat) (hn : n < 2000) (hs : ∀ i a, i < n → I i a → ∃ a', step a = some (.inr a') ∧ I (i + 1) a') (he : ∀ a, I n a → step a = some (.inl (.inr a))) {a : α} (h : I 0 a) : ∃ b, lp step FU a = some (.inr b) ∧ I n b := by
  obtain ⟨b, h1, b', h2, h3⟩ := lp_go (a := a) (step := step) I (fun b => ∃ b', b = .inr b' ∧ I n b') n h hn (fun i a hi ha => Or.inl (hs i a hi ha)) (fun a ha => ⟨_, he a ha, a, rfl, ha⟩)
  exact ⟨b', by rw [h1, h2], h3⟩
theorem lp_fogL {α : Type} {step : α → Option (α ⊕ α)} (I : Nat → α → Prop) (n : Nat) (hn : n < 2000) (hs : ∀ i a, i < n → I i a → ∃ a', step a = some (.inr a') ∧ I (i + 1) a') (he : ∀ a, I n a → step a = some (.inl a)) {a : α} (h : I 0 a) : ∃ b, lp step FU a = some b ∧ I n b := by
  obtain ⟨b, h1, h2⟩ := lp_go (a := a) (step := step) I (I n) n h hn (fun i a hi ha => Or.inl (hs i a hi ha)) (fun a ha => ⟨_, he a ha, ha⟩)
  exact ⟨b, h1, h2⟩
theorem pc_zero {s : Nat} (hs : s < 4096) (h : pc s = 0) : s = 0 := by
  by_cases h0 : s = 0
  · exact h0
  · have := pc_down s hs h0
    omega
theorem bits_n (u : S) {m : Nat} (hm : m < 4096) : fL_bits (nI m) u = some (nI (pc m)) := by
  obtain ⟨b, h1, s, hs, e1, e2, e3⟩ := lp_fogL (step := gL_bits_4 u) (a := (0, nI m)) (fun i a => ∃ s, s < 4096 ∧ a.2 = nI s ∧ a.1 = nI i ∧ pc s + i = pc m) (pc m) (by have := pc_le m; omega) (fun i a hi ha => by
    obtain ⟨s, hs, e1, e2, e3⟩ := ha
    have h0 : s ≠ 0 := fun h => by subst h; rw [pc_0] at e3; omega
    have hd := pc_down s hs h0
    refine ⟨(nI (i + 1), nI (s &&& (s - 1))), ?_, s &&& (s - 1), and_lt _ hs, rfl, rfl, by omega⟩
    simp only [gL_bits_4, e1, e2]
    rw [if_neg (by rw [show (0 : Int32) = nI 0 from rfl, neq (by omega) (by omega)]; exact h0), show nI s - 1 = nI (s - 1) from nsub (b := 1) (by omega), fa_and, show nI i + 1 = nI (i + 1) from nadd i 1]) (fun a ha => by
    obtain ⟨s, hs, e1, e2, e3⟩ := ha
    have h0 : s = 0 := pc_zero hs (by omega)
    subst h0
    simp only [gL_bits_4, e1]
    rw [if_pos nI_0]
    show some (Sum.inl (a.1, nI 0)) = some (Sum.inl (a.1, a.2))
    rw [e1]) ⟨m, hm, rfl, rfl, by omega⟩
  simp only [fL_bits]
  rw [h1, Option.bind_some, e2]
section C86
variable {P : Bx} {u : S}
theorem c_covers (hW : WF P) (hC : CR u 0 P) {i x y : Nat} (hi : i < P.1 4) (hx : x < 1000) (hy : y < 1000) : fL_covers (nI i) (nI x) (nI y) u = some (if cv P i x y = true then 1 else 0) := by
  have h51 := hW.in1 i hi
  have h6 := (hW.2.2.2.2.2.1 i hi).2.2.2.2.2.2.1
  simp only [fL_covers]
  rw [c_t6 hW hC hi, Option.bind_some, is01 h6, Option.bind_some, c_t5 hW hC hi, Option.bind_some]
  rcases (show P.2 i 5 = 0 ∨ P.2 i 5 = 1 by omega) with h5 | h5
  · rw [h5, if_neg (show ¬ nI 0 = 1 by decide)]
    have : cv P i x y = false := by simp [cv, h5]
    rw [this]
    rfl
  · have hsm := hW.small hi
    rw [h5, if_pos (show nI 1 = 1 from rfl)]
    simp only [c_i7 hW hC hi h5, c_i8 hW hC hi h5, notw h6, c_wide hW hC hi h6, Option.bind_some, c_wide hW hC hi (show 1 - P.2 i 6 ≤ 1 by omega), axt_not h6, nadd]
    have e1 : axt P i (P.2 i 6) = ax P i := rfl
    have e2 : ayt P i (P.2 i 6) = ay P i := rfl
    rw [e1, e2]
    have hcv : cv P i x y = (decide (P.2 i 7 ≤ x) && decide (x < P.2 i 7 + ax P i) && decide (P.2 i 8 ≤ y) && decide (y < P.2 i 8 + ay P i)) := by simp [cv, h5]
    rw [hcv]
    by_cases g1 : x < P.2 i 7
    · rw [if_pos (by rw [nlt (by omega) (by omega)]; exact g1), decide_eq_false (show ¬ P.2 i 7 ≤ x by omega)]
      rfl
    rw [if_neg (by rw [nlt (by omega) (by omega)]; exact g1), decide_eq_true (show P.2 i 7 ≤ x by omega)]
    by_cases g2 : P.2 i 7 + ax P i ≤ x
    · rw [if_pos (by rw [nle (by omega) (by omega)]; exact g2), decide_eq_false (show ¬ x < P.2 i 7 + ax P i by omega)]
      rfl
    rw [if_neg (by rw [nle (by omega) (by omega)]; exact g2), decide_eq_true (show x < P.2 i 7 + ax P i by omega)]
    by_cases g3 : y < P.2 i 8
    · rw [if_pos (by rw [nlt (by omega) (by omega)]; exact g3), decide_eq_false (show ¬ P.2 i 8 ≤ y by omega)]
      rfl
    rw [if_neg (by rw [nlt (by omega) (by omega)]; exact g3), decide_eq_true (show P.2 i 8 ≤ y by omega)]
    by_cases g4 : P.2 i 8 + ay P i ≤ y
    · rw [if_pos (by rw [nle (by omega) (by omega)]; exact g4), decide_eq_false (show ¬ y < P.2 i 8 + ay P i by omega)]
      rfl
    rw [if_neg (by rw [nle (by omega) (by omega)]; exact g4), decide_eq_true (show y < P.2 i 8 + ay P i by omega)]
    rfl
end C86
/-- the row of sets in cell 168 -/
def ON (u u' : S) (R : Nat → Nat → Prop) : Prop := (∀ j, j ≠ 168 → u'.1 j = u.1 j) ∧ ∀ t, t < 12 → ∃ m, m < 4096 ∧ u'.1 168 t = nI m ∧ ∀ k, m.testBit k = true ↔ R t k
theorem ON.cr {P : Bx} {u u' : S} {R : Nat → Nat → Prop} (hn : P.1 4 ≤ 12) (h : ON u u' R) (hC : CR u 0 P) : CR u' 0 P := CR_of hn hC (fun j hj => h.1 j (by unfold inB at hj; omega))
theorem ON.iff {u u' : S} {R R' : Nat → Nat → Prop} (h : ON u u' R) (he : ∀ t k, t < 12 → (R t k ↔ R' t k)) : ON u u' R' := ⟨h.1, fun t ht => by
  obtain ⟨m, h1, h2, h3⟩ := h.2 t ht
  exact ⟨m, h1, h2, fun k => (h3 k).trans (he t k ht)⟩⟩
theorem ON.put {u u' : S} {R : Nat → Nat → Prop} {t k : Nat} {b : Bool} {v : Int32} (h : ON u u' R) (ht : t < 12) (hk : k < 12) (hv : v = if b = true then (1 : Int32) <<< (nI k &&& 31) else 0) : ON u (up u' 168 t (u'.1 168 t ||| v)) (fun t' k' => R t' k' ∨ (t' = t ∧ k' = k ∧ b = true)) := by
  refine ⟨fun j hj => by rw [up_ne _ _ _ _ hj]; exact h.1 j hj, fun t' ht' => ?_⟩
  obtain ⟨m, h1, h2, h3⟩ := h.2 t' ht'
  by_cases htt : t' = t
  · subst htt
    cases b with
    | true =>
      have hv : v = (1 : Int32) <<< (nI k &&& 31) := hv
      refine ⟨m ||| 2 ^ k, or_lt h1 (pow_lt hk), ?_, fun k' => ?_⟩
      · rw [up_at, if_pos ⟨rfl, rfl⟩, h2, hv, bset (by omega)]
      · rw [fb_bit_set, Bool.or_eq_true, decide_eq_true_eq, h3 k']
        simp
    | false =>
      have hv : v = 0 := hv
      refine ⟨m, h1, ?_, fun k' => ?_⟩
      · rw [up_at, if_pos ⟨rfl, rfl⟩, h2, hv]
        exact (fa_or (a := m) (b := 0)).trans (by rw [Nat.or_zero])
      · rw [h3 k']
        simp
  · refine ⟨m, h1, ?_, fun k' => ?_⟩
    · rw [up_at, if_neg (fun q => htt q.2)]
      exact h2
    · rw [h3 k']
      simp [htt]
