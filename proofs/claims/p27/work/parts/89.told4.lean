/-! what the law tells: the closure, and the whole -/
section C89
variable {P : Bx} {u : S}
/-- the row of sets holds what lies on each -/
def OL (P : Bx) (u : S) : Prop := ∀ t, t < P.1 4 → ∃ m, m < 4096 ∧ u.1 168 t = nI m ∧ ∀ k, m.testBit k = true ↔ (k < P.1 4 ∧ lo P k t = true)
theorem clo_in (hW : WF P) (hL : OL P u) {s0 : Nat} (h0 : s0 < 4096) :
    ∃ s, lp (gL_told_434 (nI (P.1 4)) u) FU (nI s0, 0) = some (nI s, nI (P.1 4)) ∧ s < 4096 ∧ (∀ i, s0.testBit i = true → s.testBit i = true) ∧ (∀ C : Nat → Prop, (∀ i, s0.testBit i = true → C i) → (∀ i j, i < P.1 4 → j < P.1 4 → C j → lo P i j = true → C i) → ∀ i, s.testBit i = true → C i) ∧ ∀ i j, i < P.1 4 → j < P.1 4 → s0.testBit j = true → lo P i j = true → s.testBit i = true := by
  have hn := hW.2.2.2.2.1
  obtain ⟨b, h1, h2, s, h3, h4, h5, h6, h7⟩ := lp_fogL (step := gL_told_434 (nI (P.1 4)) u) (a := (nI s0, 0)) (fun k a => a.2 = nI k ∧ ∃ s, a.1 = nI s ∧ s < 4096 ∧ (∀ i, s0.testBit i = true → s.testBit i = true) ∧ (∀ C : Nat → Prop, (∀ i, s0.testBit i = true → C i) → (∀ i j, i < P.1 4 → j < P.1 4 → C j → lo P i j = true → C i) → ∀ i, s.testBit i = true → C i) ∧ ∀ i j, i < P.1 4 → j < k → s0.testBit j = true → lo P i j = true → s.testBit i = true) (P.1 4) (by omega) (fun k a hk ha => by
    obtain ⟨v, kk⟩ := a
    obtain ⟨e1, s, e2, hs, q1, q2, q3⟩ := ha
    have e1 : kk = nI k := e1
    have e2 : v = nI s := e2
    subst e1; subst e2
    obtain ⟨m, m1, m2, m3⟩ := hL k hk
    simp only [gL_told_434]
    rw [if_neg (by rw [nle (by omega) (by omega)]; omega), show nI k + 1 = nI (k + 1) from nadd k 1]
    by_cases hb : s.testBit k = true
    · rw [if_pos ((shr_bit s hs k (by omega)).mpr hb), gd_t (inb_n (by omega) (by omega)), ncl (by omega), m2, Option.bind_some, fa_or]
      refine ⟨_, rfl, rfl, s ||| m, rfl, or_lt hs m1, fun i hi => ?_, fun C c1 c2 i hi => ?_, fun i j hi hj h0j hl => ?_⟩
      · rw [Nat.testBit_or, q1 i hi]; rfl
      · rw [Nat.testBit_or, Bool.or_eq_true] at hi
        rcases hi with hi | hi
        · exact q2 C c1 c2 i hi
        · obtain ⟨g1, g2⟩ := (m3 i).mp hi
          exact c2 i k g1 hk (q2 C c1 c2 k hb) g2
      · rw [Nat.testBit_or, Bool.or_eq_true]
        by_cases hjk : j = k
        · exact Or.inr ((m3 i).mpr ⟨hi, hjk ▸ hl⟩)
        · exact Or.inl (q3 i j hi (by omega) h0j hl)
    · rw [if_neg (fun q => hb ((shr_bit s hs k (by omega)).mp q)), Option.bind_some, show nI s ||| 0 = nI s from (fa_or s 0).trans (by rw [Nat.or_zero])]
      refine ⟨_, rfl, rfl, s, rfl, hs, q1, q2, fun i j hi hj h0j hl => ?_⟩
      have hjk : j ≠ k := fun q => hb (q ▸ q1 j h0j)
      exact q3 i j hi (by omega) h0j hl) (fun a ha => by
    obtain ⟨v, kk⟩ := a
    have e1 : kk = nI (P.1 4) := ha.1
    subst e1
    simp only [gL_told_434]
    rw [if_pos (by rw [nle (by omega) (by omega)]; omega)]) ⟨rfl, s0, rfl, h0, fun i hi => hi, fun C c1 _ i hi => c1 i hi, fun i j _ hj => absurd hj (by omega)⟩
  refine ⟨s, ?_, h4, h5, h6, h7⟩
  rw [h1]
  congr 1
  exact Prod.ext h3 h2
def clsd (P : Bx) (s : Nat) : Prop := ∀ i j, i < P.1 4 → j < P.1 4 → s.testBit j = true → lo P i j = true → s.testBit i = true
theorem pc_n {s n : Nat} (hn : n ≤ 12) (h : ∀ i, s.testBit i = true → i < n) : pc s ≤ n := by
  unfold pc
  rw [ct_cut (a := n) (b := 12) hn (fun i hi _ => by
    cases hb : s.testBit i with
    | false => rfl
    | true =>
      have := h i hb
      omega)]
  exact fb_ct_le _ _
theorem clo_eq (hW : WF P) (hL : OL P u) {t m : Nat} (ht : t < P.1 4) (hm : m < 4096) (hb : ∀ k, m.testBit k = true ↔ (k < P.1 4 ∧ lo P k t = true)) :
    lp (gL_told_425 (nI (P.1 4)) u) FU (nI m, 0) = some (nI (ab P t), nI (P.1 4)) := by
  have hn := hW.2.2.2.2.1
  obtain ⟨b, h1, h2, s, h3, h4, h5, h6, h7⟩ := lp_fogL (step := gL_told_425 (nI (P.1 4)) u) (a := (nI m, 0)) (fun r a => a.2 = nI r ∧ ∃ s, a.1 = nI s ∧ s < 4096 ∧ (∀ i, m.testBit i = true → s.testBit i = true) ∧ (∀ i, s.testBit i = true → RE P (fun _ => true) t i) ∧ (clsd P s ∨ r + 1 ≤ pc s)) (P.1 4) (by omega) (fun r a hr ha => by
    obtain ⟨v, kk⟩ := a
    obtain ⟨e1, s, e2, hs, q1, q2, q3⟩ := ha
    have e1 : kk = nI r := e1
    have e2 : v = nI s := e2
    subst e1; subst e2
    obtain ⟨s', k1, k2, k3, k4, k5⟩ := clo_in hW hL hs
    simp only [gL_told_425]
    rw [if_neg (by rw [nle (by omega) (by omega)]; omega), k1, Option.bind_some, show nI r + 1 = nI (r + 1) from nadd r 1]
    refine ⟨_, rfl, rfl, s', rfl, k2, fun i hi => k3 i (q1 i hi), fun i hi => k4 _ q2 (fun i j a b c d => RE.step a b c d rfl) i hi, ?_⟩
    by_cases he : s = s'
    · left
      intro i j hi hj hsj hl
      exact k5 i j hi hj (he ▸ hsj) hl
    · rcases q3 with q3 | q3
      · exact absurd (bits_eq (fun i => by
          cases hsi : s.testBit i with
          | true => exact (k3 i hsi).symm
          | false =>
            cases hsi' : s'.testBit i with
            | false => rfl
            | true =>
              have := k4 (fun i => s.testBit i = true) (fun _ h => h) (fun i j a b c d => q3 i j a b c d) i hsi'
              rw [hsi] at this
              cases this)) he
      · right
        have := pc_lt hs k2 k3 he
        omega) (fun a ha => by
    obtain ⟨v, kk⟩ := a
    have e1 : kk = nI (P.1 4) := ha.1
    subst e1
    simp only [gL_told_425]
    rw [if_pos (by rw [nle (by omega) (by omega)]; omega)]) ⟨rfl, m, rfl, hm, fun i hi => hi, fun i hi => RE.base ((hb i).mp hi).1 ((hb i).mp hi).2 rfl, by
      by_cases h0 : m = 0
      · left
        subst h0
        intro i j _ _ hj
        rw [Nat.zero_testBit] at hj
        cases hj
      · right
        have := pc_down m hm h0
        omega⟩
  have hc : clsd P s := by
    rcases h7 with h | h
    · exact h
    · have := pc_n hn (s := s) (fun i hi => (h6 i hi).lt)
      omega
  have hs : s = ab P t := am_of hn h6 (fun i hi hl _ => h5 i ((hb i).mpr ⟨hi, hl⟩)) (fun i j hi hj hsj hl _ => hc i j hi hj hsj hl)
  rw [h1, ← hs]
  congr 1
  exact Prod.ext h3 h2
theorem late_eq (hW : WF P) (hC : CR u 0 P) {t : Nat} (ht : t < P.1 4) : lp (gL_told_482 (nI (P.1 4)) (nI t) (nI (ab P t)) u) FU (0, 0) = some (nI (fl P t), nI (P.1 4)) := by
  have hn := hW.2.2.2.2.1
  refine lp_for (fun k => (nI (fb_ct (fun i => (ab P t).testBit i && decide (P.2 t 3 < P.2 i 3)) k), nI k)) (P.1 4) (by omega) (fun k hk => ?_) ?_
  · have r1 := (hW.2.2.2.2.2.1 t ht).2.2.2.1
    have r2 := (hW.2.2.2.2.2.1 k hk).2.2.2.1
    simp only [gL_told_482]
    rw [if_neg (by rw [nle (by omega) (by omega)]; omega), show nI k + 1 = nI (k + 1) from nadd k 1, fb_ct_succ]
    by_cases hb : (ab P t).testBit k = true
    · rw [if_pos ((shr_bit _ ab_lt k (by omega)).mpr hb), c_t3 hW hC hk, Option.bind_some, c_t3 hW hC ht, Option.bind_some, hb]
      by_cases hl : P.2 t 3 < P.2 k 3
      · rw [if_neg (by rw [nle (by omega) (by omega)]; omega), Option.bind_some, Option.bind_some, if_pos (by simp [hl]), show nI (fb_ct (fun i => (ab P t).testBit i && decide (P.2 t 3 < P.2 i 3)) k) + 1 = _ from nadd _ 1]
      · rw [if_pos (by rw [nle (by omega) (by omega)]; omega), Option.bind_some, Option.bind_some, if_neg (by simp [hl]), show nI (fb_ct (fun i => (ab P t).testBit i && decide (P.2 t 3 < P.2 i 3)) k) + 0 = _ from nadd _ 0]
    · rw [if_neg (fun q => hb ((shr_bit _ ab_lt k (by omega)).mp q)), Option.bind_some, if_neg (by simp [hb]), show nI (fb_ct (fun i => (ab P t).testBit i && decide (P.2 t 3 < P.2 i 3)) k) + 0 = _ from nadd _ 0]
  · simp only [gL_told_482]
    rw [if_pos (by rw [nle (by omega) (by omega)]; omega)]
    rfl
end C89
