theorem bits_eq {a b : Nat} (h : ∀ i, a.testBit i = b.testBit i) : a = b := Nat.eq_of_testBit_eq h
theorem bit_lt {m i : Nat} (hm : m < 4096) (h : m.testBit i = true) : i < 12 := by
  by_cases hi : i < 12
  · exact hi
  · have : m.testBit i = false := Nat.testBit_lt_two_pow (Nat.lt_of_lt_of_le hm (show 2 ^ 12 ≤ 2 ^ i from Nat.pow_le_pow_right (by omega) (by omega)))
    rw [this] at h
    cases h
theorem ct_lt {p q : Nat → Bool} : ∀ {n : Nat}, (∀ k, k < n → p k = true → q k = true) → (∃ k, k < n ∧ q k = true ∧ p k = false) → fb_ct p n < fb_ct q n := by
  intro n
  induction n with
  | zero =>
    intro _ ⟨k, h, _⟩
    omega
  | succ n ih =>
    intro hs ⟨k, hk, h1, h2⟩
    rw [fb_ct_succ, fb_ct_succ]
    have hsub := fb_ct_sub (p := p) (q := q) (n := n) (fun k hk => hs k (by omega))
    by_cases hkn : k = n
    · subst hkn
      rw [h1, h2]
      simp
      omega
    · have := ih (fun k hk => hs k (by omega)) ⟨k, by omega, h1, h2⟩
      have h3 := hs n (by omega)
      by_cases hp : p n = true
      · rw [h3 hp, hp]
        simp
        omega
      · simp [hp]
        split <;> omega
theorem pc_lt {a b : Nat} (ha : a < 4096) (hb : b < 4096) (hs : ∀ i, a.testBit i = true → b.testBit i = true) (hne : a ≠ b) : pc a < pc b := by
  refine ct_lt (fun k _ => hs k) ?_
  rcases Classical.em (∃ k, k < 12 ∧ b.testBit k = true ∧ a.testBit k = false) with h | h
  · exact h
  · refine absurd (bits_eq (fun i => ?_)) hne
    cases hbi : b.testBit i with
    | true =>
      cases hai : a.testBit i with
      | true => rfl
      | false => exact absurd ⟨i, bit_lt hb hbi, hbi, hai⟩ h
    | false =>
      cases hai : a.testBit i with
      | true => rw [hs i hai] at hbi; cases hbi
      | false => rfl
theorem pc_le (a : Nat) : pc a ≤ 12 := fb_ct_le _ _
theorem pc_full {a b : Nat} (hb : b < 4096) (hs : ∀ i, a.testBit i = true → b.testBit i = true) (ha : a < 4096) (h : 12 ≤ pc a) : a = b := by
  rcases Nat.decEq a b with hne | he
  · have := pc_lt ha hb hs hne
    have := pc_le b
    omega
  · exact he
theorem or_lt {a b : Nat} (ha : a < 4096) (hb : b < 4096) : a ||| b < 4096 := Nat.or_lt_two_pow (n := 12) ha hb
theorem and_lt {a : Nat} (b : Nat) (ha : a < 4096) : a &&& b < 4096 := Nat.lt_of_le_of_lt Nat.and_le_left ha
theorem pow_lt {i : Nat} (hi : i < 12) : 2 ^ i < 4096 := Nat.pow_lt_pow_right (by omega) (show i < 12 from hi)
/-- what lies, over any, on tray t, among A -/
def RE (P : Bx) (A : Nat → Bool) (t i : Nat) : Prop := ∀ C : Nat → Prop, (∀ i, i < P.1 4 → lo P i t = true → A i = true → C i) → (∀ i j, i < P.1 4 → j < P.1 4 → C j → lo P i j = true → A i = true → C i) → C i
theorem RE.base {P : Bx} {A : Nat → Bool} {t i : Nat} (hi : i < P.1 4) (h : lo P i t = true) (hA : A i = true) : RE P A t i := fun C h1 _ => h1 i hi h hA
theorem RE.step {P : Bx} {A : Nat → Bool} {t i j : Nat} (hi : i < P.1 4) (hj : j < P.1 4) (h : RE P A t j) (hl : lo P i j = true) (hA : A i = true) : RE P A t i := fun C h1 h2 => h2 i j hi hj (h C h1 h2) hl hA
theorem RE.lt {P : Bx} {A : Nat → Bool} {t i : Nat} (h : RE P A t i) : i < P.1 4 := h (fun i => i < P.1 4) (fun _ h _ _ => h) (fun _ _ h _ _ _ _ => h)
/-- the set of them, as a number -/
noncomputable def am (P : Bx) (A : Nat → Bool) (t : Nat) : Nat := msk (fun i => @decide (RE P A t i) (Classical.propDecidable _)) 12
theorem am_bit {P : Bx} {A : Nat → Bool} {t i : Nat} (hn : P.1 4 ≤ 12) : (am P A t).testBit i = true ↔ RE P A t i := by
  unfold am
  rw [msk_bit]
  simp only [Bool.and_eq_true, decide_eq_true_eq]
  exact ⟨fun h => h.2, fun h => ⟨by have := h.lt; omega, h⟩⟩
theorem am_lt {P : Bx} {A : Nat → Bool} {t : Nat} : am P A t < 4096 := msk_lt12 _ (Nat.le_refl 12)
/-- a set that is sound and closed is that set -/
theorem am_of {P : Bx} {A : Nat → Bool} {t m : Nat} (hn : P.1 4 ≤ 12) (hs : ∀ i, m.testBit i = true → RE P A t i) (hb : ∀ i, i < P.1 4 → lo P i t = true → A i = true → m.testBit i = true) (hc : ∀ i j, i < P.1 4 → j < P.1 4 → m.testBit j = true → lo P i j = true → A i = true → m.testBit i = true) : m = am P A t := by
  refine bits_eq (fun i => ?_)
  rw [Bool.eq_iff_iff, am_bit hn]
  exact ⟨hs i, fun h => h (fun i => m.testBit i = true) hb hc⟩
theorem lo_self {P : Bx} {i : Nat} (h : WT P i) : lo P i i = false := by
  have : ¬ tp P i ≤ P.2 i 9 := by
    unfold WT at h
    unfold tp tl
    omega
  simp [lo, this]
/-! the class -/
theorem liesOn_eq {u : S} {b : Nat} {P : Bx} {i j : Nat} (hW : WF P) (h : CR u b P) (hi : i < P.1 4) (hj : j < P.1 4) : fX5_liesOn (12 * b + i) (12 * b + j) u = some (if lo P i j = true then 1 else 0) := by
  have ci := h.2 i hi
  have cj := h.2 j hj
  have wi := hW.2.2.2.2.2.1 i hi
  have wj := hW.2.2.2.2.2.1 j hj
  have hb := hW.1; have hb1 := hW.2.1; have hb2 := hW.2.2.1
  have gi := hW.in1 i hi
  have gj := hW.in1 j hj
  simp only [fX5_liesOn, ci.1 5 (by omega), cj.1 5 (by omega)]
  rcases (show P.2 i 5 = 0 ∨ P.2 i 5 = 1 by omega) with hi5 | hi5
  · rw [hi5, if_pos nI_0]
    simp [lo, hi5]
  rcases (show P.2 j 5 = 0 ∨ P.2 j 5 = 1 by omega) with hj5 | hj5
  · rw [hi5, hj5, if_neg (by decide), if_pos nI_0]
    simp [lo, hj5]
  obtain ⟨x7, x8, x9, x10, x11, x12, -⟩ := ci.2 hi5
  obtain ⟨y7, y8, y9, y10, y11, y12, -⟩ := cj.2 hj5
  have ei := wi.2.2.2.2.2.2.2.2 hi5
  have ej := wj.2.2.2.2.2.2.2.2 hj5
  have et : tp P i = P.2 i 9 + tl P i := rfl
  have et2 : tp P j = P.2 j 9 + tl P j := rfl
  rw [hi5, hj5, if_neg (by decide), if_neg (by decide), x7, x8, x9, x10, x11, y7, y8, y9, y10, y12]
  by_cases h1 : P.2 i 9 < tp P j
  · rw [if_pos (by rw [nlt (by omega) (by omega)]; exact h1)]
    have : ¬ tp P j ≤ P.2 i 9 := by omega
    simp [lo, this]
  rw [if_neg (by rw [nlt (by omega) (by omega)]; exact h1)]
  by_cases h2 : P.2 j 7 + ax P j ≤ P.2 i 7
  · rw [if_pos (by rw [nle (by omega) (by omega)]; exact h2)]
    have : ¬ P.2 i 7 < P.2 j 7 + ax P j := by omega
    simp [lo, mt, this]
  rw [if_neg (by rw [nle (by omega) (by omega)]; exact h2)]
  by_cases h3 : P.2 i 7 + ax P i ≤ P.2 j 7
  · rw [if_pos (by rw [nle (by omega) (by omega)]; exact h3)]
    have : ¬ P.2 j 7 < P.2 i 7 + ax P i := by omega
    simp [lo, mt, this]
  rw [if_neg (by rw [nle (by omega) (by omega)]; exact h3)]
  by_cases h4 : P.2 j 8 + ay P j ≤ P.2 i 8
  · rw [if_pos (by rw [nle (by omega) (by omega)]; exact h4)]
    have : ¬ P.2 i 8 < P.2 j 8 + ay P j := by omega
    simp [lo, mt, this]
  rw [if_neg (by rw [nle (by omega) (by omega)]; exact h4)]
  by_cases h5 : P.2 i 8 + ay P i ≤ P.2 j 8
  · rw [if_pos (by rw [nle (by omega) (by omega)]; exact h5)]
    have : ¬ P.2 j 8 < P.2 i 8 + ay P i := by omega
    simp [lo, mt, this]
  rw [if_neg (by rw [nle (by omega) (by omega)]; exact h5), if_pos]
  simp only [lo, mt, hi5, hj5, Bool.and_eq_true, decide_eq_true_eq, beq_self_eq_true, true_and]
  omega
theorem lyingOn_eq {u : S} {b : Nat} {P : Bx} {j : Nat} (hW : WF P) (h : CR u b P) (hj : j < P.1 4) : fX0_lyingOn b (nI j) u = some (nI (msk (fun i => lo P i j) (P.1 4))) := by
  have hn := hW.2.2.2.2.1
  have hl := lp_for (step := gX0_lyingOn_4 b (nI j) u) (fun i => (nI (msk (fun i => lo P i j) i), nI i)) (P.1 4) (b := (nI (msk (fun i => lo P i j) (P.1 4)), nI (P.1 4))) (by omega) (fun i hi => ?_) ?_
  · simp only [fX0_lyingOn]
    rw [show ((0 : Int32), (0 : Int32)) = (nI (msk (fun i => lo P i j) 0), nI 0) from rfl, hl]
    rfl
  · simp only [gX0_lyingOn_4, h.1 4 (show 4 < 5 by omega)]
    rw [if_neg (by rw [nle (by omega) (by omega)]; omega), gd_t (inb_n (by omega) (by omega)), gd_t (inb_n (by omega) (by omega)), ncl (by omega), ncl (by omega), liesOn_eq hW h hi hj, show nI i + 1 = nI (i + 1) from nadd i 1, Option.bind_some]
    by_cases hlo : lo P i j = true
    · rw [if_pos hlo, if_neg (by decide), bset (by omega)]
      simp [msk, hlo]
    · rw [if_neg hlo, if_pos rfl]
      simp [msk, hlo]
  · simp only [gX0_lyingOn_4, h.1 4 (show 4 < 5 by omega)]
    rw [if_pos (by rw [nle (by omega) (by omega)]; omega)]
theorem isFree_eq {u : S} {b : Nat} {P : Bx} {j : Nat} (hW : WF P) (h : CR u b P) (hj : j < P.1 4) : fX0_isFree b (nI j) u = some (if msk (fun i => lo P i j) (P.1 4) = 0 then 1 else 0) := by
  have hn := hW.2.2.2.2.1
  have := msk_lt12 (fun i => lo P i j) hn
  simp only [fX0_isFree, lyingOn_eq hW h hj, Option.bind_some]
  by_cases h0 : msk (fun i => lo P i j) (P.1 4) = 0
  · rw [h0]
    rfl
  · rw [if_neg h0, show (0 : Int32) = nI 0 from rfl, if_neg (by rw [neq (by omega) (by omega)]; exact h0)]
theorem and_not_bit {s k i : Nat} (hk : k < 4096) (hs : s < 4096) : (s &&& (4294967295 - k)).testBit i = (s.testBit i && !k.testBit i) := by
  rw [Nat.testBit_and]
  cases hsi : s.testBit i with
  | false => rfl
  | true =>
    have hi := bit_lt hs hsi
    have : (4294967295 - k).testBit i = !k.testBit i := by
      rw [show 4294967295 - k = 2 ^ 32 - (k + 1) by omega, Nat.testBit_two_pow_sub_succ (by omega)]
      simp
      omega
    rw [this]
theorem above_in {u : S} {b : Nat} {P : Bx} {A d s : Nat} (hW : WF P) (h : CR u b P) (hA : A < 4096) (hd : d < 4096) (hs : s < 4096) : ∃ s', lp (gX0_above_41 b (nI A) (nI d) u) FU (nI s, 0) = some (nI s', nI (P.1 4)) ∧ s' < 4096 ∧ ∀ i, s'.testBit i = true ↔ s.testBit i = true ∨ ∃ j, j < P.1 4 ∧ d.testBit j = true ∧ i < P.1 4 ∧ lo P i j = true ∧ A.testBit i = true := by
  have hn := hW.2.2.2.2.1
  have hgo := lp_go (step := gX0_above_41 b (nI A) (nI d) u) (a := (nI s, nI 0)) (fun r a => ∃ s', a = (nI s', nI r) ∧ s' < 4096 ∧ ∀ i, s'.testBit i = true ↔ s.testBit i = true ∨ ∃ j, j < r ∧ d.testBit j = true ∧ i < P.1 4 ∧ lo P i j = true ∧ A.testBit i = true)
    (fun e => ∃ s', e = (nI s', nI (P.1 4)) ∧ s' < 4096 ∧ ∀ i, s'.testBit i = true ↔ s.testBit i = true ∨ ∃ j, j < P.1 4 ∧ d.testBit j = true ∧ i < P.1 4 ∧ lo P i j = true ∧ A.testBit i = true) (P.1 4) ⟨s, rfl, hs, fun i => ⟨Or.inl, fun h => h.elim (fun h => h) (fun ⟨j, hj, _⟩ => absurd hj (by omega))⟩⟩ (by omega) (fun r a hr hI => ?_) (fun a hI => ?_)
  · obtain ⟨e, h1, s', h2, h3, h4⟩ := hgo
    exact ⟨s', by rw [← h2, ← h1]; rfl, h3, h4⟩
  · obtain ⟨s', rfl, hs', hb⟩ := hI
    left
    simp only [gX0_above_41, h.1 4 (show 4 < 5 by omega)]
    rw [if_neg (by rw [nle (by omega) (by omega)]; omega), show nI r + 1 = nI (r + 1) from nadd r 1]
    by_cases hdr : d.testBit r = true
    · rw [if_neg (by rw [bget (by omega)]; simp [hdr]), lyingOn_eq hW h hr]
      refine ⟨_, rfl, s' ||| (msk (fun i => lo P i r) (P.1 4) &&& A), by rw [fa_and, fa_or], or_lt hs' (and_lt _ (msk_lt12 _ hn)), fun i => ?_⟩
      rw [Nat.testBit_or, Nat.testBit_and, msk_bit]
      simp only [Bool.or_eq_true, Bool.and_eq_true, decide_eq_true_eq, hb i]
      constructor
      · rintro ((h1 | ⟨j, h1, h2⟩) | ⟨⟨h1, h2⟩, h3⟩)
        · exact Or.inl h1
        · exact Or.inr ⟨j, by omega, h2⟩
        · exact Or.inr ⟨r, by omega, hdr, h1, h2, h3⟩
      · rintro (h1 | ⟨j, h1, h2, h3, h4, h5⟩)
        · exact Or.inl (Or.inl h1)
        · by_cases hj : j = r
          · subst hj
            exact Or.inr ⟨⟨h3, h4⟩, h5⟩
          · exact Or.inl (Or.inr ⟨j, by omega, h2, h3, h4, h5⟩)
    · rw [if_pos (by rw [bget (by omega)]; simpa using hdr)]
      refine ⟨_, rfl, s', rfl, hs', fun i => ?_⟩
      rw [hb i]
      constructor
      · rintro (h1 | ⟨j, h1, h2⟩)
        · exact Or.inl h1
        · exact Or.inr ⟨j, by omega, h2⟩
      · rintro (h1 | ⟨j, h1, h2, h3⟩)
        · exact Or.inl h1
        · refine Or.inr ⟨j, ?_, h2, h3⟩
          have : j ≠ r := fun q => hdr (by rw [← q]; exact h2)
          omega
  · obtain ⟨s', rfl, hs', hb⟩ := hI
    refine ⟨_, ?_, s', rfl, hs', hb⟩
    simp only [gX0_above_41, h.1 4 (show 4 < 5 by omega)]
    rw [if_pos (by rw [nle (by omega) (by omega)]; omega)]
theorem above_eq {u : S} {b : Nat} {P : Bx} {A t : Nat} (hW : WF P) (h : CR u b P) (hA : A < 4096) (ht : t < P.1 4) : fX0_above b (nI t) (nI A) u = some (nI (am P (fun i => A.testBit i) t)) := by
  have hn := hW.2.2.2.2.1
  have hgo := lp_go (step := gX0_above_14 b (nI A) u) (a := (nI 0, nI (msk (fun i => lo P i t) (P.1 4) &&& A), nI 0))
    (fun r a => ∃ k s, a = (nI k, nI s, nI r) ∧ k < 4096 ∧ s < 4096 ∧ r ≤ pc k ∧ (∀ i, k.testBit i = true → s.testBit i = true) ∧ (∀ i, s.testBit i = true → RE P (fun i => A.testBit i) t i) ∧ (∀ i, i < P.1 4 → lo P i t = true → A.testBit i = true → s.testBit i = true) ∧ ∀ i j, i < P.1 4 → j < P.1 4 → k.testBit j = true → lo P i j = true → A.testBit i = true → s.testBit i = true)
    (fun e => e.2.1 = nI (am P (fun i => A.testBit i) t)) 12 ?_ (by omega) (fun r a hr hI => ?_) (fun a hI => ?_)
  · obtain ⟨e, h1, h2⟩ := hgo
    simp only [fX0_above, lyingOn_eq hW h ht, Option.bind_some, fa_and]
    rw [show ((0 : Int32), nI (msk (fun i => lo P i t) (P.1 4) &&& A), (0 : Int32)) = (nI 0, nI (msk (fun i => lo P i t) (P.1 4) &&& A), nI 0) from rfl, h1, Option.bind_some, h2]
  · refine ⟨0, _, rfl, by omega, and_lt _ (msk_lt12 _ hn), Nat.zero_le _, fun i hi => by simp at hi, fun i hi => ?_, fun i hi hl hA => ?_, fun i j _ _ hj => by simp at hj⟩
    · rw [Nat.testBit_and, msk_bit] at hi
      simp only [Bool.and_eq_true, decide_eq_true_eq] at hi
      exact RE.base hi.1.1 hi.1.2 hi.2
    · rw [Nat.testBit_and, msk_bit]
      simp [hi, hl, hA]
  · obtain ⟨k, s, rfl, hk, hs, hrk, hks, hso, hba, hcl⟩ := hI
    simp only [gX0_above_14]
    rw [show (12 : Int32) = nI 12 from rfl, if_neg (by rw [nle (by omega) (by omega)]; omega)]
    by_cases hsk : s = k
    · right
      subst hsk
      rw [if_pos rfl]
      exact ⟨_, rfl, congrArg nI (am_of hn hso hba hcl)⟩
    · left
      rw [if_neg (by rw [neq (by omega) (by omega)]; exact hsk), anot k hk, fa_and]
      have hd : s &&& (4294967295 - k) < 4096 := and_lt _ hs
      obtain ⟨s', e1, e2, e3⟩ := above_in (A := A) (d := s &&& (4294967295 - k)) (s := s) hW h hA hd hs
      rw [show (0 : Int32) = nI 0 from rfl] at e1
      rw [show (0 : Int32) = nI 0 from rfl, e1]
      refine ⟨_, rfl, s, s', by rw [show nI r + 1 = nI (r + 1) from nadd r 1], hs, e2, ?_, fun i hi => (e3 i).mpr (Or.inl hi), fun i hi => ?_, fun i a b c => (e3 i).mpr (Or.inl (hba i a b c)), fun i j hi hj hsj hl hAi => ?_⟩
      · have := pc_lt hk hs hks (fun q => hsk q.symm)
        omega
      · rcases (e3 i).mp hi with h1 | ⟨j, h1, h2, h3, h4, h5⟩
        · exact hso i h1
        · rw [and_not_bit hk hs] at h2
          simp only [Bool.and_eq_true] at h2
          exact RE.step h3 h1 (hso j h2.1) h4 h5
      · by_cases hkj : k.testBit j = true
        · exact (e3 i).mpr (Or.inl (hcl i j hi hj hkj hl hAi))
        · refine (e3 i).mpr (Or.inr ⟨j, hj, ?_, hi, hl, hAi⟩)
          rw [and_not_bit hk hs, hsj]
          simpa using hkj
  · obtain ⟨k, s, rfl, hk, hs, hrk, hks, hso, hba, hcl⟩ := hI
    have : k = s := pc_full hs hks hk hrk
    subst this
    refine ⟨(nI k, nI k, nI 12), ?_, congrArg nI (am_of hn hso hba hcl)⟩
    simp only [gX0_above_14]
    rw [if_pos (by decide)]
