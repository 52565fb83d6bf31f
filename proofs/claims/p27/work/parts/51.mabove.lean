/-! the reference's page: trays -/
theorem m_along {w : S} {P : Bx} {i : Nat} {v : Int32} (hn : P.1 4 ≤ 12) (h : MR w 0 P) (hv : v = nI i) (hi : i < P.1 4) (yv tv : Int32) : fX7_along v yv tv w = some (nI (if yv = tv then P.2 i 0 else P.2 i 1)) := by
  simp only [fX7_along]
  by_cases he : yv = tv
  · rw [if_pos he, if_pos he, h.of hn hv (show (0 : Int32) = nI 0 from rfl) hi (by omega)]
    rfl
  · rw [if_neg he, if_neg he, h.of hn hv (show (1 : Int32) = nI 1 from rfl) hi (by omega)]
    rfl
theorem m_spans {w : S} {P : Bx} {i : Nat} {v : Int32} (hW : WF P) (h : MR w 0 P) (hv : v = nI i) (hi : i < P.1 4) : fX7_spans v 0 w = some (nI (ax P i)) ∧ fX7_spans v 1 w = some (nI (ay P i)) := by
  have hn := hW.2.2.2.2.1
  have wi := hW.2.2.2.2.2.1 i hi
  simp only [fX7_spans, h.of hn hv (show (6 : Int32) = nI 6 from rfl) hi (by omega), m_along hn h hv hi, Option.bind_some]
  rcases (show P.2 i 6 = 0 ∨ P.2 i 6 = 1 by unfold WT at wi; omega) with h6 | h6
  · rw [h6]
    simp [ax, ay, axt, ayt, h6, show ¬ nI 0 = 1 from by decide]
  · rw [h6]
    simp [ax, ay, axt, ayt, h6, show nI 1 = 1 from rfl, show ¬ (0 : Int32) = 1 from by decide]
theorem m_high {w : S} {P : Bx} {i : Nat} {v : Int32} (hn : P.1 4 ≤ 12) (h : MR w 0 P) (hv : v = nI i) (hi : i < P.1 4) : fX7_high v w = some (nI (tl P i)) := by
  simp only [fX7_high, h.of hn hv (show (2 : Int32) = nI 2 from rfl) hi (by omega), h.of hn hv (show (4 : Int32) = nI 4 from rfl) hi (by omega), Option.bind_some, nadd]
  rfl
theorem m_top {w : S} {P : Bx} {i : Nat} {v : Int32} (hn : P.1 4 ≤ 12) (h : MR w 0 P) (hv : v = nI i) (hi : i < P.1 4) : fX7_top v w = some (nI (tp P i)) := by
  simp only [fX7_top, h.of hn hv (show (9 : Int32) = nI 9 from rfl) hi (by omega), m_high hn h hv hi, Option.bind_some, nadd]
  rfl
/-- small numbers of a tray that is in -/
theorem WF.small {P : Bx} (h : WF P) {i : Nat} (hi : i < P.1 4) : P.2 i 7 + ax P i ≤ 20 ∧ P.2 i 8 + ay P i ≤ 20 ∧ P.2 i 9 + tl P i ≤ 40 ∧ tp P i ≤ 40 ∧ 1 ≤ ax P i ∧ 1 ≤ ay P i ∧ 1 ≤ tl P i := by
  have wi := h.2.2.2.2.2.1 i hi
  have h0 := h.1
  have h1 := h.2.1
  have h2 := h.2.2.1
  have e : tp P i = P.2 i 9 + tl P i := rfl
  have ea : 1 ≤ ax P i ∧ ax P i ≤ 10 := by
    unfold ax axt
    unfold WT at wi
    split <;> omega
  have eb : 1 ≤ ay P i ∧ ay P i ≤ 10 := by
    unfold ay ayt
    unfold WT at wi
    split <;> omega
  have ec : tl P i ≤ 10 ∧ 1 ≤ tl P i := by
    unfold tl
    unfold WT at wi
    omega
  unfold WT at wi
  rcases (show P.2 i 5 = 0 ∨ P.2 i 5 = 1 by omega) with h5 | h5
  · have := wi.2.2.2.2.2.2.2.1
    omega
  · have := wi.2.2.2.2.2.2.2.2 h5
    omega
theorem m_meet {w : S} {P : Bx} {i j : Nat} (hW : WF P) (h : MR w 0 P) (hi : i < P.1 4) (hj : j < P.1 4) : fX7_meet (nI i) (nI j) w = some (if mt P i j = true then 1 else 0) := by
  have hn := hW.2.2.2.2.1
  have si := hW.small hi
  have sj := hW.small hj
  have e7 : (7 : Int32) = nI 7 := rfl
  have e8 : (8 : Int32) = nI 8 := rfl
  simp only [fX7_meet, h.of hn (v1 := nI i) rfl e7 hi (show 7 < 10 by omega), h.of hn (v1 := nI j) rfl e7 hj (show 7 < 10 by omega), h.of hn (v1 := nI i) rfl e8 hi (show 8 < 10 by omega), h.of hn (v1 := nI j) rfl e8 hj (show 8 < 10 by omega), (m_spans hW h (v := nI i) rfl hi).1, (m_spans hW h (v := nI i) rfl hi).2, (m_spans hW h (v := nI j) rfl hj).1, (m_spans hW h (v := nI j) rfl hj).2, Option.bind_some, nadd]
  by_cases h1 : P.2 j 7 + ax P j ≤ P.2 i 7
  · rw [if_pos (by rw [nle (by omega) (by omega)]; exact h1), if_pos (by decide)]
    have : ¬ P.2 i 7 < P.2 j 7 + ax P j := by omega
    simp [mt, this]
  rw [if_neg (by rw [nle (by omega) (by omega)]; exact h1)]
  by_cases h2 : P.2 i 7 + ax P i ≤ P.2 j 7
  · rw [if_pos (by rw [nle (by omega) (by omega)]; exact h2), if_pos (by decide)]
    have : ¬ P.2 j 7 < P.2 i 7 + ax P i := by omega
    simp [mt, this]
  rw [if_neg (by rw [nle (by omega) (by omega)]; exact h2), if_neg (by decide)]
  by_cases h3 : P.2 j 8 + ay P j ≤ P.2 i 8
  · rw [if_pos (by rw [nle (by omega) (by omega)]; exact h3)]
    have : ¬ P.2 i 8 < P.2 j 8 + ay P j := by omega
    simp [mt, this]
  rw [if_neg (by rw [nle (by omega) (by omega)]; exact h3)]
  by_cases h4 : P.2 i 8 + ay P i ≤ P.2 j 8
  · rw [if_pos (by rw [nle (by omega) (by omega)]; exact h4)]
    have : ¬ P.2 j 8 < P.2 i 8 + ay P i := by omega
    simp [mt, this]
  rw [if_neg (by rw [nle (by omega) (by omega)]; exact h4), if_pos]
  simp only [mt, Bool.and_eq_true, decide_eq_true_eq]
  omega
theorem m_liesOn {w : S} {P : Bx} {i j : Nat} (hW : WF P) (h : MR w 0 P) (hi : i < P.1 4) (hj : j < P.1 4) : fX7_liesOn (nI i) (nI j) w = some (if lo P i j = true then 1 else 0) := by
  have hn := hW.2.2.2.2.1
  have si := hW.small hi
  have sj := hW.small hj
  simp only [fX7_liesOn]
  by_cases hij : i = j
  · subst hij
    rw [if_pos rfl, lo_self (hW.2.2.2.2.2.1 i hi)]
    rfl
  · rw [if_neg (by rw [neq (by omega) (by omega)]; exact hij), h.isIn hW (v := nI i) rfl hi, h.isIn hW (v := nI j) rfl hj, m_meet hW h hi hj, h.of hn (v1 := nI i) rfl (show (9 : Int32) = nI 9 from rfl) hi (by omega), m_top hn h (v := nI j) rfl hj]
    simp only [Option.bind_some]
    have gi := hW.in1 i hi
    have gj := hW.in1 j hj
    rcases (show P.2 i 5 = 0 ∨ P.2 i 5 = 1 by omega) with hi5 | hi5
    · rw [hi5]
      simp [lo, hi5]
    rcases (show P.2 j 5 = 0 ∨ P.2 j 5 = 1 by omega) with hj5 | hj5
    · rw [hi5, hj5]
      simp [lo, hj5]
    rw [hi5, hj5, if_pos rfl, if_neg (by decide), if_neg (by decide)]
    by_cases hm : mt P i j = true
    · rw [if_pos hm, if_neg (by decide)]
      by_cases h9 : P.2 i 9 < tp P j
      · rw [if_pos (by rw [nlt (by omega) (by omega)]; exact h9)]
        have : ¬ tp P j ≤ P.2 i 9 := by omega
        simp [lo, this]
      · rw [if_neg (by rw [nlt (by omega) (by omega)]; exact h9)]
        have : tp P j ≤ P.2 i 9 := by omega
        simp [lo, hi5, hj5, hm, this]
    · rw [if_neg hm, if_pos rfl]
      simp [lo, hm]
/-- one more tray of the round: t -/
theorem m_above_in {w : S} {P : Bx} {t k s : Nat} (hW : WF P) (h : MR w 0 P) (hk : k < P.1 4) (ht : t < P.1 4) (hs : s < 4096) : ∃ s', lp (gX7_above_26 (nI t) (nI k) w) FU (nI s, 0) = some (nI s', nI (P.1 4)) ∧ s' < 4096 ∧ (∀ i, s.testBit i = true → s'.testBit i = true) ∧ (∀ i, s'.testBit i = true → s.testBit i = true ∨ (i = k ∧ ∃ j, j < P.1 4 ∧ (j = t ∨ s.testBit j = true) ∧ lo P k j = true)) ∧ ∀ j, j < P.1 4 → (j = t ∨ s.testBit j = true) → lo P k j = true → s'.testBit k = true := by
  have hn := hW.2.2.2.2.1
  have hkk := lo_self (hW.2.2.2.2.2.1 k hk)
  have hgo := lp_go (step := gX7_above_26 (nI t) (nI k) w) (a := (nI s, nI 0))
    (fun r a => ∃ s', a = (nI s', nI r) ∧ s' < 4096 ∧ (∀ i, s.testBit i = true → s'.testBit i = true) ∧ (∀ i, s'.testBit i = true → s.testBit i = true ∨ (i = k ∧ ∃ j, j < P.1 4 ∧ (j = t ∨ s.testBit j = true) ∧ lo P k j = true)) ∧ ∀ j, j < r → (j = t ∨ s.testBit j = true) → lo P k j = true → s'.testBit k = true)
    (fun e => ∃ s', e = (nI s', nI (P.1 4)) ∧ s' < 4096 ∧ (∀ i, s.testBit i = true → s'.testBit i = true) ∧ (∀ i, s'.testBit i = true → s.testBit i = true ∨ (i = k ∧ ∃ j, j < P.1 4 ∧ (j = t ∨ s.testBit j = true) ∧ lo P k j = true)) ∧ ∀ j, j < P.1 4 → (j = t ∨ s.testBit j = true) → lo P k j = true → s'.testBit k = true)
    (P.1 4) ⟨s, rfl, hs, fun _ h => h, fun _ h => Or.inl h, fun j hj => absurd hj (by omega)⟩ (by omega) (fun r a hr hI => ?_) (fun a hI => ?_)
  · obtain ⟨e, h1, s', h2, h3⟩ := hgo
    exact ⟨s', by rw [← h2, ← h1]; rfl, h3⟩
  · obtain ⟨s', rfl, hs', ha, hb, hc⟩ := hI
    left
    have hor : nI s' ||| 0 = nI s' := by rw [show (0 : Int32) = nI 0 from rfl, fa_or, Nat.or_zero]
    -- what a round without a new member leaves
    have keep : ∀ (hno : ¬ ((r = t ∨ s.testBit r = true) ∧ lo P k r = true)), ∃ s'', (nI s', nI (r + 1)) = (nI s'', nI (r + 1)) ∧ s'' < 4096 ∧ (∀ i, s.testBit i = true → s''.testBit i = true) ∧ (∀ i, s''.testBit i = true → s.testBit i = true ∨ (i = k ∧ ∃ j, j < P.1 4 ∧ (j = t ∨ s.testBit j = true) ∧ lo P k j = true)) ∧ ∀ j, j < r + 1 → (j = t ∨ s.testBit j = true) → lo P k j = true → s''.testBit k = true := by
      intro hno
      refine ⟨s', rfl, hs', ha, hb, fun j hj h1 h2 => ?_⟩
      by_cases hjr : j = r
      · subst hjr
        exact absurd ⟨h1, h2⟩ hno
      · exact hc j (by omega) h1 h2
    have add : ∀ (_ : (r = t ∨ s.testBit r = true)) (_ : lo P k r = true), ∃ s'', (nI s' ||| (1 <<< (nI k &&& 31)), nI (r + 1)) = (nI s'', nI (r + 1)) ∧ s'' < 4096 ∧ (∀ i, s.testBit i = true → s''.testBit i = true) ∧ (∀ i, s''.testBit i = true → s.testBit i = true ∨ (i = k ∧ ∃ j, j < P.1 4 ∧ (j = t ∨ s.testBit j = true) ∧ lo P k j = true)) ∧ ∀ j, j < r + 1 → (j = t ∨ s.testBit j = true) → lo P k j = true → s''.testBit k = true := by
      intro h1 h2
      have hbk : ∀ i, (s' ||| 2 ^ k).testBit i = true ↔ s'.testBit i = true ∨ i = k := fun i => by
        rw [Nat.testBit_or, Nat.testBit_two_pow]
        simp only [Bool.or_eq_true, decide_eq_true_eq]
        exact or_congr Iff.rfl ⟨fun q => q.symm, fun q => q.symm⟩
      refine ⟨s' ||| 2 ^ k, by rw [bset (by omega)], or_lt hs' (pow_lt (by omega)), fun i hi => (hbk i).mpr (Or.inl (ha i hi)), fun i hi => ?_, fun j _ _ _ => (hbk k).mpr (Or.inr rfl)⟩
      rcases (hbk i).mp hi with h3 | h3
      · exact hb i h3
      · exact Or.inr ⟨h3, r, hr, h1, h2⟩
    simp only [gX7_above_26, h.n, Option.bind_some]
    rw [if_neg (by rw [nle (by omega) (by omega)]; omega), show nI r + 1 = nI (r + 1) from nadd r 1, m_liesOn hW h hk hr, hor]
    by_cases hrt : r = t
    · rw [if_pos (by rw [neq (by omega) (by omega)]; exact hrt), if_neg (by decide), Option.bind_some]
      by_cases hl : lo P k r = true
      · rw [if_pos hl, if_neg (by decide)]
        exact ⟨_, rfl, add (Or.inl hrt) hl⟩
      · rw [if_neg hl, if_pos rfl]
        exact ⟨_, rfl, keep (fun q => hl q.2)⟩
    · rw [if_neg (by rw [neq (by omega) (by omega)]; exact hrt)]
      by_cases hbr : s'.testBit r = true
      · rw [if_pos ((shr_bit s' hs' r (by omega)).mpr hbr), if_neg (by decide), Option.bind_some]
        by_cases hl : lo P k r = true
        · rw [if_pos hl, if_neg (by decide)]
          refine ⟨_, rfl, add (Or.inr ?_) hl⟩
          rcases hb r hbr with h1 | ⟨h1, -⟩
          · exact h1
          · rw [h1, hkk] at hl
            cases hl
        · rw [if_neg hl, if_pos rfl]
          exact ⟨_, rfl, keep (fun q => hl q.2)⟩
      · rw [if_neg (fun q => hbr ((shr_bit s' hs' r (by omega)).mp q)), if_pos (by decide)]
        refine ⟨_, rfl, keep (fun q => ?_)⟩
        rcases q.1 with h1 | h1
        · exact hrt h1
        · exact hbr (ha r h1)
  · obtain ⟨s', rfl, h3⟩ := hI
    refine ⟨_, ?_, s', rfl, h3⟩
    simp only [gX7_above_26, h.n, Option.bind_some]
    rw [if_pos (by rw [nle (by omega) (by omega)]; omega)]
/-- a whole round -/
theorem m_above_round {w : S} {P : Bx} {t s : Nat} (hW : WF P) (h : MR w 0 P) (ht : t < P.1 4) (hs : s < 4096) (hso : ∀ i, s.testBit i = true → RE P (fun _ => true) t i) : ∃ s', lp (gX7_above_14 (nI t) w) FU (nI s, 0) = some (nI s', nI (P.1 4)) ∧ s' < 4096 ∧ (∀ i, s.testBit i = true → s'.testBit i = true) ∧ (∀ i, s'.testBit i = true → RE P (fun _ => true) t i) ∧ ∀ i j, i < P.1 4 → j < P.1 4 → (j = t ∨ s.testBit j = true) → lo P i j = true → s'.testBit i = true := by
  have hn := hW.2.2.2.2.1
  have hgo := lp_go (step := gX7_above_14 (nI t) w) (a := (nI s, nI 0))
    (fun r a => ∃ s', a = (nI s', nI r) ∧ s' < 4096 ∧ (∀ i, s.testBit i = true → s'.testBit i = true) ∧ (∀ i, s'.testBit i = true → RE P (fun _ => true) t i) ∧ ∀ i j, i < r → j < P.1 4 → (j = t ∨ s.testBit j = true) → lo P i j = true → s'.testBit i = true)
    (fun e => ∃ s', e = (nI s', nI (P.1 4)) ∧ s' < 4096 ∧ (∀ i, s.testBit i = true → s'.testBit i = true) ∧ (∀ i, s'.testBit i = true → RE P (fun _ => true) t i) ∧ ∀ i j, i < P.1 4 → j < P.1 4 → (j = t ∨ s.testBit j = true) → lo P i j = true → s'.testBit i = true)
    (P.1 4) ⟨s, rfl, hs, fun _ h => h, hso, fun i j hi => absurd hi (by omega)⟩ (by omega) (fun r a hr hI => ?_) (fun a hI => ?_)
  · obtain ⟨e, h1, s', h2, h3⟩ := hgo
    exact ⟨s', by rw [← h2, ← h1]; rfl, h3⟩
  · obtain ⟨s', rfl, hs', ha, hb, hc⟩ := hI
    left
    obtain ⟨z, z1, z2, z3, z4, z5⟩ := m_above_in (t := t) (k := r) hW h hr ht hs'
    simp only [gX7_above_14, h.n, Option.bind_some]
    rw [if_neg (by rw [nle (by omega) (by omega)]; omega), z1]
    refine ⟨_, rfl, z, by rw [show nI r + 1 = nI (r + 1) from nadd r 1], z2, fun i hi => z3 i (ha i hi), fun i hi => ?_, fun i j hi hj h1 h2 => ?_⟩
    · rcases z4 i hi with h1 | ⟨rfl, j, h1, h2, h3⟩
      · exact hb i h1
      · rcases h2 with h2 | h2
        · subst h2
          exact RE.base hr h3 rfl
        · exact RE.step hr h1 (hb j h2) h3 rfl
    · by_cases hir : i = r
      · subst hir
        refine z5 j hj ?_ h2
        rcases h1 with h1 | h1
        · exact Or.inl h1
        · exact Or.inr (ha j h1)
      · exact z3 i (hc i j (by omega) hj h1 h2)
  · obtain ⟨s', rfl, h3⟩ := hI
    refine ⟨_, ?_, s', rfl, h3⟩
    simp only [gX7_above_14, h.n, Option.bind_some]
    rw [if_pos (by rw [nle (by omega) (by omega)]; omega)]
theorem m_above {w : S} {P : Bx} {t : Nat} {v : Int32} (hW : WF P) (h : MR w 0 P) (hv : v = nI t) (ht : t < P.1 4) : fX7_above v w = some (nI (am P (fun _ => true) t)) := by
  subst hv
  have hn := hW.2.2.2.2.1
  have hgo := lp_go (step := gX7_above_4 (nI t) w) (a := (0, -1))
    (fun r a => (r = 0 ∧ a = (0, -1)) ∨ (1 ≤ r ∧ ∃ s k, a = (nI s, nI k) ∧ s < 4096 ∧ k < 4096 ∧ r ≤ pc k + 1 ∧ (∀ i, k.testBit i = true → s.testBit i = true) ∧ (∀ i, s.testBit i = true → RE P (fun _ => true) t i) ∧ ∀ i j, i < P.1 4 → j < P.1 4 → (j = t ∨ k.testBit j = true) → lo P i j = true → s.testBit i = true))
    (fun e => e.1 = nI (am P (fun _ => true) t)) 13 (Or.inl ⟨rfl, rfl⟩) (by omega) (fun r a hr hI => ?_) (fun a hI => ?_)
  · obtain ⟨e, h1, h2⟩ := hgo
    simp only [fX7_above, h1, Option.bind_some, h2]
  · rcases hI with ⟨rfl, rfl⟩ | ⟨hr1, s, k, rfl, hs, hk, hrk, hks, hso, hcl⟩
    · left
      obtain ⟨z, z1, z2, z3, z4, z5⟩ := m_above_round (t := t) (s := 0) hW h ht (by omega) (fun i hi => by simp at hi)
      simp only [gX7_above_4]
      rw [if_neg (by decide), show ((0 : Int32), (0 : Int32)) = (nI 0, 0) from rfl, z1]
      refine ⟨_, rfl, Or.inr ⟨by omega, z, 0, rfl, z2, by omega, by omega, fun i hi => by simp at hi, z4, z5⟩⟩
    · by_cases hsk : s = k
      · right
        subst hsk
        refine ⟨(nI s, nI s), by simp only [gX7_above_4]; rw [if_pos trivial], congrArg nI (am_of hn hso (fun i hi hl _ => hcl i t hi ht (Or.inl rfl) hl) (fun i j hi hj hb hl _ => hcl i j hi hj (Or.inr hb) hl))⟩
      · left
        obtain ⟨z, z1, z2, z3, z4, z5⟩ := m_above_round (t := t) (s := s) hW h ht hs hso
        simp only [gX7_above_4]
        rw [if_neg (by rw [neq (by omega) (by omega)]; exact fun q => hsk q.symm), z1]
        have := pc_lt hk hs hks (fun q => hsk q.symm)
        exact ⟨_, rfl, Or.inr ⟨by omega, z, s, rfl, z2, hs, by omega, z3, z4, z5⟩⟩
  · rcases hI with ⟨h0, -⟩ | ⟨hr1, s, k, rfl, hs, hk, hrk, hks, hso, hcl⟩
    · omega
    · have : k = s := pc_full hs hks hk (by omega)
      subst this
      refine ⟨(nI k, nI k), by simp only [gX7_above_4]; rw [if_pos trivial], congrArg nI (am_of hn hso (fun i hi hl _ => hcl i t hi ht (Or.inl rfl) hl) (fun i j hi hj hb hl _ => hcl i j hi hj (Or.inr hb) hl))⟩
/-- a set's members, counted by the reference -/
theorem m_lift {w : S} {P : Bx} {t : Nat} {v : Int32} (hW : WF P) (h : MR w 0 P) (hv : v = nI t) (ht : t < P.1 4) : fX7_lift v w = some (nI (pc (am P (fun _ => true) t))) := by
  obtain ⟨m, hm⟩ : ∃ m, m = am P (fun _ => true) t := ⟨_, rfl⟩
  have hm4 : m < 4096 := by rw [hm]; exact am_lt
  have hgo := lp_go (step := gX7_lift_8 w) (a := (nI 0, nI m)) (fun r a => ∃ s, a = (nI r, nI s) ∧ s < 4096 ∧ r + pc s = pc m) (fun e => e.1 = nI (pc m)) (pc m) ⟨m, rfl, hm4, by omega⟩ (by have := pc_le m; omega) (fun r a hr hI => ?_) (fun a hI => ?_)
  · obtain ⟨e, h1, h2⟩ := hgo
    simp only [fX7_lift, m_above hW h hv ht, ← hm, Option.bind_some]
    rw [show ((0 : Int32), nI m) = (nI 0, nI m) from rfl, h1, Option.bind_some, h2]
  · obtain ⟨s, rfl, hs, hp⟩ := hI
    left
    have hs0 : s ≠ 0 := fun q => by
      subst q
      have : pc 0 = 0 := by decide
      omega
    simp only [gX7_lift_8]
    rw [show (0 : Int32) = nI 0 from rfl, if_neg (by rw [neq (by omega) (by omega)]; exact hs0), show nI s - 1 = nI (s - 1) from nsub (a := s) (b := 1) (by omega), fa_and, show nI r + 1 = nI (r + 1) from nadd r 1]
    have := pc_down s hs hs0
    exact ⟨_, rfl, _, rfl, and_lt _ hs, by omega⟩
  · obtain ⟨s, rfl, hs, hp⟩ := hI
    have hs0 : s = 0 := by
      rcases Nat.decEq s 0 with h0 | h0
      · have := pc_down s hs h0
        omega
      · exact h0
    subst hs0
    exact ⟨_, by simp only [gX7_lift_8]; rw [if_pos nI_0], rfl⟩
