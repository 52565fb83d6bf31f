theorem am_same {P : Bx} {A B : Nat → Bool} {t : Nat} (hn : P.1 4 ≤ 12) (h : ∀ i, i < P.1 4 → P.2 i 5 = 1 → A i = true) (g : ∀ i, i < P.1 4 → P.2 i 5 = 1 → B i = true) : am P A t = am P B t := by
  have lin : ∀ i j, lo P i j = true → P.2 i 5 = 1 := fun i j h => by
    simp only [lo, Bool.and_eq_true, beq_iff_eq] at h
    exact h.1.1.1
  refine bits_eq (fun i => ?_)
  rw [Bool.eq_iff_iff, am_bit hn, am_bit hn]
  exact ⟨fun hr C h1 h2 => hr C (fun i a b _ => h1 i a b (g i a (lin i t b))) (fun i j a a' c b _ => h2 i j a a' c b (g i a (lin i j b))), fun hr C h1 h2 => hr C (fun i a b _ => h1 i a b (h i a (lin i t b))) (fun i j a a' c b _ => h2 i j a a' c b (h i a (lin i j b)))⟩
theorem am_out {P : Bx} {A : Nat → Bool} {t : Nat} (hn : P.1 4 ≤ 12) (h : P.2 t 5 ≠ 1) : am P A t = 0 := by
  refine bits_eq (fun i => ?_)
  rw [Nat.zero_testBit]
  cases hb : (am P A t).testBit i with
  | false => rfl
  | true =>
    have hr := (am_bit hn).mp hb
    exact absurd (hr (fun _ => False) (fun i _ hl _ => by
      simp only [lo, Bool.and_eq_true, beq_iff_eq] at hl
      exact h hl.1.1.2) (fun _ _ _ _ c _ _ => c)) (fun q => q)
theorem am_zero {P : Bx} {t : Nat} (hn : P.1 4 ≤ 12) : am P (fun _ => true) t = 0 ↔ msk (fun i => lo P i t) (P.1 4) = 0 := by
  constructor
  · intro h
    refine bits_eq (fun i => ?_)
    rw [Nat.zero_testBit, msk_bit]
    cases hb : (decide (i < P.1 4) && lo P i t) with
    | false => rfl
    | true =>
      simp only [Bool.and_eq_true, decide_eq_true_eq] at hb
      have := (am_bit (A := fun _ => true) hn).mpr (RE.base hb.1 hb.2 rfl)
      rw [h, Nat.zero_testBit] at this
      cases this
  · intro h
    refine bits_eq (fun i => ?_)
    rw [Nat.zero_testBit]
    cases hb : (am P (fun _ => true) t).testBit i with
    | false => rfl
    | true =>
      have hr := (am_bit hn).mp hb
      refine absurd (hr (fun _ => False) (fun i hi hl _ => ?_) (fun _ _ _ _ c _ _ => c)) (fun q => q)
      have h2 := msk_bit (fun i => lo P i t) i (P.1 4)
      rw [h, Nat.zero_testBit] at h2
      simp [hi, hl] at h2
/-- the set of all trays above t -/
noncomputable def ab (P : Bx) (t : Nat) : Nat := am P (fun _ => true) t
theorem ab_lt {P : Bx} {t : Nat} : ab P t < 4096 := am_lt
/-- the fault of tray t -/
noncomputable def fl (P : Bx) (t : Nat) : Nat := fb_ct (fun i => (ab P t).testBit i && decide (P.2 t 3 < P.2 i 3)) (P.1 4)
noncomputable def FS (P : Bx) (n : Nat) : Nat := fb_sm (fun i => fl P i) n
noncomputable def LfS (P : Bx) (n : Nat) : Nat := fb_sm (fun i => pc (ab P i)) n
def frB (P : Bx) (i : Nat) : Bool := P.2 i 5 == 1 && decide (msk (fun k => lo P k i) (P.1 4) = 0)
def FR (P : Bx) (n : Nat) : Nat := fb_ct (frB P) n
def mxf (f : Nat → Nat) : Nat → Nat
  | 0 => 0
  | n + 1 => max (mxf f n) (f n)
def htf (P : Bx) (i : Nat) : Nat := if P.2 i 5 = 1 then tp P i else 0
def HT (P : Bx) : Nat := mxf (htf P) (P.1 4)
def arr (P : Bx) : Nat → Int32
  | 0 => nI (P.1 0) * nI (P.1 1) * nI (HT P)
  | n + 1 => if P.2 n 5 = 1 then arr P n - nI (P.2 n 0) * nI (P.2 n 1) * nI (tl P n) else arr P n
def AR (P : Bx) : Int32 := arr P (P.1 4)
theorem mxf_le {f : Nat → Nat} {c : Nat} : ∀ {n : Nat}, (∀ i, i < n → f i ≤ c) → mxf f n ≤ c := by
  intro n
  induction n with
  | zero => intro _; exact Nat.zero_le c
  | succ n ih =>
    intro h
    exact Nat.max_le.mpr ⟨ih (fun i hi => h i (by omega)), h n (by omega)⟩
theorem le_mxf {f : Nat → Nat} : ∀ {n i : Nat}, i < n → f i ≤ mxf f n := by
  intro n
  induction n with
  | zero => intro i h; omega
  | succ n ih =>
    intro i h
    by_cases hi : i = n
    · subst hi; exact Nat.le_max_right _ _
    · exact Nat.le_trans (ih (by omega)) (Nat.le_max_left _ _)
theorem mxf_cong {f g : Nat → Nat} : ∀ {n : Nat}, (∀ i, i < n → f i = g i) → mxf f n = mxf g n := by
  intro n
  induction n with
  | zero => intro _; rfl
  | succ n ih =>
    intro h
    rw [mxf, mxf, ih (fun i hi => h i (by omega)), h n (by omega)]
theorem htf_le {P : Bx} (hW : WF P) (n : Nat) (hn : n ≤ P.1 4) : mxf (htf P) n ≤ 40 := mxf_le (fun i hi => by
  have := hW.small (i := i) (by omega)
  unfold htf
  split <;> omega)
theorem fl_le {P : Bx} {t : Nat} : fl P t ≤ P.1 4 := fb_ct_le _ _
theorem fl_out {P : Bx} {t : Nat} (hn : P.1 4 ≤ 12) (h : P.2 t 5 ≠ 1) : fl P t = 0 := by
  unfold fl ab
  rw [am_out hn h]
  exact fb_ct_zero.mpr (fun k _ => by simp)
theorem pc_0 : pc 0 = 0 := by decide
/-! the class -/
theorem above_ab {u : S} {b : Nat} {P : Bx} {t m : Nat} (hW : WF P) (h : CR u b P) (hm : m < 4096) (hmb : ∀ i, m.testBit i = (decide (i < P.1 4) && (P.2 i 5 == 1))) (ht : t < P.1 4) : fX0_above b (nI t) (nI m) u = some (nI (ab P t)) := by
  rw [above_eq hW h hm ht]
  exact congrArg (fun x => some (nI x)) (am_same hW.2.2.2.2.1 (fun i hi h5 => by rw [hmb]; simp [hi, h5]) (fun _ _ _ => rfl))
theorem lateOnes_eq {u : S} {b : Nat} {P : Bx} {m q : Nat} (hW : WF P) (h : CR u b P) (hq : q ≤ 9) : fX0_lateOnes b (nI m) (nI q) u = some (nI (fb_ct (fun i => m.testBit i && decide (q < P.2 i 3)) (P.1 4))) := by
  have hn := hW.2.2.2.2.1
  have hl := lp_for (step := gX0_lateOnes_5 b (nI m) (nI q) u) (fun i => (nI (fb_ct (fun i => m.testBit i && decide (q < P.2 i 3)) i), nI i)) (P.1 4) (b := (nI (fb_ct (fun i => m.testBit i && decide (q < P.2 i 3)) (P.1 4)), nI (P.1 4))) (by omega) (fun i hi => ?_) ?_
  · simp only [fX0_lateOnes]
    rw [show ((0 : Int32), (0 : Int32)) = (nI (fb_ct (fun i => m.testBit i && decide (q < P.2 i 3)) 0), nI 0) from rfl, hl]
    rfl
  · have wi := hW.2.2.2.2.2.1 i hi
    have h3 : P.2 i 3 ≤ 9 := wi.2.2.2.1
    simp only [gX0_lateOnes_5, h.1 4 (show 4 < 5 by omega)]
    rw [if_neg (by rw [nle (by omega) (by omega)]; omega), show nI i + 1 = nI (i + 1) from nadd i 1, fb_ct_succ]
    by_cases hb : m.testBit i = true
    · rw [if_neg (by rw [bget (by omega)]; simp [hb]), gd_t (inb_n (by omega) (by omega)), ncl (by omega), (h.2 i hi).1 3 (by omega)]
      by_cases hlt : q < P.2 i 3
      · rw [if_neg (by rw [nle (by omega) (by omega)]; omega)]
        simp [hb, hlt, show ∀ x, nI x + 1 = nI (x + 1) from fun x => nadd x 1]
      · rw [if_pos (by rw [nle (by omega) (by omega)]; omega)]
        simp [hlt]
    · rw [if_pos (by rw [bget (by omega)]; simpa using hb)]
      simp [hb]
  · simp only [gX0_lateOnes_5, h.1 4 (show 4 < 5 by omega)]
    rw [if_pos (by rw [nle (by omega) (by omega)]; omega)]
theorem late_fl {u : S} {b : Nat} {P : Bx} {t : Nat} (hW : WF P) (h : CR u b P) (ht : t < P.1 4) : fX0_lateOnes b (nI (ab P t)) (u.1 (12 * b + t) 3) u = some (nI (fl P t)) := by
  rw [(h.2 t ht).1 3 (by omega), lateOnes_eq hW h (hW.2.2.2.2.2.1 t ht).2.2.2.1]
  rfl
theorem faultOf_eq {u : S} {b : Nat} {P : Bx} {t : Nat} (hW : WF P) (h : CR u b P) (ht : t < P.1 4) : fX0_faultOf b (nI t) u = some (nI (fl P t)) := by
  have hn := hW.2.2.2.2.1
  obtain ⟨m, i1, i2, i3, i4⟩ := inside_bc hW h
  simp only [fX0_faultOf, i1, Option.bind_some, above_ab hW h i2 i3 ht]
  rw [gd_t (inb_n (by omega) (by omega)), ncl (by omega), late_fl hW h ht]
  rfl
theorem faults_eq {u : S} {b : Nat} {P : Bx} (hW : WF P) (h : CR u b P) : fX0_faults b u = some (nI (FS P (P.1 4))) := by
  have hn := hW.2.2.2.2.1
  obtain ⟨m, i1, i2, i3, i4⟩ := inside_bc hW h
  have hl := lp_for (step := gX0_faults_9 b (nI m) u) (fun i => (nI (FS P i), nI i)) (P.1 4) (b := (nI (FS P (P.1 4)), nI (P.1 4))) (by omega) (fun i hi => ?_) ?_
  · simp only [fX0_faults, i1, Option.bind_some]
    rw [show ((0 : Int32), (0 : Int32)) = (nI (FS P 0), nI 0) from rfl, hl]
    rfl
  · simp only [gX0_faults_9, h.1 4 (show 4 < 5 by omega), above_ab hW h i2 i3 hi, Option.bind_some]
    rw [if_neg (by rw [nle (by omega) (by omega)]; omega), gd_t (inb_n (by omega) (by omega)), ncl (by omega), late_fl hW h hi, show nI i + 1 = nI (i + 1) from nadd i 1]
    show some (Sum.inr (nI (FS P i) + nI (fl P i), nI (i + 1))) = _
    rw [nadd]
    rfl
  · simp only [gX0_faults_9, h.1 4 (show 4 < 5 by omega)]
    rw [if_pos (by rw [nle (by omega) (by omega)]; omega)]
theorem lifts_eq {u : S} {b : Nat} {P : Bx} (hW : WF P) (h : CR u b P) : fX0_lifts b u = some (nI (LfS P (P.1 4))) := by
  have hn := hW.2.2.2.2.1
  obtain ⟨m, i1, i2, i3, i4⟩ := inside_bc hW h
  have hl := lp_for (step := gX0_lifts_9 b (nI m) u) (fun i => (nI (LfS P i), nI i)) (P.1 4) (b := (nI (LfS P (P.1 4)), nI (P.1 4))) (by omega) (fun i hi => ?_) ?_
  · simp only [fX0_lifts, i1, Option.bind_some]
    rw [show ((0 : Int32), (0 : Int32)) = (nI (LfS P 0), nI 0) from rfl, hl]
    rfl
  · simp only [gX0_lifts_9, h.1 4 (show 4 < 5 by omega), above_ab hW h i2 i3 hi, Option.bind_some, bc_pc _ ab_lt]
    rw [if_neg (by rw [nle (by omega) (by omega)]; omega), show nI i + 1 = nI (i + 1) from nadd i 1, nadd]
    rfl
  · simp only [gX0_lifts_9, h.1 4 (show 4 < 5 by omega)]
    rw [if_pos (by rw [nle (by omega) (by omega)]; omega)]
theorem freeTrays_eq {u : S} {b : Nat} {P : Bx} (hW : WF P) (h : CR u b P) : fX0_freeTrays b u = some (nI (FR P (P.1 4))) := by
  have hn := hW.2.2.2.2.1
  have hl := lp_for (step := gX0_freeTrays_4 b u) (fun i => (nI (FR P i), nI i)) (P.1 4) (b := (nI (FR P (P.1 4)), nI (P.1 4))) (by omega) (fun i hi => ?_) ?_
  · simp only [fX0_freeTrays]
    rw [show ((0 : Int32), (0 : Int32)) = (nI (FR P 0), nI 0) from rfl, hl]
    rfl
  · have g := hW.in1 i hi
    simp only [gX0_freeTrays_4, h.1 4 (show 4 < 5 by omega)]
    rw [if_neg (by rw [nle (by omega) (by omega)]; omega), gd_t (inb_n (by omega) (by omega)), ncl (by omega), (h.2 i hi).1 5 (by omega), isFree_eq hW h hi, show nI i + 1 = nI (i + 1) from nadd i 1]
    have e : FR P (i + 1) = FR P i + if frB P i then 1 else 0 := rfl
    rw [e]
    rcases (show P.2 i 5 = 0 ∨ P.2 i 5 = 1 by omega) with h5 | h5
    · rw [h5, if_pos nI_0]
      simp [frB, h5]
    · rw [h5, if_neg (by decide), Option.bind_some]
      by_cases hz : msk (fun k => lo P k i) (P.1 4) = 0
      · rw [if_pos hz, if_neg (by decide), show nI (FR P i) + 1 = nI (FR P i + 1) from nadd _ 1]
        simp [frB, h5, hz]
      · rw [if_neg hz, if_pos rfl]
        simp [frB, h5, hz]
  · simp only [gX0_freeTrays_4, h.1 4 (show 4 < 5 by omega)]
    rw [if_pos (by rw [nle (by omega) (by omega)]; omega)]
theorem height_eq {u : S} {b : Nat} {P : Bx} (hW : WF P) (h : CR u b P) : fX0_filledHeight b u = some (nI (HT P)) := by
  have hn := hW.2.2.2.2.1
  have hl := lp_for (step := gX0_filledHeight_4 b u) (fun i => (nI (mxf (htf P) i), nI i)) (P.1 4) (b := (nI (HT P), nI (P.1 4))) (by omega) (fun i hi => ?_) ?_
  · simp only [fX0_filledHeight]
    rw [show ((0 : Int32), (0 : Int32)) = (nI (mxf (htf P) 0), nI 0) from rfl, hl]
    rfl
  · have g := hW.in1 i hi
    have hle := htf_le hW i (by omega)
    have hs := hW.small hi
    simp only [gX0_filledHeight_4, h.1 4 (show 4 < 5 by omega)]
    rw [if_neg (by rw [nle (by omega) (by omega)]; omega), gd_t (inb_n (by omega) (by omega)), gd_t (inb_n (by omega) (by omega)), ncl (by omega), (h.2 i hi).1 5 (by omega), show nI i + 1 = nI (i + 1) from nadd i 1]
    rw [mxf]
    rcases (show P.2 i 5 = 0 ∨ P.2 i 5 = 1 by omega) with h5 | h5
    · rw [h5, if_pos nI_0]
      simp [htf, h5]
    · rw [h5, if_neg (by decide), ((h.2 i hi).2 h5).2.2.2.2.2.1]
      have e : htf P i = tp P i := by simp [htf, h5]
      rw [e]
      by_cases hlt : mxf (htf P) i < tp P i
      · rw [if_pos (by rw [nlt (by omega) (by omega)]; exact hlt), Nat.max_eq_right (by omega)]
      · rw [if_neg (by rw [nlt (by omega) (by omega)]; exact hlt), Nat.max_eq_left (by omega)]
  · simp only [gX0_filledHeight_4, h.1 4 (show 4 < 5 by omega)]
    rw [if_pos (by rw [nle (by omega) (by omega)]; omega)]
    rfl
theorem air_eq {u : S} {b : Nat} {P : Bx} (hW : WF P) (h : CR u b P) : fX0_air b u = some (AR P) := by
  have hn := hW.2.2.2.2.1
  have hl := lp_for (step := gX0_air_17 b u) (fun i => (arr P i, nI i)) (P.1 4) (b := (AR P, nI (P.1 4))) (by omega) (fun i hi => ?_) ?_
  · simp only [fX0_air, height_eq hW h, Option.bind_some, h.1 0 (show 0 < 5 by omega), h.1 1 (show 1 < 5 by omega)]
    rw [show ((nI (P.1 0) * nI (P.1 1)) * nI (HT P), (0 : Int32)) = (arr P 0, nI 0) from rfl, hl]
    rfl
  · have g := hW.in1 i hi
    simp only [gX0_air_17, h.1 4 (show 4 < 5 by omega)]
    rw [if_neg (by rw [nle (by omega) (by omega)]; omega), gd_t (inb_n (by omega) (by omega)), gd_t (inb_n (by omega) (by omega)), ncl (by omega), (h.2 i hi).1 5 (by omega), show nI i + 1 = nI (i + 1) from nadd i 1]
    rcases (show P.2 i 5 = 0 ∨ P.2 i 5 = 1 by omega) with h5 | h5
    · rw [h5, if_pos nI_0]
      simp [arr, h5]
    · rw [h5, if_neg (by decide)]
      simp only [fX5_area, fX5_tall, Option.bind_some, gd_t (inb_n (show i < 12 by omega) (show 12 < 2147483648 by omega)), (h.2 i hi).1 0 (show 0 < 7 by omega), (h.2 i hi).1 1 (show 1 < 7 by omega), (h.2 i hi).1 2 (show 2 < 7 by omega), (h.2 i hi).1 4 (show 4 < 7 by omega)]
      simp [arr, h5, tl, ← nadd]
  · simp only [gX0_air_17, h.1 4 (show 4 < 5 by omega)]
    rw [if_pos (by rw [nle (by omega) (by omega)]; omega)]
    rfl
/-! the reference -/
theorem m_fault {w : S} {P : Bx} {t : Nat} {v : Int32} (hW : WF P) (h : MR w 0 P) (hv : v = nI t) (ht : t < P.1 4) : fX7_fault v w = some (nI (fl P t)) := by
  have hn := hW.2.2.2.2.1
  have hl := lp_for (step := gX7_fault_11 v (nI (ab P t)) w) (fun i => (nI (fb_ct (fun i => (ab P t).testBit i && decide (P.2 t 3 < P.2 i 3)) i), nI i)) (P.1 4) (b := (nI (fl P t), nI (P.1 4))) (by omega) (fun i hi => ?_) ?_
  · simp only [fX7_fault, m_above hW h hv ht, Option.bind_some]
    rw [show am P (fun _ => true) t = ab P t from rfl, show ((0 : Int32), (0 : Int32)) = (nI (fb_ct (fun i => (ab P t).testBit i && decide (P.2 t 3 < P.2 i 3)) 0), nI 0) from rfl, hl]
    rfl
  · have h3 : P.2 i 3 ≤ 9 := (hW.2.2.2.2.2.1 i hi).2.2.2.1
    have h3t : P.2 t 3 ≤ 9 := (hW.2.2.2.2.2.1 t ht).2.2.2.1
    simp only [gX7_fault_11, h.n, Option.bind_some]
    rw [if_neg (by rw [nle (by omega) (by omega)]; omega), show nI i + 1 = nI (i + 1) from nadd i 1, fb_ct_succ, h.of hn (v1 := nI i) rfl (show (3 : Int32) = nI 3 from rfl) hi (by omega), h.of hn hv (show (3 : Int32) = nI 3 from rfl) ht (by omega)]
    by_cases hb : (ab P t).testBit i = true
    · rw [if_pos ((shr_bit _ ab_lt i (by omega)).mpr hb), Option.bind_some, Option.bind_some]
      by_cases hlt : P.2 t 3 < P.2 i 3
      · rw [if_neg (by rw [nle (by omega) (by omega)]; omega)]
        simp [hb, hlt, show ∀ x, nI x + 1 = nI (x + 1) from fun x => nadd x 1]
      · rw [if_pos (by rw [nle (by omega) (by omega)]; omega)]
        simp [hlt]
    · rw [if_neg (fun q => hb ((shr_bit _ ab_lt i (by omega)).mp q))]
      simp [hb]
  · simp only [gX7_fault_11, h.n, Option.bind_some]
    rw [if_pos (by rw [nle (by omega) (by omega)]; omega)]
    rfl
theorem m_faults {w : S} {P : Bx} (hW : WF P) (h : MR w 0 P) : fX7_faults w = some (nI (FS P (P.1 4))) := by
  have hn := hW.2.2.2.2.1
  have hl := lp_for (step := gX7_faults_4 w) (fun i => (nI (FS P i), nI i)) (P.1 4) (b := (nI (FS P (P.1 4)), nI (P.1 4))) (by omega) (fun i hi => ?_) ?_
  · simp only [fX7_faults]
    rw [show ((0 : Int32), (0 : Int32)) = (nI (FS P 0), nI 0) from rfl, hl]
    rfl
  · have g := hW.in1 i hi
    simp only [gX7_faults_4, h.n, Option.bind_some]
    rw [if_neg (by rw [nle (by omega) (by omega)]; omega), show nI i + 1 = nI (i + 1) from nadd i 1, h.isIn hW (v := nI i) rfl hi, m_fault hW h (v := nI i) rfl hi, Option.bind_some, Option.bind_some]
    rcases (show P.2 i 5 = 0 ∨ P.2 i 5 = 1 by omega) with h5 | h5
    · rw [show (if P.2 i 5 = 1 then (1 : Int32) else 0) = 0 from if_neg (by omega), if_pos rfl, show FS P (i + 1) = FS P i + fl P i from rfl, fl_out hn (by omega)]
      simp
    · rw [if_pos h5, if_neg (by decide), nadd]
      rfl
  · simp only [gX7_faults_4, h.n, Option.bind_some]
    rw [if_pos (by rw [nle (by omega) (by omega)]; omega)]
theorem m_lifts {w : S} {P : Bx} (hW : WF P) (h : MR w 0 P) : fX7_lifts w = some (nI (LfS P (P.1 4))) := by
  have hn := hW.2.2.2.2.1
  have hl := lp_for (step := gX7_lifts_4 w) (fun i => (nI (LfS P i), nI i)) (P.1 4) (b := (nI (LfS P (P.1 4)), nI (P.1 4))) (by omega) (fun i hi => ?_) ?_
  · simp only [fX7_lifts]
    rw [show ((0 : Int32), (0 : Int32)) = (nI (LfS P 0), nI 0) from rfl, hl]
    rfl
  · have g := hW.in1 i hi
    simp only [gX7_lifts_4, h.n, Option.bind_some]
    rw [if_neg (by rw [nle (by omega) (by omega)]; omega), show nI i + 1 = nI (i + 1) from nadd i 1, h.isIn hW (v := nI i) rfl hi, m_lift hW h (v := nI i) rfl hi, Option.bind_some, Option.bind_some]
    rcases (show P.2 i 5 = 0 ∨ P.2 i 5 = 1 by omega) with h5 | h5
    · rw [show (if P.2 i 5 = 1 then (1 : Int32) else 0) = 0 from if_neg (by omega), if_pos rfl, show LfS P (i + 1) = LfS P i + pc (ab P i) from rfl]
      unfold ab
      rw [am_out hn (by omega), pc_0]
      simp
    · rw [if_pos h5, if_neg (by decide), nadd]
      rfl
  · simp only [gX7_lifts_4, h.n, Option.bind_some]
    rw [if_pos (by rw [nle (by omega) (by omega)]; omega)]
theorem m_frees {w : S} {P : Bx} (hW : WF P) (h : MR w 0 P) : fX7_frees w = some (nI (FR P (P.1 4))) := by
  have hn := hW.2.2.2.2.1
  have hl := lp_for (step := gX7_frees_4 w) (fun i => (nI (FR P i), nI i)) (P.1 4) (b := (nI (FR P (P.1 4)), nI (P.1 4))) (by omega) (fun i hi => ?_) ?_
  · simp only [fX7_frees]
    rw [show ((0 : Int32), (0 : Int32)) = (nI (FR P 0), nI 0) from rfl, hl]
    rfl
  · have g := hW.in1 i hi
    have hlt : am P (fun _ => true) i < 4096 := am_lt
    have hz := am_zero (t := i) hn
    simp only [gX7_frees_4, h.n, Option.bind_some]
    rw [if_neg (by rw [nle (by omega) (by omega)]; omega), show nI i + 1 = nI (i + 1) from nadd i 1, h.isIn hW (v := nI i) rfl hi, m_above hW h (v := nI i) rfl hi, Option.bind_some, Option.bind_some, show FR P (i + 1) = FR P i + if frB P i then 1 else 0 from rfl]
    rcases (show P.2 i 5 = 0 ∨ P.2 i 5 = 1 by omega) with h5 | h5
    · rw [show (if P.2 i 5 = 1 then (1 : Int32) else 0) = 0 from if_neg (by omega), if_pos rfl]
      simp [frB, h5]
    · rw [if_pos h5, if_neg (by decide)]
      by_cases h0 : am P (fun _ => true) i = 0
      · rw [if_pos (by rw [h0]; rfl), show nI (FR P i) + 1 = nI (FR P i + 1) from nadd _ 1]
        simp [frB, h5, hz.mp h0]
      · rw [show (0 : Int32) = nI 0 from rfl, if_neg (by rw [neq (by omega) (by omega)]; exact h0)]
        have : ¬ msk (fun k => lo P k i) (P.1 4) = 0 := fun q => h0 (hz.mpr q)
        simp [frB, h5, this, nadd]
  · simp only [gX7_frees_4, h.n, Option.bind_some]
    rw [if_pos (by rw [nle (by omega) (by omega)]; omega)]
theorem m_height {w : S} {P : Bx} (hW : WF P) (h : MR w 0 P) : fX7_boxHeight w = some (nI (HT P)) := by
  have hn := hW.2.2.2.2.1
  have hl := lp_for (step := gX7_boxHeight_4 w) (fun i => (nI (mxf (htf P) i), nI i)) (P.1 4) (b := (nI (HT P), nI (P.1 4))) (by omega) (fun i hi => ?_) ?_
  · simp only [fX7_boxHeight]
    rw [show ((0 : Int32), (0 : Int32)) = (nI (mxf (htf P) 0), nI 0) from rfl, hl]
    rfl
  · have g := hW.in1 i hi
    have hle := htf_le hW i (by omega)
    have hs := hW.small hi
    simp only [gX7_boxHeight_4, h.n, Option.bind_some]
    rw [if_neg (by rw [nle (by omega) (by omega)]; omega), show nI i + 1 = nI (i + 1) from nadd i 1, h.isIn hW (v := nI i) rfl hi, m_top hn h (v := nI i) rfl hi, Option.bind_some, Option.bind_some]
    rw [mxf]
    rcases (show P.2 i 5 = 0 ∨ P.2 i 5 = 1 by omega) with h5 | h5
    · rw [show (if P.2 i 5 = 1 then (1 : Int32) else 0) = 0 from if_neg (by omega), if_pos rfl]
      simp [htf, h5]
    · have e : htf P i = tp P i := by simp [htf, h5]
      rw [if_pos h5, if_neg (by decide), e]
      by_cases hlt : mxf (htf P) i < tp P i
      · rw [if_neg (by rw [nle (by omega) (by omega)]; omega), Nat.max_eq_right (by omega)]
        rfl
      · rw [if_pos (by rw [nle (by omega) (by omega)]; omega), Nat.max_eq_left (by omega)]
  · simp only [gX7_boxHeight_4, h.n, Option.bind_some]
    rw [if_pos (by rw [nle (by omega) (by omega)]; omega)]
    rfl
theorem m_air {w : S} {P : Bx} (hW : WF P) (h : MR w 0 P) : fX7_air w = some (AR P) := by
  have hn := hW.2.2.2.2.1
  have hl := lp_for (step := gX7_air_21 w) (fun i => (arr P i, nI i)) (P.1 4) (b := (AR P, nI (P.1 4))) (by omega) (fun i hi => ?_) ?_
  · simp only [fX7_air, m_height hW h, Option.bind_some]
    rw [gd_t (by decide), gd_t (by decide), show (0 : Int32).toNatClampNeg = 0 from rfl, show (1 : Int32).toNatClampNeg = 1 from rfl, h.at (by omega), h.at (by omega)]
    rw [show ((nI (P.1 0) * nI (P.1 1)) * nI (HT P), (0 : Int32)) = (arr P 0, nI 0) from rfl, hl]
    rfl
  · have g := hW.in1 i hi
    simp only [gX7_air_21, h.n, Option.bind_some]
    rw [if_neg (by rw [nle (by omega) (by omega)]; omega), show nI i + 1 = nI (i + 1) from nadd i 1, h.isIn hW (v := nI i) rfl hi, h.of hn (v1 := nI i) rfl (show (0 : Int32) = nI 0 from rfl) hi (by omega), h.of hn (v1 := nI i) rfl (show (1 : Int32) = nI 1 from rfl) hi (by omega), m_high hn h (v := nI i) rfl hi]
    simp only [Option.bind_some]
    rcases (show P.2 i 5 = 0 ∨ P.2 i 5 = 1 by omega) with h5 | h5
    · rw [show (if P.2 i 5 = 1 then (1 : Int32) else 0) = 0 from if_neg (by omega), if_pos rfl]
      simp [arr, h5]
    · rw [if_pos h5, if_neg (by decide)]
      simp [arr, h5]
  · simp only [gX7_air_21, h.n, Option.bind_some]
    rw [if_pos (by rw [nle (by omega) (by omega)]; omega)]
    rfl
/-- count: both answer the same -/
theorem count_eq {P : Bx} {u w : S} (h : RR P u w) (v : Int32) : ∃ r, fX6_count v u = some r ∧ fX7_count v w = some r := by
  obtain ⟨hW, hC, hM, ⟨n, o, hn, ho, h0, h1, h2, hk⟩, ⟨len, t1, t2, t3, t4, t5⟩, -⟩ := h
  obtain ⟨m, i1, i2, i3, i4⟩ := inside_bc hW hC
  have e : ∀ k, k < 5 → u.1 (132 + 0) k = nI (P.1 k) := fun k hk => hC.1 k hk
  have e' : ∀ k, k < 5 → w.1 1 k = nI (P.1 k) := fun k hk => hM.at hk
  simp only [fX6_count, fX7_count, i1, i4, Option.bind_some, freeTrays_eq hW hC, height_eq hW hC, air_eq hW hC, faults_eq hW hC, lifts_eq hW hC, inBox_eq hW hM, m_frees hW hM, m_height hW hM, m_air hW hM, m_faults hW hM, m_lifts hW hM, t2, t3, h0, h2, e 0 (by omega), e 1 (by omega), e 2 (by omega), e 3 (by omega), e 4 (by omega)]
  by_cases c0 : v = 0
  · subst c0; exact ⟨_, rfl, by rw [if_pos rfl, gd_t (by decide), show (0 : Int32).toNatClampNeg = 0 from rfl, e' 0 (by omega)]⟩
  rw [if_neg c0, if_neg c0]
  by_cases c1 : v = 1
  · subst c1; exact ⟨_, rfl, by rw [if_pos rfl, gd_t (by decide), show (1 : Int32).toNatClampNeg = 1 from rfl, e' 1 (by omega)]⟩
  rw [if_neg c1, if_neg c1]
  by_cases c2 : v = 2
  · subst c2; exact ⟨_, rfl, by rw [if_pos rfl, gd_t (by decide), show (2 : Int32).toNatClampNeg = 2 from rfl, e' 2 (by omega)]⟩
  rw [if_neg c2, if_neg c2]
  by_cases c3 : v = 3
  · subst c3; exact ⟨_, rfl, by rw [if_pos rfl, gd_t (by decide), show (3 : Int32).toNatClampNeg = 3 from rfl, e' 3 (by omega)]⟩
  rw [if_neg c3, if_neg c3]
  by_cases c4 : v = 4
  · subst c4; exact ⟨_, rfl, by rw [if_pos rfl, gd_t (by decide), show (4 : Int32).toNatClampNeg = 4 from rfl, e' 4 (by omega)]⟩
  rw [if_neg c4, if_neg c4]
  by_cases c5 : v = 5
  · subst c5; exact ⟨_, rfl, rfl⟩
  rw [if_neg c5]
  by_cases c6 : v = 6
  · subst c6; exact ⟨_, rfl, rfl⟩
  rw [if_neg c6]
  by_cases c7 : v = 7
  · subst c7; exact ⟨_, rfl, rfl⟩
  rw [if_neg c7]
  by_cases c8 : v = 8
  · subst c8; exact ⟨_, rfl, rfl⟩
  rw [if_neg c8]
  by_cases c9 : v = 9
  · subst c9; exact ⟨_, rfl, rfl⟩
  rw [if_neg c9]
  by_cases c10 : v = 10
  · subst c10; exact ⟨_, rfl, rfl⟩
  rw [if_neg c10]
  by_cases c11 : v = 11
  · subst c11; exact ⟨_, rfl, rfl⟩
  rw [if_neg c11]
  by_cases c12 : v = 12
  · subst c12; exact ⟨_, rfl, rfl⟩
  rw [if_neg c12]
  exact ⟨_, rfl, rfl⟩
theorem sim_count : Sim_count Rl := by
  intro u w v ⟨P, hR⟩
  obtain ⟨r, h1, h2⟩ := count_eq hR v
  exact ⟨r, h1, h2, P, hR⟩
