/-! what the law tells: sums, the volume, the sets above -/
theorem sm_swap (f : Nat → Nat → Nat) (a : Nat) : ∀ b, fb_sm (fun i => fb_sm (fun j => f i j) b) a = fb_sm (fun j => fb_sm (fun i => f i j) a) b := by
  intro b
  induction b with
  | zero =>
    rw [show fb_sm (fun i => fb_sm (fun j => f i j) 0) a = fb_sm (fun _ => 0) a from rfl, fb_sm_const]
    rfl
  | succ b ih =>
    rw [fb_sm_succ, ← ih, ← fb_sm_add]
    exact fb_sm_cong (fun i _ => fb_sm_succ _ _)
theorem sm_cut {f : Nat → Nat} {a b : Nat} (hab : a ≤ b) (h : ∀ i, a ≤ i → i < b → f i = 0) : fb_sm f b = fb_sm f a := by
  obtain ⟨d, rfl⟩ : ∃ d, b = a + d := ⟨b - a, by omega⟩
  rw [fb_sm_split]
  have : fb_sm (fun k => f (a + k)) d = fb_sm (fun _ => 0) d := fb_sm_cong (fun k hk => h _ (by omega) (by omega))
  rw [this, fb_sm_const]
  omega
theorem ct_cut {p : Nat → Bool} {a b : Nat} (hab : a ≤ b) (h : ∀ i, a ≤ i → i < b → p i = false) : fb_ct p b = fb_ct p a := by
  obtain ⟨d, rfl⟩ : ∃ d, b = a + d := ⟨b - a, by omega⟩
  rw [fb_ct_split, (fb_ct_zero (p := fun k => p (a + k))).mpr (fun k hk => h _ (by omega) (by omega)), Nat.add_zero]
theorem ct_false {p : Nat → Bool} {n : Nat} (h : ∀ k, k < n → p k = false) : fb_ct p n = 0 := fb_ct_zero.mpr h
theorem ct_one {p : Nat → Bool} : ∀ {n : Nat}, (∀ i j, i < n → j < n → p i = true → p j = true → i = j) → fb_ct p n ≤ 1 := by
  intro n
  induction n with
  | zero => intro _; simp [fb_ct]
  | succ n ih =>
    intro h
    rw [fb_ct_succ]
    by_cases hn : p n = true
    · have : fb_ct p n = 0 := ct_false (fun k hk => by
        cases hp : p k with
        | false => rfl
        | true =>
          have := h k n (by omega) (by omega) hp hn
          omega)
      rw [if_pos hn]
      omega
    · rw [if_neg hn]
      exact ih (fun i j hi hj => h i j (by omega) (by omega))
theorem ct_win (f l : Nat) : ∀ H, fb_ct (fun z => decide (f ≤ z) && decide (z < f + l)) H = min H (f + l) - min H f := by
  intro H
  induction H with
  | zero => simp [fb_ct]
  | succ H ih =>
    rw [fb_ct_succ, ih]
    by_cases h : f ≤ H ∧ H < f + l
    · rw [if_pos (by simp [h.1, h.2])]
      omega
    · rw [if_neg (by simpa using h)]
      omega
section C88
variable {P : Bx} {u : S}
theorem lo_OV (hW : WF P) {t k : Nat} (ht : t < P.1 4) (hk : k < P.1 4) : lo P k t = true ↔ ∃ x, x < P.1 0 ∧ ∃ y, y < P.1 1 ∧ OV P x y t k := by
  constructor
  · intro h
    have hne : k ≠ t := fun q => by
      rw [q, lo_self (hW.2.2.2.2.2.1 t ht)] at h
      cases h
    simp only [lo, mt, Bool.and_eq_true, beq_iff_eq, decide_eq_true_eq] at h
    obtain ⟨⟨⟨k5, t5⟩, hm⟩, hf⟩ := h
    have h1 := (hW.2.2.2.2.2.1 t ht).2.2.2.2.2.2.2.2 t5
    have h2 := (hW.2.2.2.2.2.1 k hk).2.2.2.2.2.2.2.2 k5
    have s1 := hW.small ht
    have s2 := hW.small hk
    refine ⟨max (P.2 k 7) (P.2 t 7), by omega, max (P.2 k 8) (P.2 t 8), by omega, hne, hk, ht, ?_, ?_, hf⟩
    · simp only [cv, t5, Bool.and_eq_true, decide_eq_true_eq, beq_self_eq_true, true_and]
      omega
    · simp only [cv, k5, Bool.and_eq_true, decide_eq_true_eq, beq_self_eq_true, true_and]
      omega
  · rintro ⟨x, hx, y, hy, h1, h2, h3, h4, h5, h6⟩
    simp only [lo, Bool.and_eq_true, beq_iff_eq, decide_eq_true_eq]
    exact ⟨⟨⟨cv_in h5, cv_in h4⟩, mt_cv h5 h4⟩, h6⟩
theorem cv_in_box (hW : WF P) {i x y : Nat} (hi : i < P.1 4) (h : cv P i x y = true) : x < P.1 0 ∧ y < P.1 1 := by
  have h5 := cv_in h
  have := (hW.2.2.2.2.2.1 i hi).2.2.2.2.2.2.2.2 h5
  simp only [cv, Bool.and_eq_true, decide_eq_true_eq] at h
  omega
theorem cv_own (hW : WF P) {i : Nat} (hi : i < P.1 4) (h5 : P.2 i 5 = 1) : cv P i (P.2 i 7) (P.2 i 8) = true := by
  have s1 := hW.small hi
  simp only [cv, h5, Bool.and_eq_true, decide_eq_true_eq, beq_self_eq_true, true_and]
  omega
theorem high_eq (hW : WF P) : mxf (fun x => mxf (fun y => tpm P x y) (P.1 1)) (P.1 0) = HT P := by
  apply Nat.le_antisymm
  · refine mxf_le (fun x hx => mxf_le (fun y hy => mxf_le (fun i hi => ?_)))
    have h1 : tpf P x y i ≤ htf P i := by
      unfold tpf htf
      by_cases hc : cv P i x y = true
      · rw [if_pos hc, if_pos (cv_in hc)]
        omega
      · rw [if_neg hc]
        omega
    exact Nat.le_trans h1 (le_mxf hi)
  · refine mxf_le (fun i hi => ?_)
    unfold htf
    by_cases h5 : P.2 i 5 = 1
    · rw [if_pos h5]
      have hc := cv_own hW hi h5
      have hb := cv_in_box hW hi hc
      have h1 : tp P i = tpf P (P.2 i 7) (P.2 i 8) i := (if_pos hc).symm
      rw [h1]
      exact Nat.le_trans (le_mxf (f := tpf P (P.2 i 7) (P.2 i 8)) hi) (Nat.le_trans (le_mxf (f := fun y => tpm P (P.2 i 7) y) hb.2) (le_mxf (f := fun x => mxf (fun y => tpm P x y) (P.1 1)) hb.1))
    · rw [if_neg h5]
      omega
theorem su0_box (hW : WF P) {i x y : Nat} (hi : i < P.1 4) (h : ¬ (x < P.1 0 ∧ y < P.1 1)) : su0 P x y i = false := by
  cases hc : cv P i x y with
  | false => simp [su0, hc]
  | true => exact absurd (cv_in_box hW hi hc) h
theorem rs_grid (hW : WF P) {i : Nat} (hi : i < P.1 4) : fb_sm (fun x => fb_ct (fun y => su0 P x y i) (P.1 1)) (P.1 0) = rs P i := by
  have w0 := hW.1
  have w1 := hW.2.1
  have h1 : rs P i = fb_ct (fun k => su0 P (k / 10) (k % 10) i) (10 * 10) := fb_ct_cong (fun k _ => by
    rw [sup_eq]
    simp only [su0, suq]
    rw [Bool.and_comm]
    rfl)
  rw [h1, grid (fun x y => su0 P x y i) 10, sm_cut (a := P.1 0) (b := 10) (by omega) (fun x hx _ => ct_false (fun y _ => su0_box hW hi (by omega)))]
  exact fb_sm_cong (fun x _ => (ct_cut (a := P.1 1) (b := 10) (by omega) (fun y hy _ => su0_box hW hi (by omega))).symm)
theorem rests_eq (hW : WF P) : fb_sm (fun x => fb_sm (fun y => fb_ct (su0 P x y) (P.1 4)) (P.1 1)) (P.1 0) = fb_sm (fun i => if P.2 i 5 = 1 then rs P i else 0) (P.1 4) := by
  have h1 : fb_sm (fun x => fb_sm (fun y => fb_ct (su0 P x y) (P.1 4)) (P.1 1)) (P.1 0) = fb_sm (fun x => fb_sm (fun t => fb_ct (fun y => su0 P x y t) (P.1 1)) (P.1 4)) (P.1 0) := fb_sm_cong (fun x _ => (ct_col (fun t y => su0 P x y t) (P.1 4) (P.1 1)).symm)
  rw [h1, sm_swap]
  refine fb_sm_cong (fun i hi => ?_)
  rw [rs_grid hW hi]
  by_cases h5 : P.2 i 5 = 1
  · rw [if_pos h5]
  · rw [if_neg h5]
    refine ct_false (fun k _ => ?_)
    have : cv P i (k / 10) (k % 10) = false := by
      cases hc : cv P i (k / 10) (k % 10) with
      | false => rfl
      | true => exact absurd (cv_in hc) h5
    rw [sup_eq, this, Bool.and_false]
/-- the volume of the first m trays -/
def vol (P : Bx) (m : Nat) : Nat := fb_sm (fun i => if P.2 i 5 = 1 then P.2 i 0 * P.2 i 1 * tl P i else 0) m
theorem col_le (hW : WF P) (x y : Nat) : fb_sm (fun i => if cv P i x y = true then tl P i else 0) (P.1 4) ≤ HT P := by
  have h1 : ∀ i, i < P.1 4 → (if cv P i x y = true then tl P i else 0) = fb_ct (fun z => cv P i x y && (decide (P.2 i 9 ≤ z) && decide (z < P.2 i 9 + tl P i))) (HT P) := fun i hi => by
    by_cases hc : cv P i x y = true
    · have h2 : tp P i ≤ HT P := by
        have : htf P i = tp P i := if_pos (cv_in hc)
        rw [← this]
        exact le_mxf hi
      rw [if_pos hc, hc]
      simp only [Bool.true_and]
      rw [ct_win]
      unfold tp at h2
      omega
    · rw [if_neg hc]
      rw [Bool.not_eq_true] at hc
      exact (ct_false (fun z _ => by rw [hc, Bool.false_and])).symm
  rw [fb_sm_cong h1, ct_col (fun i z => cv P i x y && (decide (P.2 i 9 ≤ z) && decide (z < P.2 i 9 + tl P i))) (P.1 4) (HT P)]
  have h3 := fb_sm_bound (f := fun z => fb_ct (fun i => cv P i x y && (decide (P.2 i 9 ≤ z) && decide (z < P.2 i 9 + tl P i))) (P.1 4)) (c := 1) (n := HT P) (fun z _ => ct_one (fun i j hi hj hp hq => by
    simp only [Bool.and_eq_true, decide_eq_true_eq] at hp hq
    by_cases hij : i = j
    · exact hij
    · have := hW.2.2.2.2.2.2 i j hi hj hij (cv_in hp.1) (cv_in hq.1) (mt_cv hp.1 hq.1)
      unfold tp at this
      omega))
  omega
theorem area_grid (hW : WF P) {i : Nat} (hi : i < P.1 4) (h5 : P.2 i 5 = 1) : P.2 i 0 * P.2 i 1 = fb_sm (fun x => fb_ct (fun y => cv P i x y) 10) 10 := by
  have w0 := hW.1
  have w1 := hW.2.1
  have hin := (hW.2.2.2.2.2.1 i hi).2.2.2.2.2.2.2.2 h5
  have h6 := (hW.2.2.2.2.2.1 i hi).2.2.2.2.2.2.1
  have hr := rect (fun _ _ => true) (x := P.2 i 7) (a := ax P i) (y := P.2 i 8) (b := ay P i) (by omega) (by omega)
  have hg := grid (fun x y => cv P i x y) 10
  rw [← hg]
  have hc : fb_ct (fun k => cv P i (k / 10) (k % 10)) (10 * 10) = fb_ct (fun k => (decide (P.2 i 7 ≤ k / 10) && decide (k / 10 < P.2 i 7 + ax P i)) && ((decide (P.2 i 8 ≤ k % 10) && decide (k % 10 < P.2 i 8 + ay P i)) && true)) 100 := fb_ct_cong (fun k _ => by
    simp [cv, h5, Bool.and_assoc])
  rw [hc, hr]
  have hct : ∀ a, fb_ct (fun _ => true) a = a := fun a => fb_ct_all.mpr (fun _ _ => rfl)
  simp only [hct]
  rw [fb_sm_const]
  unfold ax ay axt ayt
  rcases (show P.2 i 6 = 0 ∨ P.2 i 6 = 1 by omega) with q | q <;> rw [q] <;> simp [Nat.mul_comm]
theorem vol_le (hW : WF P) : vol P (P.1 4) ≤ P.1 0 * P.1 1 * HT P := by
  have w0 := hW.1
  have w1 := hW.2.1
  have e1 : vol P (P.1 4) = fb_sm (fun x => fb_sm (fun y => fb_sm (fun i => if cv P i x y = true then tl P i else 0) (P.1 4)) 10) 10 := by
    have h1 : vol P (P.1 4) = fb_sm (fun i => fb_sm (fun x => fb_sm (fun y => if cv P i x y = true then tl P i else 0) 10) 10) (P.1 4) := fb_sm_cong (fun i hi => by
      have hk : ∀ (p : Nat → Bool) (c n : Nat), fb_sm (fun y => if p y = true then c else 0) n = fb_ct p n * c := fun p c n => by
        induction n with
        | zero => simp [fb_sm, fb_ct]
        | succ n ih =>
          rw [fb_sm_succ, ih, fb_ct_succ, Nat.add_mul]
          by_cases h : p n = true
          · rw [if_pos h, if_pos h]; omega
          · rw [if_neg h, if_neg h]; omega
      have hm : ∀ (f : Nat → Nat) (c n : Nat), fb_sm (fun x => f x * c) n = fb_sm f n * c := fun f c n => by
        induction n with
        | zero => simp [fb_sm]
        | succ n ih => rw [fb_sm_succ, ih, fb_sm_succ, Nat.add_mul]
      simp only [hk, hm]
      by_cases h5 : P.2 i 5 = 1
      · rw [if_pos h5, area_grid hW hi h5]
      · rw [if_neg h5]
        have : fb_sm (fun x => fb_ct (fun y => cv P i x y) 10) 10 = fb_sm (fun _ => 0) 10 := fb_sm_cong (fun x _ => ct_false (fun y _ => by
          cases hc : cv P i x y with
          | false => rfl
          | true => exact absurd (cv_in hc) h5))
        rw [this, fb_sm_const]
        omega)
    rw [h1, sm_swap]
    exact fb_sm_cong (fun x _ => sm_swap (fun i y => if cv P i x y = true then tl P i else 0) (P.1 4) 10)
  have hz : ∀ x y, ¬ (x < P.1 0 ∧ y < P.1 1) → fb_sm (fun i => if cv P i x y = true then tl P i else 0) (P.1 4) = 0 := fun x y h => by
    have : fb_sm (fun i => if cv P i x y = true then tl P i else 0) (P.1 4) = fb_sm (fun _ => 0) (P.1 4) := fb_sm_cong (fun i hi => if_neg (fun hc => h (cv_in_box hW hi hc)))
    rw [this, fb_sm_const]
    omega
  rw [e1, sm_cut (a := P.1 0) (b := 10) (by omega) (fun x hx _ => by
    have : fb_sm (fun y => fb_sm (fun i => if cv P i x y = true then tl P i else 0) (P.1 4)) 10 = fb_sm (fun _ => 0) 10 := fb_sm_cong (fun y _ => hz x y (by omega))
    rw [this, fb_sm_const])]
  have h2 : ∀ x, x < P.1 0 → fb_sm (fun y => fb_sm (fun i => if cv P i x y = true then tl P i else 0) (P.1 4)) 10 ≤ P.1 1 * HT P := fun x _ => by
    rw [sm_cut (a := P.1 1) (b := 10) (by omega) (fun y hy _ => hz x y (by omega))]
    exact fb_sm_bound (fun y _ => col_le hW x y)
  rw [Nat.mul_assoc]
  exact fb_sm_bound h2
theorem arr_eq (hW : WF P) : ∀ {m : Nat}, m ≤ P.1 4 → arr P m = nI (P.1 0 * P.1 1 * HT P - vol P m) := by
  intro m
  induction m with
  | zero =>
    intro _
    rw [arr, nmul, nmul]
    rfl
  | succ m ih =>
    intro hm
    have hv := vol_le hW
    obtain ⟨d, hd⟩ : ∃ d, P.1 4 = (m + 1) + d := ⟨P.1 4 - (m + 1), by omega⟩
    have hmo : vol P (m + 1) ≤ vol P (P.1 4) := by
      rw [hd]
      exact fb_sm_mono _ _ _
    have hs : vol P (m + 1) = vol P m + (if P.2 m 5 = 1 then P.2 m 0 * P.2 m 1 * tl P m else 0) := fb_sm_succ _ _
    rw [arr, ih (by omega), hs]
    by_cases h5 : P.2 m 5 = 1
    · rw [if_pos h5, if_pos h5, nmul, nmul]
      rw [if_pos h5] at hs
      rw [nsub (by omega)]
      congr 1
      omega
    · rw [if_neg h5, if_neg h5, Nat.add_zero]
end C88
