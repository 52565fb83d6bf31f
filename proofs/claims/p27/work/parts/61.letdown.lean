/-- P with tray t let down -/
def plc (P : Bx) (t x y w : Nat) : Bx := (P.1, fun a k => if a = t ∧ 5 ≤ k ∧ k < 10 then (if k = 5 then 1 else if k = 6 then w else if k = 7 then x else if k = 8 then y else (flr P t x y w).1) else P.2 a k)
theorem plc_o {P : Bx} {t x y w a : Nat} (h : a ≠ t) : (plc P t x y w).2 a = P.2 a := by
  funext k
  simp only [plc]
  rw [if_neg (fun q => h q.1)]
theorem plc_k {P : Bx} {t x y w k : Nat} (h : k < 5) : (plc P t x y w).2 t k = P.2 t k := by
  simp only [plc]
  rw [if_neg (by omega)]
theorem plc_5 {P : Bx} {t x y w : Nat} : (plc P t x y w).2 t 5 = 1 := by simp [plc]
theorem plc_6 {P : Bx} {t x y w : Nat} : (plc P t x y w).2 t 6 = w := by simp [plc]
theorem plc_7 {P : Bx} {t x y w : Nat} : (plc P t x y w).2 t 7 = x := by simp [plc]
theorem plc_8 {P : Bx} {t x y w : Nat} : (plc P t x y w).2 t 8 = y := by simp [plc]
theorem plc_9 {P : Bx} {t x y w : Nat} : (plc P t x y w).2 t 9 = (flr P t x y w).1 := by simp [plc]
theorem plc_ax {P : Bx} {t x y w : Nat} : ax (plc P t x y w) t = axt P t w ∧ ay (plc P t x y w) t = ayt P t w := by
  unfold ax ay
  rw [plc_6]
  unfold axt ayt
  rw [plc_k (by omega), plc_k (by omega)]
  exact ⟨rfl, rfl⟩
theorem plc_tl {P : Bx} {t x y w : Nat} : tl (plc P t x y w) t = tl P t := by
  unfold tl
  rw [plc_k (by omega), plc_k (by omega)]
theorem plc_tp {P : Bx} {t x y w : Nat} : tp (plc P t x y w) t = (flr P t x y w).1 + tl P t := by
  unfold tp
  rw [plc_tl, plc_9]
theorem mt_sym {P : Bx} {i j : Nat} : mt P i j = mt P j i := by
  rw [Bool.eq_iff_iff]
  simp only [mt, Bool.and_eq_true, decide_eq_true_eq]
  omega
/-- what tray t meets lies below it -/
theorem plc_over {P : Bx} {t x y w j : Nat} (hW : WF P) (ht : t < P.1 4) (hj : j < P.1 4) (hjt : j ≠ t) (h5 : P.2 j 5 = 1) (hm : mt (plc P t x y w) t j = true) : tp P j ≤ (flr P t x y w).1 := by
  simp only [mt, Bool.and_eq_true, decide_eq_true_eq, plc_7, plc_8, plc_ax.1, plc_ax.2, plc_o hjt] at hm
  have e : ax (plc P t x y w) j = ax P j ∧ ay (plc P t x y w) j = ay P j := by
    unfold ax ay axt ayt
    rw [plc_o hjt]
    exact ⟨rfl, rfl⟩
  rw [e.1, e.2] at hm
  obtain ⟨⟨⟨m1, m2⟩, m3⟩, m4⟩ := hm
  have hax := axt_le hW ht w
  have hsj := hW.small hj
  have hX : ∃ i, i < axt P t w ∧ P.2 j 7 ≤ x + i ∧ x + i < P.2 j 7 + ax P j := by
    by_cases hle : P.2 j 7 ≤ x
    · exact ⟨0, by omega, by omega, by omega⟩
    · exact ⟨P.2 j 7 - x, by omega, by omega, by omega⟩
  have hY : ∃ i, i < ayt P t w ∧ P.2 j 8 ≤ y + i ∧ y + i < P.2 j 8 + ay P j := by
    by_cases hle : P.2 j 8 ≤ y
    · exact ⟨0, by omega, by omega, by omega⟩
    · exact ⟨P.2 j 8 - y, by omega, by omega, by omega⟩
  obtain ⟨a, a1, a2, a3⟩ := hX
  obtain ⟨b, b1, b2, b3⟩ := hY
  have hc : cv P j (x + a) (y + b) = true := by
    simp only [cv, Bool.and_eq_true, decide_eq_true_eq, beq_iff_eq]
    exact ⟨h5, ⟨⟨a2, a3⟩, b2⟩, b3⟩
  have h1 : tpf P (x + a) (y + b) j = tp P j := by
    unfold tpf
    rw [if_pos hc]
  have h2 : tpf P (x + a) (y + b) j ≤ tpm P (x + a) (y + b) := le_mxf hj
  have h3 := le_fs2 (s := fun j i => tpm P (x + i) (y + j)) a1 b1
  unfold flr
  omega
theorem plc_WF {P : Bx} {t x y w : Nat} (hW : WF P) (ht : t < P.1 4) (h5 : ¬ P.2 t 5 = 1) (hw : w ≤ 1) (hx : x + axt P t w ≤ P.1 0) (hy : y + ayt P t w ≤ P.1 1) (hf : (flr P t x y w).1 + tl P t ≤ P.1 2) : WF (plc P t x y w) := by
  have w0 := hW.1
  have w1 := hW.2.1
  have w2 := hW.2.2.1
  refine ⟨hW.1, hW.2.1, hW.2.2.1, hW.2.2.2.1, hW.2.2.2.2.1, fun i hi => ?_, fun i j hi hj hij g1 g2 hm => ?_⟩
  · have hi : i < P.1 4 := hi
    have wi := hW.2.2.2.2.2.1 i hi
    by_cases hit : i = t
    · subst hit
      unfold WT at wi ⊢
      rw [plc_k (by omega), plc_k (by omega), plc_k (by omega), plc_k (by omega), plc_k (by omega), plc_5, plc_6, plc_7, plc_8, plc_9, plc_ax.1, plc_ax.2, plc_tp]
      refine ⟨wi.1, wi.2.1, wi.2.2.1, wi.2.2.2.1, wi.2.2.2.2.1, by omega, hw, by omega, fun _ => ⟨hx, hy, hf⟩⟩
    · unfold WT ax ay axt ayt tp tl at wi ⊢
      rw [plc_o hit]
      exact wi
  · have hi : i < P.1 4 := hi
    have hj : j < P.1 4 := hj
    by_cases hit : i = t
    · subst hit
      left
      have hji : j ≠ i := fun q => hij q.symm
      rw [plc_o hji] at g2
      rw [plc_9, tp_c (plc_o hji)]
      exact plc_over hW ht hj hji g2 hm
    · by_cases hjt : j = t
      · subst hjt
        right
        rw [plc_o hit] at g1
        rw [mt_sym] at hm
        rw [plc_9, tp_c (plc_o hit)]
        exact plc_over hW ht hi hit g1 hm
      · rw [plc_o hit] at g1 ⊢
        rw [plc_o hjt] at g2 ⊢
        rw [mt_c (plc_o hit) (plc_o hjt)] at hm
        rw [tp_c (plc_o hit), tp_c (plc_o hjt)]
        exact hW.2.2.2.2.2.2 i j hi hj hij g1 g2 hm
theorem plc_rs_o {P : Bx} {t x y w j : Nat} (hW : WF P) (ht : t < P.1 4) (hj : j < P.1 4) (h5 : ¬ P.2 t 5 = 1) (hjt : j ≠ t) (hj5 : P.2 j 5 = 1) : rs (plc P t x y w) j = rs P j := by
  refine rs_wo rfl (fun a ha => plc_o ha) hjt (fun q => absurd q h5) (fun _ hm => ?_)
  rw [mt_sym] at hm
  have h1 := plc_over hW ht hj hjt hj5 hm
  have h2 := tl_le hW ht
  have h3 := tl_le hW hj
  have h4 : tp P j = P.2 j 9 + tl P j := rfl
  rw [plc_tp, plc_o hjt]
  omega
/-! counting cells -/
theorem grid (q : Nat → Nat → Bool) : ∀ m, fb_ct (fun k => q (k / 10) (k % 10)) (10 * m) = fb_sm (fun X => fb_ct (fun Y => q X Y) 10) m := by
  intro m
  induction m with
  | zero => rfl
  | succ m ih =>
    rw [show 10 * (m + 1) = 10 * m + 10 from rfl, fb_ct_split, ih, fb_sm_succ]
    congr 1
    exact fb_ct_cong (fun k hk => by rw [show (10 * m + k) / 10 = m by omega, show (10 * m + k) % 10 = k by omega])
theorem win_ct (p : Nat → Bool) {y b : Nat} (h : y + b ≤ 10) : fb_ct (fun Y => (decide (y ≤ Y) && decide (Y < y + b)) && p Y) 10 = fb_ct (fun j => p (y + j)) b := by
  obtain ⟨r, hr⟩ : ∃ r, 10 = y + (b + r) := ⟨10 - y - b, by omega⟩
  rw [hr, fb_ct_split, fb_ct_split]
  have h1 : fb_ct (fun Y => (decide (y ≤ Y) && decide (Y < y + b)) && p Y) y = 0 := fb_ct_zero.mpr (fun k hk => by
    have : ¬ y ≤ k := by omega
    simp [this])
  have h2 : fb_ct (fun k => (decide (y ≤ y + (b + k)) && decide (y + (b + k) < y + b)) && p (y + (b + k))) r = 0 := fb_ct_zero.mpr (fun k hk => by
    have : ¬ y + (b + k) < y + b := by omega
    simp [this])
  have h3 : fb_ct (fun k => (decide (y ≤ y + k) && decide (y + k < y + b)) && p (y + k)) b = fb_ct (fun j => p (y + j)) b := fb_ct_cong (fun k hk => by simp [hk])
  rw [h1, h2, h3]
  omega
theorem win_sm (f : Nat → Nat) {x a : Nat} (h : x + a ≤ 10) : fb_sm (fun X => if x ≤ X ∧ X < x + a then f X else 0) 10 = fb_sm (fun i => f (x + i)) a := by
  obtain ⟨r, hr⟩ : ∃ r, 10 = x + (a + r) := ⟨10 - x - a, by omega⟩
  rw [hr, fb_sm_split, fb_sm_split]
  have z : ∀ (g : Nat → Nat) n, (∀ k, k < n → g k = 0) → fb_sm g n = 0 := fun g n hg => by rw [fb_sm_cong hg, fb_sm_const, Nat.mul_zero]
  have h1 : fb_sm (fun X => if x ≤ X ∧ X < x + a then f X else 0) x = 0 := z _ _ (fun k hk => if_neg (by omega))
  have h2 : fb_sm (fun k => if x ≤ x + (a + k) ∧ x + (a + k) < x + a then f (x + (a + k)) else 0) r = 0 := z _ _ (fun k hk => if_neg (by omega))
  have h3 : fb_sm (fun k => if x ≤ x + k ∧ x + k < x + a then f (x + k) else 0) a = fb_sm (fun i => f (x + i)) a := fb_sm_cong (fun k hk => if_pos (by omega))
  rw [h1, h2, h3]
  omega
theorem rect (p : Nat → Nat → Bool) {x a y b : Nat} (hx : x + a ≤ 10) (hy : y + b ≤ 10) : fb_ct (fun k => (decide (x ≤ k / 10) && decide (k / 10 < x + a)) && ((decide (y ≤ k % 10) && decide (k % 10 < y + b)) && p (k / 10) (k % 10))) 100 = fb_sm (fun j => fb_ct (fun i => p (x + i) (y + j)) a) b := by
  rw [show (100 : Nat) = 10 * 10 from rfl, grid (fun X Y => (decide (x ≤ X) && decide (X < x + a)) && ((decide (y ≤ Y) && decide (Y < y + b)) && p X Y)), ← ct_col (fun i j => p (x + i) (y + j))]
  rw [← win_sm (fun X => fb_ct (fun j => p X (y + j)) b) hx]
  refine fb_sm_cong (fun X _ => ?_)
  by_cases hX : x ≤ X ∧ X < x + a
  · rw [if_pos hX, ← win_ct (p X) hy]
    exact fb_ct_cong (fun Y _ => by rw [decide_eq_true hX.1, decide_eq_true hX.2]; rfl)
  · rw [if_neg hX]
    exact fb_ct_zero.mpr (fun Y _ => by
      have : (decide (x ≤ X) && decide (X < x + a)) = false := by
        rw [Bool.eq_false_iff]
        intro q
        simp only [Bool.and_eq_true, decide_eq_true_eq] at q
        exact hX q
      rw [this]
      rfl)
theorem plc_rs {P : Bx} {t x y w : Nat} (hW : WF P) (ht : t < P.1 4) (h5 : ¬ P.2 t 5 = 1) (hx : x + axt P t w ≤ P.1 0) (hy : y + ayt P t w ≤ P.1 1) : rs (plc P t x y w) t = (flr P t x y w).2 := by
  have w0 := hW.1
  have w1 := hW.2.1
  have e2 : (flr P t x y w).2 = fb_sm (fun j => fb_ct (fun i => tpm P (x + i) (y + j) == (flr P t x y w).1) (axt P t w)) (ayt P t w) := (fs2_eq (fun j i => tpm P (x + i) (y + j)) (axt P t w) (ayt P t w)).2
  rw [e2, ← rect (fun X Y => tpm P X Y == (flr P t x y w).1) (by omega) (by omega)]
  refine fb_ct_cong (fun k hk => ?_)
  rw [sup_eq, plc_9, cv_cvr, plc_5]
  unfold cvr
  rw [plc_7, plc_8, plc_ax.1, plc_ax.2]
  by_cases hin : (x ≤ k / 10 ∧ k / 10 < x + axt P t w) ∧ y ≤ k % 10 ∧ k % 10 < y + ayt P t w
  · rw [decide_eq_true hin.1.1, decide_eq_true hin.1.2, decide_eq_true hin.2.1, decide_eq_true hin.2.2]
    have hle : tpm P (k / 10) (k % 10) ≤ (flr P t x y w).1 := by
      have := le_fs2 (s := fun j i => tpm P (x + i) (y + j)) (a := axt P t w) (b := ayt P t w) (i := k / 10 - x) (j := k % 10 - y) (by omega) (by omega)
      rw [show x + (k / 10 - x) = k / 10 by omega, show y + (k % 10 - y) = k % 10 by omega] at this
      exact this
    have key : ((flr P t x y w).1 == 0 || anyb ((plc P t x y w).1 4) (rsf (plc P t x y w) t k)) = (tpm P (k / 10) (k % 10) == (flr P t x y w).1) := by
      rw [Bool.eq_iff_iff, Bool.or_eq_true, anyb_iff, beq_iff_eq, beq_iff_eq]
      constructor
      · rintro (h0 | ⟨j, hj, hr⟩)
        · omega
        · have hj : j < P.1 4 := hj
          simp only [rsf, Bool.and_eq_true, Bool.not_eq_true', beq_eq_false_iff_ne, beq_iff_eq] at hr
          obtain ⟨⟨r1, r2⟩, r3⟩ := hr
          rw [cv_c (plc_o r1)] at r2
          rw [tp_c (plc_o r1), plc_9] at r3
          have h1 : tpf P (k / 10) (k % 10) j = tp P j := by
            unfold tpf
            rw [if_pos r2]
          have h2 : tpf P (k / 10) (k % 10) j ≤ tpm P (k / 10) (k % 10) := le_mxf hj
          omega
      · intro he
        by_cases h0 : (flr P t x y w).1 = 0
        · exact Or.inl h0
        · right
          have hpos : 0 < P.1 4 := by omega
          obtain ⟨j, hj, ej⟩ := mxf_at (f := tpf P (k / 10) (k % 10)) hpos
          have ej : tpm P (k / 10) (k % 10) = tpf P (k / 10) (k % 10) j := ej
          unfold tpf at ej
          by_cases hc : cv P j (k / 10) (k % 10) = true
          · rw [if_pos hc] at ej
            by_cases hjt : j = t
            · subst hjt
              exact absurd (cv_in hc) h5
            · refine ⟨j, hj, ?_⟩
              simp only [rsf, Bool.and_eq_true, Bool.not_eq_true', beq_eq_false_iff_ne, beq_iff_eq]
              rw [cv_c (plc_o hjt), tp_c (plc_o hjt), plc_9]
              exact ⟨⟨hjt, hc⟩, by omega⟩
          · rw [if_neg hc] at ej
            omega
    rw [key]
    simp
  · have h1 : (decide (x ≤ k / 10) && decide (k / 10 < x + axt P t w) && decide (y ≤ k % 10) && decide (k % 10 < y + ayt P t w)) = false := by
      rw [Bool.eq_false_iff]
      intro q
      simp only [Bool.and_eq_true, decide_eq_true_eq] at q
      omega
    have h2 : ((decide (x ≤ k / 10) && decide (k / 10 < x + axt P t w)) && ((decide (y ≤ k % 10) && decide (k % 10 < y + ayt P t w)) && (tpm P (k / 10) (k % 10) == (flr P t x y w).1))) = false := by
      rw [Bool.eq_false_iff]
      intro q
      simp only [Bool.and_eq_true, decide_eq_true_eq] at q
      omega
    rw [h1, h2, Bool.and_false, Bool.and_false]
