theorem anyb_iff {n : Nat} {f : Nat → Bool} : anyb n f = true ↔ ∃ j, j < n ∧ f j = true := by
  unfold anyb
  rw [List.any_eq_true]
  constructor
  · rintro ⟨x, h1, h2⟩
    exact ⟨x, List.mem_range.mp h1, h2⟩
  · rintro ⟨x, h1, h2⟩
    exact ⟨x, List.mem_range.mpr h1, h2⟩
/-- trays i of Q and j of P are alike, but for their turns, where they are in the box -/
def alk (Q P : Bx) (i j : Nat) : Prop := Q.2 i 5 = P.2 j 5 ∧ (Q.2 i 5 = 1 → ∀ k, k ≠ 3 → Q.2 i k = P.2 j k)
theorem alk_ax {Q P : Bx} {i j : Nat} (h : alk Q P i j) (h5 : Q.2 i 5 = 1) : ax Q i = ax P j ∧ ay Q i = ay P j ∧ tp Q i = tp P j := by
  have e := h.2 h5
  simp only [ax, ay, axt, ayt, tp, tl, e 0 (by omega), e 1 (by omega), e 2 (by omega), e 4 (by omega), e 6 (by omega), e 9 (by omega)]
  exact ⟨trivial, trivial, trivial⟩
theorem alk_cv {Q P : Bx} {i j : Nat} (h : alk Q P i j) (x y : Nat) : cv Q i x y = cv P j x y := by
  by_cases h5 : Q.2 i 5 = 1
  · have e := h.2 h5
    have h6 := alk_ax h h5
    simp only [cv, e 5 (by omega), e 7 (by omega), e 8 (by omega), h6.1, h6.2.1]
  · have h5' : ¬ P.2 j 5 = 1 := by rw [← h.1]; exact h5
    have e1 : (Q.2 i 5 == 1) = false := by simpa using h5
    have e2 : (P.2 j 5 == 1) = false := by simpa using h5'
    simp only [cv, e1, e2, Bool.false_and]
theorem cv_in {P : Bx} {i x y : Nat} (h : cv P i x y = true) : P.2 i 5 = 1 := by
  simp only [cv, Bool.and_eq_true, beq_iff_eq] at h
  exact h.1
theorem rs_map {P Q : Bx} (σ : Nat → Nat) (h : ∀ i, i < Q.1 4 → alk Q P i (σ i)) (hin : ∀ i, i < Q.1 4 → σ i < P.1 4) (hinj : ∀ i j, i < Q.1 4 → j < Q.1 4 → σ i = σ j → i = j) (hon : ∀ j, j < P.1 4 → P.2 j 5 = 1 → ∃ i, i < Q.1 4 ∧ σ i = j) {i : Nat} (hi : i < Q.1 4) (h5 : Q.2 i 5 = 1) : rs Q i = rs P (σ i) := by
  refine fb_ct_cong (fun k _ => ?_)
  have e9 := (h i hi).2 h5 9 (by omega)
  simp only [sup, e9, alk_cv (h i hi)]
  congr 2
  rw [Bool.eq_iff_iff, anyb_iff, anyb_iff]
  constructor
  · rintro ⟨j, hj, hx⟩
    simp only [Bool.and_eq_true, Bool.not_eq_true', beq_eq_false_iff_ne, beq_iff_eq] at hx
    refine ⟨σ j, hin j hj, ?_⟩
    have hj5 := cv_in hx.1.2
    simp only [Bool.and_eq_true, Bool.not_eq_true', beq_eq_false_iff_ne, beq_iff_eq]
    exact ⟨⟨fun q => hx.1.1 (hinj j i hj hi q), by rw [← alk_cv (h j hj)]; exact hx.1.2⟩, by rw [← (alk_ax (h j hj) hj5).2.2]; exact hx.2⟩
  · rintro ⟨j, hj, hx⟩
    simp only [Bool.and_eq_true, Bool.not_eq_true', beq_eq_false_iff_ne, beq_iff_eq] at hx
    obtain ⟨a, ha, rfl⟩ := hon j hj (cv_in hx.1.2)
    have hc : cv Q a (k / 10) (k % 10) = true := by rw [alk_cv (h a ha)]; exact hx.1.2
    refine ⟨a, ha, ?_⟩
    simp only [Bool.and_eq_true, Bool.not_eq_true', beq_eq_false_iff_ne, beq_iff_eq]
    exact ⟨⟨fun q => hx.1.1 (by rw [q]), hc⟩, by rw [(alk_ax (h a ha) (cv_in hc)).2.2]; exact hx.2⟩
theorem alk.refl (P : Bx) (i : Nat) : alk P P i i := ⟨rfl, fun _ _ _ => rfl⟩
theorem mt_alk {Q P : Bx} {i j a b : Nat} (h1 : alk Q P i a) (h2 : alk Q P j b) (g1 : Q.2 i 5 = 1) (g2 : Q.2 j 5 = 1) : mt Q i j = mt P a b := by
  have e1 := h1.2 g1
  have e2 := h2.2 g2
  have f1 := alk_ax h1 g1
  have f2 := alk_ax h2 g2
  simp only [mt, e1 7 (by omega), e1 8 (by omega), e2 7 (by omega), e2 8 (by omega), f1.1, f1.2.1, f2.1, f2.2.1]
/-- a tray's cell after another number has been put there, read as another P -/
theorem CT_up {u : S} {b : Nat} {P Q : Bx} {i : Nat} (h : CT u b P i) (hr : Q.2 i 5 = 1 → rs Q i = rs P i) (h5 : Q.2 i 5 = P.2 i 5) (hk : ∀ k, Q.2 i k = P.2 i k) : CT u b Q i := by
  refine ⟨fun k hk7 => by rw [hk k]; exact h.1 k hk7, fun g => ?_⟩
  have g' : P.2 i 5 = 1 := by rw [← h5]; exact g
  have e : ax Q i = ax P i ∧ ay Q i = ay P i ∧ tp Q i = tp P i := by simp [ax, ay, axt, ayt, tp, tl, hk]
  rw [hr g, e.1, e.2.1, e.2.2, hk 7, hk 8, hk 9]
  exact h.2 g'
/-- P with tray i's number k as v -/
def wth (P : Bx) (i k v : Nat) : Bx := (P.1, fun a b => if a = i ∧ b = k then v else P.2 a b)
theorem wth_alk {P : Bx} {i k v : Nat} (h : k = 3 ∨ (P.2 i 5 = 0 ∧ k ≠ 5)) (a : Nat) : alk (wth P i k v) P a a := by
  refine ⟨by simp only [wth]; rw [if_neg (by omega)], fun h5 c hc => ?_⟩
  simp only [wth] at h5 ⊢
  rw [if_neg (by omega)] at h5
  rw [if_neg]
  rintro ⟨rfl, rfl⟩
  omega
theorem wth_RR {P : Bx} {u w : S} (h : RR P u w) {i k v : Nat} (hi : i < P.1 4) (hk : (k = 3 ∧ v ≤ 9) ∨ (k = 4 ∧ v ≤ 1 ∧ P.2 i 5 = 0)) : RR (wth P i k v) (up u (12 * 0 + i) k (nI v)) (up w 1 (5 + 10 * i + k) (nI v)) := by
  have hn := h.1.2.2.2.2.1
  have hal : ∀ a, alk (wth P i k v) P a a := wth_alk (by omega)
  have h5 : ∀ a, (wth P i k v).2 a 5 = P.2 a 5 := fun a => (hal a).1
  refine h.mod ?_ ?_ ?_ ?_ ?_ (fun a ha h0 => by
    have hz := h.2.2.2.2.2 a ha
    rw [h5] at h0
    show (if a = i ∧ 6 = k then v else P.2 a 6) = 0
    rw [if_neg (by omega)]
    exact hz h0)
  · obtain ⟨p0, p1, p2, p3, p4, p5, p6⟩ := h.1
    refine ⟨p0, p1, p2, p3, p4, fun a ha => ?_, fun a b ha hb hab g1 g2 hm => ?_⟩
    · have h1 := p5 a ha
      by_cases hai : a = i
      · subst hai
        rcases hk with ⟨rfl, hv⟩ | ⟨rfl, hv, h0⟩
        · unfold WT at h1 ⊢
          simp [wth, ax, ay, axt, ayt, tp, tl] at h1 ⊢
          omega
        · unfold WT at h1 ⊢
          simp [wth, ax, ay, axt, ayt, tp, tl, h0] at h1 ⊢
          omega
      · unfold WT at h1 ⊢
        simp [wth, ax, ay, axt, ayt, tp, tl, hai] at h1 ⊢
        omega
    · have f1 := alk_ax (hal a) g1
      have f2 := alk_ax (hal b) g2
      rw [f1.2.2, f2.2.2, (hal a).2 g1 9 (by omega), (hal b).2 g2 9 (by omega)]
      rw [mt_alk (hal a) (hal b) g1 g2] at hm
      exact p6 a b ha hb hab (by rw [← h5]; exact g1) (by rw [← h5]; exact g2) hm
  · refine ⟨fun a ha => ?_, fun a ha => ?_⟩
    · rw [up_ne _ _ _ _ (by omega)]
      exact h.2.1.1 a ha
    · have ha : a < P.1 4 := ha
      have h1 := h.2.1.2 a ha
      have hrs : (wth P i k v).2 a 5 = 1 → rs (wth P i k v) a = rs P a := fun g => rs_map (P := P) (Q := wth P i k v) (fun x => x) (fun x _ => hal x) (fun _ h => h) (fun _ _ _ _ h => h) (fun j hj _ => ⟨j, hj, rfl⟩) ha g
      refine ⟨fun c hc => ?_, fun g => ?_⟩
      · simp only [up, wth]
        by_cases hz : a = i ∧ c = k
        · rw [if_pos (by omega), if_pos hz]
        · rw [if_neg (by omega), if_neg hz]
          exact h1.1 c hc
      · have g' : P.2 a 5 = 1 := by rw [← h5]; exact g
        have f1 := alk_ax (hal a) g
        have e := (hal a).2 g
        have hx : ∀ c, 7 ≤ c → (up u (12 * 0 + i) k (nI v)).1 (12 * 0 + a) c = u.1 (12 * 0 + a) c := fun c hc => by
          simp only [up]
          rw [if_neg (by omega)]
        rw [hrs g, f1.1, f1.2.1, f1.2.2, e 7 (by omega), e 8 (by omega), e 9 (by omega), hx 7 (by omega), hx 8 (by omega), hx 9 (by omega), hx 10 (by omega), hx 11 (by omega), hx 12 (by omega), hx 13 (by omega)]
        exact h1.2 g'
  · refine ⟨fun a ha => ?_, fun a c ha hc => ?_⟩
    · simp only [up]
      rw [if_neg (by omega)]
      exact h.2.2.1.1 a ha
    · have ha : a < P.1 4 := ha
      rw [up_at]
      by_cases hz : a = i ∧ c = k
      · rw [if_pos (by omega)]
        simp only [wth]
        rw [if_pos hz]
      · rw [if_neg (by omega)]
        simp only [wth]
        rw [if_neg hz]
        exact h.2.2.1.2 a c ha hc
  · refine ⟨fun j h1 _ _ => up_ne _ _ _ _ (by unfold inB at h1; omega), ?_, ?_⟩
    · rw [up_ne _ _ _ _ (by omega)]
    · rw [up_ne _ _ _ _ (by omega)]
  · refine ⟨fun a h1 _ => ?_, up_ne _ _ _ _ (by omega), ?_, ?_, ?_⟩
    · simp only [up]
      rw [if_neg (by omega)]
    · rw [up_ne _ _ _ _ (by omega)]
    · rw [up_ne _ _ _ _ (by omega)]
    · rw [up_ne _ _ _ _ (by omega)]
theorem sim_setTray : Sim_setTray Rl := by
  intro u w a b c ⟨P, hR⟩
  have hn := hR.1.2.2.2.2.1
  rcases has_tray a hn hR.2.1 hR.2.2.1 with ⟨h, g⟩ | ⟨i, rfl, hi, h, g⟩
  · exact ⟨-1, u, w, by simp only [fX6_setTray, h, Option.bind_some]; rfl, by simp only [fX7_setTray, g, Option.bind_some]; rfl, P, hR⟩
  have n10 : ¬ (1 : Int32) = 0 := by decide
  rcases witn (v := b) (A := 0) (B := 1) (a := 0) (b := 1) rfl rfl (by omega) (by omega) with k | ⟨x, rfl, -, hx, k⟩
  · exact ⟨-1, u, w, by simp only [fX6_setTray, h, Option.bind_some, (k u w).1]; rfl, by simp only [fX7_setTray, g, Option.bind_some, (k u w).2]; rfl, P, hR⟩
  have hc5 := (hR.2.1.2 i hi).1 5 (by omega)
  have h51 := hR.1.in1 i hi
  have hisin := hR.2.2.1.isIn hR.1 (v := nI i) rfl hi
  have a0 : ((12 : Nat) * 0 + (nI i).toNatClampNeg) = 12 * 0 + i := by rw [ncl (by omega)]
  obtain ⟨u1, w1, h1, h2, hR1, k1, k2⟩ := record_sim hR
  rcases (show x = 0 ∨ x = 1 by omega) with rfl | rfl
  · have e0 : nI 0 = (0 : Int32) := rfl
    have e1 : ¬ nI 0 = (1 : Int32) := by decide
    rcases witn (v := c) (A := 0) (B := 9) (a := 0) (b := 9) rfl rfl (by omega) (by omega) with q | ⟨y, rfl, -, hy, q⟩
    · refine ⟨-1, u, w, ?_, ?_, P, hR⟩
      · simp only [fX6_setTray, h, Option.bind_some, (k u w).1, (q u w).1]
        rw [if_neg n10, if_neg n10, if_pos e0, if_pos trivial]
      · simp only [fX7_setTray, g, Option.bind_some, (k u w).2, (q u w).2]
        rw [if_neg n10, if_neg n10, if_pos e0, if_pos trivial]
    · refine ⟨nI (P.2 i 3), _, _, ?_, ?_, _, wth_RR (i := i) (k := 3) (v := y) hR1 hi (Or.inl ⟨rfl, hy⟩)⟩
      · simp only [fX6_setTray, h, Option.bind_some, (k u w).1, (q u w).1, h1, nm_k, a0]
        rw [if_neg n10, if_neg n10, if_pos e0, if_neg n10, gd_t (inb_n (by omega) (by omega)), if_neg e1, if_pos e0, if_pos e0, (hR.2.1.2 i hi).1 3 (by omega)]
      · simp only [fX7_setTray, g, Option.bind_some, (k u w).2, (q u w).2, h2]
        rw [if_neg n10, if_neg n10, if_pos e0, if_neg n10, if_neg e1, hR1.2.2.1.of hn rfl (show 3 + nI 0 = nI 3 from rfl) hi (by omega), sets_at rfl (show 3 + nI 0 = nI 3 from rfl) (by omega)]
        rfl
  · have e0 : ¬ nI 1 = (0 : Int32) := by decide
    have e1 : nI 1 = (1 : Int32) := rfl
    rcases witn (v := c) (A := 0) (B := 1) (a := 0) (b := 1) rfl rfl (by omega) (by omega) with q | ⟨y, rfl, -, hy, q⟩
    · refine ⟨-1, u, w, ?_, ?_, P, hR⟩
      · simp only [fX6_setTray, h, Option.bind_some, (k u w).1, (q u w).1]
        rw [if_neg n10, if_neg n10, if_neg e0, if_pos trivial]
      · simp only [fX7_setTray, g, Option.bind_some, (k u w).2, (q u w).2]
        rw [if_neg n10, if_neg n10, if_neg e0, if_pos trivial]
    · rcases (show P.2 i 5 = 0 ∨ P.2 i 5 = 1 by omega) with h0 | h0
      · refine ⟨nI (P.2 i 4), _, _, ?_, ?_, _, wth_RR (i := i) (k := 4) (v := y) hR1 hi (Or.inr ⟨rfl, hy, h0⟩)⟩
        · simp only [fX6_setTray, h, Option.bind_some, (k u w).1, (q u w).1, h1, nm_k, a0, hc5, h0]
          rw [if_neg n10, if_neg n10, if_neg e0, if_neg n10, gd_t (inb_n (by omega) (by omega)), if_pos e1, if_pos nI_0, if_neg e0, if_neg e0, (hR.2.1.2 i hi).1 4 (by omega)]
        · simp only [fX7_setTray, g, Option.bind_some, (k u w).2, (q u w).2, h2, hisin, h0]
          rw [if_neg n10, if_neg n10, if_neg e0, if_neg n10, if_pos e1, if_pos (by decide), hR1.2.2.1.of hn rfl (show 3 + nI 1 = nI 4 from rfl) hi (by omega), sets_at rfl (show 3 + nI 1 = nI 4 from rfl) (by omega)]
          rfl
      · refine ⟨-2, u, w, ?_, ?_, P, hR⟩
        · simp only [fX6_setTray, h, Option.bind_some, (k u w).1, (q u w).1, h1, nm_k, a0, hc5, h0]
          rw [if_neg n10, if_neg n10, if_neg e0, if_neg n10, gd_t (inb_n (by omega) (by omega)), if_pos e1, if_neg (by decide)]
        · simp only [fX7_setTray, g, Option.bind_some, (k u w).2, (q u w).2, h2, hisin, h0]
          rw [if_neg n10, if_neg n10, if_neg e0, if_neg n10, if_pos e1, if_neg (by decide)]
