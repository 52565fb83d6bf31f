theorem am0_iff {P : Bx} {t : Nat} : (nI (am P (fun _ => true) t) = 0) ↔ am P (fun _ => true) t = 0 := by
  have hlt : am P (fun _ => true) t < 4096 := am_lt
  rw [show (0 : Int32) = nI 0 from rfl, neq (by omega) (by omega)]
theorem tray_eq {P : Bx} {u w : S} (h : RR P u w) (a b : Int32) : ∃ r, fX6_tray a b u = some r ∧ fX7_tray a b w = some r := by
  obtain ⟨hW, hC, hM, -, -⟩ := h
  have hn := hW.2.2.2.2.1
  simp only [fX6_tray, fX7_tray]
  rcases has_tray (b := 0) a hn hC hM with ⟨h1, h2⟩ | ⟨i, rfl, hi, h1, h2⟩
  · rw [h1, h2, Option.bind_some, Option.bind_some, if_pos rfl, if_pos rfl]
    exact ⟨_, rfl, rfl⟩
  rw [h1, h2, Option.bind_some, Option.bind_some, if_neg (show ¬ (1 : Int32) = 0 by decide), if_neg (show ¬ (1 : Int32) = 0 by decide)]
  rcases witn (v := b) (A := 0) (B := 15) (a := 0) (b := 15) rfl rfl (by omega) (by omega) with g | ⟨x, rfl, -, hx, g⟩
  · rw [(g u w).1, (g u w).2, Option.bind_some, Option.bind_some, if_pos rfl, if_pos rfl]
    exact ⟨_, rfl, rfl⟩
  rw [(g u w).1, (g u w).2, Option.bind_some, Option.bind_some, if_neg (show ¬ (1 : Int32) = 0 by decide), if_neg (show ¬ (1 : Int32) = 0 by decide)]
  have h51 := hW.in1 i hi
  have c7 := (hC.2 i hi).1
  have ge : ∀ v : Option Int32, gd (inb (nI i) 12) v = v := fun v => gd_t (inb_n (by omega) (by omega))
  simp only [ge, ncl (show i < 2147483648 by omega)]
  by_cases hx7 : 7 ≤ x
  · have q7 : (7 : Int32) ≤ nI x := by rw [show (7 : Int32) = nI 7 from rfl, nle (by omega) (by omega)]; exact hx7
    rw [if_pos q7, if_pos q7, c7 5 (by omega)]
    rcases (show P.2 i 5 = 0 ∨ P.2 i 5 = 1 by omega) with h5 | h5
    · rw [hM.isIn0 hW rfl hi (by omega), h5, if_pos nI_0, Option.bind_some, if_pos rfl]
      exact ⟨_, rfl, rfl⟩
    · obtain ⟨e7, e8, e9, e10, e11, e12, e13⟩ := (hC.2 i hi).2 h5
      obtain ⟨m, i1, i2, i3, i4⟩ := inside_bc hW hC
      have hab := above_ab hW hC i2 i3 hi
      rw [hM.isIn1 hW rfl hi h5, h5, if_neg (by decide), Option.bind_some, if_neg (by decide)]
      simp only [fX6_placedProperty, ge, ncl (show i < 2147483648 by omega), e7, e8, e11, e12, e13, i1, Option.bind_some, hab, bc_pc _ ab_lt, faultOf_eq hW hC hi, isFree_eq hW hC hi, hM.of hn (v1 := nI i) (v2 := nI x) rfl rfl hi, m_top hn hM (v := nI i) rfl hi, m_lift hW hM (v := nI i) rfl hi, m_fault hW hM (v := nI i) rfl hi, m_above hW hM (v := nI i) rfl hi, m_rests hW hM (v := nI i) rfl hi h5]
      rcases (show x = 7 ∨ x = 8 ∨ x = 9 ∨ x = 10 ∨ x = 11 ∨ x = 12 ∨ x = 13 ∨ x = 14 ∨ x = 15 by omega) with rfl | rfl | rfl | rfl | rfl | rfl | rfl | rfl | rfl
      · exact ⟨_, rfl, by rw [if_pos (by rfl), hM.of hn (v1 := nI i) (v2 := nI 7) rfl rfl hi (by omega)]; rfl⟩
      · exact ⟨_, rfl, by rw [if_neg (by decide), if_pos (by rfl), hM.of hn (v1 := nI i) (v2 := nI 8) rfl rfl hi (by omega)]; rfl⟩
      · exact ⟨_, rfl, by rw [if_neg (by decide), if_neg (by decide), if_pos (by rfl), hM.of hn (v1 := nI i) (v2 := nI 9) rfl rfl hi (by omega)]; rfl⟩
      · exact ⟨_, rfl, rfl⟩
      · exact ⟨_, rfl, rfl⟩
      · exact ⟨_, rfl, rfl⟩
      · by_cases hz : am P (fun _ => true) i = 0
        · refine ⟨1, ?_, ?_⟩
          · show ((if (if msk (fun k => lo P k i) (P.1 4) = 0 then (1 : Int32) else 0) = 0 then some (0 : Int32) else some 1).bind fun q => some q) = _
            rw [if_pos ((am_zero hn).mp hz), if_neg (by decide)]
            rfl
          · show (if nI (am P (fun _ => true) i) = 0 then some (1 : Int32) else some 0) = _
            rw [if_pos (am0_iff.mpr hz)]
        · refine ⟨0, ?_, ?_⟩
          · show ((if (if msk (fun k => lo P k i) (P.1 4) = 0 then (1 : Int32) else 0) = 0 then some (0 : Int32) else some 1).bind fun q => some q) = _
            rw [if_neg (fun q => hz ((am_zero hn).mpr q)), if_pos rfl]
            rfl
          · show (if nI (am P (fun _ => true) i) = 0 then some (1 : Int32) else some 0) = _
            rw [if_neg (fun q => hz (am0_iff.mp q))]
      · exact ⟨_, rfl, rfl⟩
      · exact ⟨_, rfl, rfl⟩
  · rw [if_neg (by rw [show (7 : Int32) = nI 7 from rfl, nle (by omega) (by omega)]; omega), if_neg (by rw [show (7 : Int32) = nI 7 from rfl, nle (by omega) (by omega)]; omega), hM.of hn (v1 := nI i) (v2 := nI x) rfl rfl hi (by omega)]
    have h6 := (hW.2.2.2.2.2.1 i hi).2.2.2.2.2.2.1
    simp only [fX5_property]
    rcases (show x = 0 ∨ x = 1 ∨ x = 2 ∨ x = 3 ∨ x = 4 ∨ x = 5 ∨ x = 6 by omega) with rfl | rfl | rfl | rfl | rfl | rfl | rfl
    · exact ⟨_, by rw [if_pos (by rfl), c7 0 (by omega)]; rfl, rfl⟩
    · exact ⟨_, by rw [if_neg (by decide), if_pos (by rfl), c7 1 (by omega)]; rfl, rfl⟩
    · exact ⟨_, by rw [if_neg (by decide), if_neg (by decide), if_pos (by rfl), c7 2 (by omega)]; rfl, rfl⟩
    · exact ⟨_, by rw [if_neg (by decide), if_neg (by decide), if_neg (by decide), if_pos (by rfl), c7 3 (by omega)]; rfl, rfl⟩
    · exact ⟨_, by rw [if_neg (by decide), if_neg (by decide), if_neg (by decide), if_neg (by decide), if_pos (by rfl), c7 4 (by omega)]; rfl, rfl⟩
    · rw [if_neg (show ¬ nI 5 = 0 by decide), if_neg (show ¬ nI 5 = 1 by decide), if_neg (show ¬ nI 5 = 2 by decide), if_neg (show ¬ nI 5 = 3 by decide), if_neg (show ¬ nI 5 = 4 by decide), if_pos (show nI 5 = 5 from rfl), c7 5 (by omega)]
      rcases (show P.2 i 5 = 0 ∨ P.2 i 5 = 1 by omega) with h5 | h5 <;> rw [h5] <;> exact ⟨_, rfl, rfl⟩
    · rw [if_neg (show ¬ nI 6 = 0 by decide), if_neg (show ¬ nI 6 = 1 by decide), if_neg (show ¬ nI 6 = 2 by decide), if_neg (show ¬ nI 6 = 3 by decide), if_neg (show ¬ nI 6 = 4 by decide), if_neg (show ¬ nI 6 = 5 by decide), c7 6 (by omega)]
      rcases (show P.2 i 6 = 0 ∨ P.2 i 6 = 1 by omega) with h5 | h5 <;> rw [h5] <;> exact ⟨_, rfl, rfl⟩
theorem sim_tray : Sim_tray Rl := by
  intro u w a b ⟨P, hR⟩
  obtain ⟨r, h1, h2⟩ := tray_eq hR a b
  exact ⟨r, h1, h2, P, hR⟩
/-! one tray other -/
theorem cv_c {P Q : Bx} {a : Nat} (h : Q.2 a = P.2 a) (x y : Nat) : cv Q a x y = cv P a x y := by unfold cv ax ay axt ayt; rw [h]
theorem tp_c {P Q : Bx} {a : Nat} (h : Q.2 a = P.2 a) : tp Q a = tp P a := by simp only [tp, tl, h]
theorem mt_c {P Q : Bx} {a b : Nat} (h : Q.2 a = P.2 a) (g : Q.2 b = P.2 b) : mt Q a b = mt P a b := by unfold mt ax ay axt ayt; rw [h, g]
theorem lo_c {P Q : Bx} {a b : Nat} (h : Q.2 a = P.2 a) (g : Q.2 b = P.2 b) : lo Q a b = lo P a b := by simp only [lo, mt_c h g, tp_c g, h, g]
theorem mt_cv {P : Bx} {i j x y : Nat} (h : cv P i x y = true) (g : cv P j x y = true) : mt P i j = true := by
  simp only [cv, Bool.and_eq_true, decide_eq_true_eq] at h g
  simp only [mt, Bool.and_eq_true, decide_eq_true_eq]
  omega
theorem rs_wo {P Q : Bx} {t j : Nat} (h0 : Q.1 4 = P.1 4) (ho : ∀ a, a ≠ t → Q.2 a = P.2 a) (hjt : j ≠ t) (hP : P.2 t 5 = 1 → mt P j t = true → tp P t ≠ P.2 j 9) (hQ : Q.2 t 5 = 1 → mt Q j t = true → tp Q t ≠ Q.2 j 9) : rs Q j = rs P j := by
  have ej := ho j hjt
  refine fb_ct_cong (fun k _ => ?_)
  rw [sup_eq, sup_eq, cv_c ej, ej, h0]
  by_cases hc : cv P j (k / 10) (k % 10) = true
  · have hc' : cv Q j (k / 10) (k % 10) = true := by rw [cv_c ej]; exact hc
    congr 2
    rw [Bool.eq_iff_iff, anyb_iff, anyb_iff]
    constructor
    · rintro ⟨a, ha, hx⟩
      simp only [rsf, Bool.and_eq_true, Bool.not_eq_true', beq_eq_false_iff_ne, beq_iff_eq] at hx
      by_cases hat : a = t
      · subst hat
        exact absurd hx.2 (hQ (cv_in hx.1.2) (mt_cv hc' hx.1.2))
      · refine ⟨a, ha, ?_⟩
        simp only [rsf, Bool.and_eq_true, Bool.not_eq_true', beq_eq_false_iff_ne, beq_iff_eq]
        rw [← cv_c (ho a hat), ← tp_c (ho a hat), ← ej]
        exact hx
    · rintro ⟨a, ha, hx⟩
      simp only [rsf, Bool.and_eq_true, Bool.not_eq_true', beq_eq_false_iff_ne, beq_iff_eq] at hx
      by_cases hat : a = t
      · subst hat
        exact absurd hx.2 (hP (cv_in hx.1.2) (mt_cv hc hx.1.2))
      · refine ⟨a, ha, ?_⟩
        simp only [rsf, Bool.and_eq_true, Bool.not_eq_true', beq_eq_false_iff_ne, beq_iff_eq]
        rw [cv_c (ho a hat), tp_c (ho a hat), ej]
        exact hx
  · rw [Bool.not_eq_true] at hc
    rw [hc, Bool.and_false, Bool.and_false]
/-- P with tray t out -/
def out (P : Bx) (t : Nat) : Bx := (P.1, fun a k => if a = t ∧ 5 ≤ k then 0 else P.2 a k)
theorem out_o {P : Bx} {t a : Nat} (h : a ≠ t) : (out P t).2 a = P.2 a := by
  funext k
  simp [out, h]
theorem out_WF {P : Bx} {t : Nat} (h : WF P) : WF (out P t) := by
  refine ⟨h.1, h.2.1, h.2.2.1, h.2.2.2.1, h.2.2.2.2.1, fun i hi => ?_, fun i j hi hj hij h5 h5j hm => ?_⟩
  · have := h.2.2.2.2.2.1 i hi
    by_cases hit : i = t
    · subst hit
      unfold WT at this ⊢
      simp only [out]
      simp
      omega
    · unfold WT ax ay axt ayt tp tl at this ⊢
      rw [out_o hit]
      exact this
  · have hit : i ≠ t := fun q => by simp [out, q] at h5
    have hjt : j ≠ t := fun q => by simp [out, q] at h5j
    rw [tp_c (out_o hit), tp_c (out_o hjt), out_o hit, out_o hjt]
    rw [out_o hit] at h5
    rw [out_o hjt] at h5j
    rw [mt_c (out_o hit) (out_o hjt)] at hm
    exact h.2.2.2.2.2.2 i j hi hj hij h5 h5j hm
theorem no_lo {P : Bx} {t : Nat} (hz : msk (fun k => lo P k t) (P.1 4) = 0) {j : Nat} (hj : j < P.1 4) : lo P j t = false := by
  have := msk_bit (fun k => lo P k t) j (P.1 4)
  rw [hz, Nat.zero_testBit] at this
  simpa [hj] using this.symm
theorem sim_takeOut : Sim_takeOut Rl := by
  intro u w a ⟨P, hR⟩
  obtain ⟨hW, hC, hM, hH, hT⟩ := hR
  have hR : RR P u w := ⟨hW, hC, hM, hH, hT⟩
  have hn := hW.2.2.2.2.1
  rcases has_tray (b := 0) a hn hC hM with ⟨h1, h2⟩ | ⟨i, rfl, hi, h1, h2⟩
  · exact ⟨-1, u, w, by simp only [fX6_takeOut, h1, Option.bind_some]; rfl, by simp only [fX7_takeOut, h2, Option.bind_some]; rfl, P, hR⟩
  have ge : ∀ v : Option (Int32 × S), gd (inb (nI i) 12) v = v := fun v => gd_t (inb_n (by omega) (by omega))
  have h51 := hW.in1 i hi
  have c5 := (hC.2 i hi).1 5 (by omega)
  simp only [fX6_takeOut, fX7_takeOut, h1, h2, Option.bind_some, ge, ncl (show i < 2147483648 by omega), c5]
  rw [if_neg (show ¬ (1 : Int32) = 0 by decide), if_neg (show ¬ (1 : Int32) = 0 by decide)]
  rcases (show P.2 i 5 = 0 ∨ P.2 i 5 = 1 by omega) with h5 | h5
  · refine ⟨-2, u, w, by rw [h5]; rfl, by rw [hM.isIn0 hW rfl hi (by omega)]; rfl, P, hR⟩
  · rw [hM.isIn1 hW rfl hi h5, h5, if_neg (by decide), isFree_eq hW hC hi, m_above hW hM rfl hi, Option.bind_some, Option.bind_some, Option.bind_some, if_neg (show ¬ (1 : Int32) = 0 by decide)]
    by_cases hz : msk (fun k => lo P k i) (P.1 4) = 0
    · rw [if_pos hz, if_neg (show ¬ (1 : Int32) = 0 by decide), if_pos (am0_iff.mpr ((am_zero hn).mpr hz))]
      obtain ⟨u1, w1, g1, g2, hR1, k1, k2⟩ := record_sim hR
      have hC1 := hR1.2.1
      have hM1 := hR1.2.2.1
      refine ⟨nI (P.2 i 9), up (up u1 (12 * 0 + i) 5 0) (12 * 0 + i) 6 0, lvW w1 i 10, ?_, ?_, out P i, hR1.mod (out_WF hW) ⟨fun k hk => ?_, fun j hj => ?_⟩ ⟨fun k hk => ?_, fun j k hj hk => ?_⟩ ?_ ?_ (fun j hj h0 => by
        show (if j = i ∧ 5 ≤ 6 then 0 else P.2 j 6) = 0
        by_cases hji : j = i
        · rw [if_pos ⟨hji, by omega⟩]
        · rw [if_neg (fun q => hji q.1)]
          have h0 : (if j = i ∧ 5 ≤ 5 then 0 else P.2 j 5) = 0 := h0
          rw [if_neg (fun q => hji q.1)] at h0
          exact hR1.2.2.2.2.2 j hj h0)⟩
      · rw [g1, Option.bind_some, leave_eq, Option.bind_some, up_at, up_at, if_neg (by omega), if_neg (by omega), ((hC1.2 i hi).2 h5).2.2.2.2.1]
      · rw [g2, Option.bind_some, hM1.of hn (v1 := nI i) rfl (show (9 : Int32) = nI 9 from rfl) hi (by omega), Option.bind_some, leaves_eq rfl (by omega)]
        rfl
      · rw [up_ne _ _ _ _ (by omega), up_ne _ _ _ _ (by omega)]
        exact hC1.1 k hk
      · have hj : j < P.1 4 := hj
        by_cases hji : j = i
        · subst hji
          refine ⟨fun k hk => ?_, fun q => ?_⟩
          · have := (hC1.2 j hj).1 k hk
            rw [up_at, up_at]
            by_cases k5 : 5 ≤ k
            · show _ = nI (if j = j ∧ 5 ≤ k then 0 else P.2 j k)
              rw [if_pos (c := j = j ∧ 5 ≤ k) ⟨rfl, k5⟩]
              by_cases k6 : k = 6
              · rw [if_pos (by omega)]; rfl
              · rw [if_neg (by omega), if_pos (by omega)]; rfl
            · show _ = nI (if j = j ∧ 5 ≤ k then 0 else P.2 j k)
              rw [if_neg (by omega), if_neg (by omega), if_neg (by omega)]
              exact this
          · simp [out] at q
        · have := hC1.2 j hj
          unfold CT at this ⊢
          have er : P.2 j 5 = 1 → rs (out P i) j = rs P j := fun j5 => rs_wo rfl (fun a ha => out_o ha) hji (fun q1 q2 q3 => by
            have := no_lo hz hj
            simp [lo, j5, h5, q2, q3] at this) (fun q1 => by simp [out] at q1)
          have ea : ax (out P i) j = ax P j ∧ ay (out P i) j = ay P j := by
            unfold ax ay axt ayt
            rw [out_o hji]
            exact ⟨rfl, rfl⟩
          rw [up_ne _ _ _ _ (by omega), up_ne _ _ _ _ (by omega), tp_c (out_o hji), ea.1, ea.2, out_o hji]
          exact ⟨this.1, fun q => by rw [er q]; exact this.2 q⟩
      · simp only [lvW]
        rw [if_neg (by omega)]
        exact hM1.1 k hk
      · have hj : j < P.1 4 := hj
        have := hM1.2 j k hj hk
        simp only [lvW, out]
        by_cases hji : j = i ∧ 5 ≤ k
        · rw [if_pos ⟨trivial, by omega, by omega⟩, if_pos hji]
          rfl
        · rw [if_neg (by omega), if_neg hji]
          exact this
      · exact ⟨fun j h1 _ _ => by unfold inB at h1; rw [up_ne _ _ _ _ (by omega), up_ne _ _ _ _ (by omega)], by rw [up_ne _ _ _ _ (by omega), up_ne _ _ _ _ (by omega)], by rw [up_ne _ _ _ _ (by omega), up_ne _ _ _ _ (by omega)]⟩
      · have e : ∀ j, j ≠ 1 → (lvW w1 i 10).1 j = w1.1 j := fun j hj => by
          funext k
          simp only [lvW]
          rw [if_neg (by omega)]
        exact ⟨fun k h1 _ => by simp only [lvW]; rw [if_neg (by omega)], e 3 (by omega), by rw [e 0 (by omega)], by rw [e 0 (by omega)], by rw [e 0 (by omega)]⟩
    · rw [if_neg hz, if_pos rfl, if_neg (fun q => hz ((am_zero hn).mp (am0_iff.mp q)))]
      exact ⟨-2, u, w, rfl, rfl, P, hR⟩
