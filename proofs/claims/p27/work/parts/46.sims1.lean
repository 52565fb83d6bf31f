theorem n_of {v : Int32} {b : Nat} (h0 : ¬ v < 0) (hb : b < 2147483648) (h1 : ¬ nI b < v) : ∃ x, v = nI x ∧ x ≤ b := by
  have h0' : ¬ v.toInt < 0 := fun q => h0 (Int32.lt_iff_toInt_lt.mpr q)
  have h1' : ¬ (nI b).toInt < v.toInt := fun q => h1 (Int32.lt_iff_toInt_lt.mpr q)
  rw [nI_toInt hb] at h1'
  refine ⟨v.toInt.toNat, ?_, by omega⟩
  rw [← Int32.toInt_inj, nI_toInt (by omega)]
  omega
theorem witn {v A B : Int32} {a b : Nat} (hA : A = nI a) (hB : B = nI b) (hab : a ≤ b) (hb : b < 2147483648) : (∀ u w : S, fX6_isWithin v A B u = some 0 ∧ fX7_in v A B w = some 0) ∨ ∃ x, v = nI x ∧ a ≤ x ∧ x ≤ b ∧ ∀ u w : S, fX6_isWithin v A B u = some 1 ∧ fX7_in v A B w = some 1 := by
  subst hA; subst hB
  by_cases h1 : v < nI a
  · left
    intro u w
    simp only [fX6_isWithin, fX7_in]
    rw [if_pos h1]
    exact ⟨rfl, rfl⟩
  · by_cases h2 : nI b < v
    · left
      intro u w
      simp only [fX6_isWithin, fX7_in]
      rw [if_neg h1, if_pos h2]
      exact ⟨rfl, rfl⟩
    · right
      have h0 : ¬ v < 0 := fun h => h1 (by
        have h3 : v.toInt < 0 := Int32.lt_iff_toInt_lt.mp h
        rw [Int32.lt_iff_toInt_lt, nI_toInt (by omega)]
        omega)
      obtain ⟨x, rfl, hx⟩ := n_of h0 hb h2
      refine ⟨x, rfl, ?_, hx, fun u w => ?_⟩
      · rw [nlt (by omega) (by omega)] at h1
        omega
      · simp only [fX6_isWithin, fX7_in]
        rw [if_neg h1, if_neg h2]
        exact ⟨rfl, rfl⟩
theorem has_n {u : S} {b : Nat} {P : Bx} {i : Nat} (hn : P.1 4 ≤ 12) (h : CR u b P) (hi : i < P.1 4) : fX0_has b (nI i) u = some 1 := by
  simp only [fX0_has, h.1 4 (by omega)]
  rw [show (0 : Int32) = nI 0 from rfl, if_neg (by rw [nlt (by omega) (by omega)]; omega), if_neg (by rw [nle (by omega) (by omega)]; omega)]
theorem has_tray {u w : S} {b : Nat} {P : Bx} (v : Int32) (hn : P.1 4 ≤ 12) (h : CR u b P) (hM : MR w 0 P) : (fX0_has b v u = some 0 ∧ fX7_isTray v w = some 0) ∨ ∃ i, v = nI i ∧ i < P.1 4 ∧ fX0_has b v u = some 1 ∧ fX7_isTray v w = some 1 := by
  simp only [fX7_isTray, hM.n, Option.bind_some, fX7_in, fX0_has, h.1 4 (show 4 < 5 by omega)]
  by_cases h0 : v < 0
  · left
    rw [if_pos h0, if_pos h0]
    exact ⟨rfl, rfl⟩
  · rw [if_neg h0, if_neg h0]
    by_cases hz : P.1 4 = 0
    · left
      rw [hz]
      have h1 : nI 0 ≤ v := by
        rw [Int32.le_iff_toInt_le, show (nI 0).toInt = 0 from rfl]
        have : ¬ v.toInt < 0 := fun q => h0 (Int32.lt_iff_toInt_lt.mpr q)
        omega
      have h2 : nI 0 - 1 < v := by
        rw [Int32.lt_iff_toInt_lt, show (nI 0 - 1).toInt = -1 from rfl]
        have : ¬ v.toInt < 0 := fun q => h0 (Int32.lt_iff_toInt_lt.mpr q)
        omega
      rw [if_pos h1, if_pos h2]
      exact ⟨rfl, rfl⟩
    · rw [show nI (P.1 4) - 1 = nI (P.1 4 - 1) from nsub (a := P.1 4) (b := 1) (by omega)]
      by_cases h1 : nI (P.1 4 - 1) < v
      · left
        have h2 : nI (P.1 4) ≤ v := by
          rw [Int32.le_iff_toInt_le, nI_toInt (by omega)]
          rw [Int32.lt_iff_toInt_lt, nI_toInt (by omega)] at h1
          omega
        rw [if_pos h1, if_pos h2]
        exact ⟨rfl, rfl⟩
      · right
        obtain ⟨i, rfl, hi⟩ := n_of h0 (by omega) h1
        refine ⟨i, rfl, by omega, ?_, ?_⟩
        · rw [if_neg (by rw [nle (by omega) (by omega)]; omega)]
        · rw [if_neg h1]
          rfl
theorem kept_CR {P : Bx} {u u' : S} (hn : P.1 4 ≤ 12) (h : CR u 0 P) (hk : keptX u u') : CR u' 0 P := CR_of hn h (fun j hj => hk j (Or.inl hj))
/-- setShare -/
theorem sim_setShare : Sim_setShare Rl := by
  intro u w a ⟨P, hR⟩
  rcases witn (v := a) (A := 0) (B := 100) (a := 0) (b := 100) rfl rfl (by omega) (by omega) with h | ⟨x, rfl, -, hx, h⟩
  · exact ⟨-1, u, w, by simp only [fX6_setShare, (h u w).1, Option.bind_some]; rfl, by simp only [fX7_setShare, (h u w).2, Option.bind_some]; rfl, P, hR⟩
  · obtain ⟨u1, w1, h1, h2, hR1, k1, k2⟩ := record_sim hR
    have hn := hR.1.2.2.2.2.1
    have e3 : w1.1 1 3 = nI (P.1 3) := hR1.2.2.1.at (by omega)
    refine ⟨nI (P.1 3), up u1 (132 + 0) 3 (nI x), up w1 1 3 (nI x), ?_, ?_, (fun k => if k = 3 then x else P.1 k, P.2), hR1.mod ?_ ?_ ?_ ?_ ?_ hR.2.2.2.2.2⟩
    · simp only [fX6_setShare, (h u w).1, Option.bind_some, h1, nm_k]
      rw [if_neg (by decide), hR.2.1.1 3 (by omega)]
    · simp only [fX7_setShare, (h u w).2, Option.bind_some, h2, nm_k]
      rw [if_neg (by decide), gd_t (by decide), gd_t (by decide), show (3 : Int32).toNatClampNeg = 3 from rfl, e3]
    · obtain ⟨p0, p1, p2, p3, p4, p5, p6⟩ := hR.1
      exact ⟨p0, p1, p2, hx, p4, p5, p6⟩
    · refine ⟨fun k hk => ?_, fun i hi => ?_⟩
      · simp only [up]
        by_cases h3 : k = 3
        · subst h3
          simp
        · rw [if_neg (by omega), if_neg h3]
          exact hR1.2.1.1 k hk
      · have := hR1.2.1.2 i hi
        have hi : i < P.1 4 := hi
        unfold CT at this ⊢
        rw [up_ne _ _ _ _ (by omega)]
        exact this
    · refine ⟨fun k hk => ?_, fun i k hi hk => ?_⟩
      · simp only [up]
        by_cases h3 : k = 3
        · subst h3
          simp
        · rw [if_neg (by omega), if_neg h3]
          exact hR1.2.2.1.1 k hk
      · simp only [up]
        rw [if_neg (by omega)]
        exact hR1.2.2.1.2 i k hi hk
    · exact ⟨fun j h1 _ _ => up_ne _ _ _ _ (by unfold inB at h1; omega), by simp [up], by simp [up]⟩
    · refine ⟨fun k h1 _ => ?_, up_ne _ _ _ _ (by omega), by simp [up], by simp [up], by simp [up]⟩
      simp only [up]
      rw [if_neg (by omega)]
set_option maxRecDepth 100000 in
theorem chr_k : ∀ c, c < 127 → vp_nar .char ((nI c).toUInt32 % 65536).toInt32 = nI c := by decide +kernel
/-- type -/
theorem sim_type : Sim_type Rl := by
  intro u w a ⟨P, hW, hC, hM, hH, ⟨len, t1, t2, t3, t4, t5⟩, hzz⟩
  rcases witn (v := a) (A := 32) (B := 126) (a := 32) (b := 126) rfl rfl (by omega) (by omega) with h | ⟨x, rfl, hx1, hx2, h⟩
  · exact ⟨-1, u, w, by simp only [fX6_type, (h u w).1, Option.bind_some]; rfl, by simp only [fX7_type, (h u w).2, Option.bind_some]; rfl, P, hW, hC, hM, hH, ⟨len, t1, t2, t3, t4, t5⟩, hzz⟩
  · by_cases hl : len = 100
    · subst hl
      refine ⟨-3, u, w, ?_, ?_, P, hW, hC, hM, hH, ⟨100, t1, t2, t3, t4, t5⟩, hzz⟩
      · simp only [fX6_type, (h u w).1, Option.bind_some, t2]
        rw [if_neg (by decide), if_neg (by decide)]
      · simp only [fX7_type, (h u w).2, Option.bind_some, t3]
        rw [if_neg (by decide), if_pos (by decide)]
    · have hu : fX4_append (((nI x).toUInt32 % 65536).toInt32) u = some (up (up u 161 len (nI x)) 160 0 (nI (len + 1))) := by
        simp only [fX4_append, t2]
        rw [show (100 : Int32) = nI 100 from rfl, if_neg (by rw [nle (by omega) (by omega)]; omega), gd_t (inb_n (by omega) (by omega)), ncl (by omega), chr_k x (by omega)]
        simp only [nm_k]
        have : (up u 161 len (nI x)).1 160 0 = nI len := by simp [up, t2]
        rw [this, show nI len + 1 = nI (len + 1) from nadd len 1]
      have hw : fX7_type (nI x) w = some (nI (len + 1), up (up w 3 len (nI x)) 0 6 (nI (len + 1))) := by
        simp only [fX7_type, (h u w).2, Option.bind_some, t3]
        rw [if_neg (by decide), show (100 : Int32) = nI 100 from rfl, if_neg (by rw [neq (by omega) (by omega)]; exact hl), gd_t (inb_n (by omega) (by omega)), ncl (by omega)]
        simp only [nm_k]
        have : (up w 3 len (nI x)).1 0 6 = nI len := by simp [up, t3]
        rw [this, show nI len + 1 = nI (len + 1) from nadd len 1]
        simp [up]
      refine ⟨nI (len + 1), up (up u 161 len (nI x)) 160 0 (nI (len + 1)), up (up w 3 len (nI x)) 0 6 (nI (len + 1)), ?_, hw, P, hW, ?_, ?_, ?_, ⟨len + 1, by omega, by simp [up], by simp [up], fun i hi => ?_, ?_⟩, hzz⟩
      · simp only [fX6_type, (h u w).1, Option.bind_some, t2]
        rw [if_neg (by decide), show (100 : Int32) = nI 100 from rfl, if_pos (by rw [nlt (by omega) (by omega)]; omega), hu]
        simp [up]
      · exact CR_of hW.2.2.2.2.1 hC (fun j hj => by unfold inB at hj; rw [up_ne _ _ _ _ (by omega), up_ne _ _ _ _ (by omega)])
      · exact MR_of hW.2.2.2.2.1 hM (fun k hk => by rw [up_ne _ _ _ _ (by omega), up_ne _ _ _ _ (by omega)])
      · obtain ⟨n, o, hn, ho, p1, p2, p3, p4⟩ := hH
        refine ⟨n, o, hn, ho, by simp [up, p1], by simp [up, p2], by simp [up, p3], fun k hk => ?_⟩
        obtain ⟨Q, q1, q2, q3, q4⟩ := p4 k hk
        exact ⟨Q, q1, CR_of q1.2.2.2.2.1 q2 (fun j hj => by unfold inB at hj; rw [up_ne _ _ _ _ (by omega), up_ne _ _ _ _ (by omega)]), MR_of q1.2.2.2.2.1 q3 (fun k hk => by rw [up_ne _ _ _ _ (by omega), up_ne _ _ _ _ (by omega)]), q4⟩
      · by_cases hi2 : i = len
        · subst hi2
          exact ⟨x, hx1, hx2, by simp [up], by simp [up]⟩
        · obtain ⟨c, c1, c2, c3, c4⟩ := t4 i (by omega)
          exact ⟨c, c1, c2, by simp [up, hi2, c3], by simp [up, hi2, c4]⟩
      · simp [up, t5]
theorem sim_clearText : Sim_clearText Rl := by
  intro u w ⟨P, hW, hC, hM, hH, ⟨len, t1, t2, t3, t4, t5⟩, hzz⟩
  refine ⟨nI len, up u 160 0 0, up w 0 6 0, by simp only [fX6_clearText, nm_k, t2], by simp only [fX7_clearText, nm_k, t3], P, hW, ?_, ?_, ?_, ⟨0, by omega, by simp [up]; rfl, by simp [up]; rfl, fun i hi => absurd hi (by omega), by simp [up, t5]⟩, hzz⟩
  · exact CR_of hW.2.2.2.2.1 hC (fun j hj => by unfold inB at hj; rw [up_ne _ _ _ _ (by omega)])
  · exact MR_of hW.2.2.2.2.1 hM (fun k hk => by rw [up_ne _ _ _ _ (by omega)])
  · obtain ⟨n, o, hn, ho, p1, p2, p3, p4⟩ := hH
    refine ⟨n, o, hn, ho, by simp [up, p1], by simp [up, p2], by simp [up, p3], fun k hk => ?_⟩
    obtain ⟨Q, q1, q2, q3, q4⟩ := p4 k hk
    exact ⟨Q, q1, CR_of q1.2.2.2.2.1 q2 (fun j hj => by unfold inB at hj; rw [up_ne _ _ _ _ (by omega)]), MR_of q1.2.2.2.2.1 q3 (fun k hk => by rw [up_ne _ _ _ _ (by omega)]), q4⟩
theorem sim_faultKind : Sim_faultKind Rl := by
  intro u w ⟨P, hW, hC, hM, hH, ⟨len, t1, t2, t3, t4, t5⟩, hzz⟩
  exact ⟨w.1 0 7, by simp only [fX6_faultKind, t5], rfl, P, hW, hC, hM, hH, ⟨len, t1, t2, t3, t4, t5⟩, hzz⟩
theorem clear_MX {u : S} {n : Nat} (hn : n ≤ 12) : MX u (clX u 0 n) := ⟨fun j h1 _ _ => clX_out hn h1, by rw [clX_out hn (by unfold inB; omega)], by rw [clX_out hn (by unfold inB; omega)]⟩
theorem emW_MM {w : S} {n : Nat} (hn : n ≤ 12) : MM w (emW w n) := by
  have h : ∀ j, j ≠ 1 → (emW w n).1 j = w.1 j := fun j hj => by
    funext k
    simp only [emW]
    rw [if_neg (by omega)]
  refine ⟨fun k h1 _ => ?_, h 3 (by omega), by rw [h 0 (by omega)], by rw [h 0 (by omega)], by rw [h 0 (by omega)]⟩
  simp only [emW]
  rw [if_neg (by omega)]
/-- what empties a box -/
theorem RR.empty {P : Bx} {u w : S} (h : RR P u w) : fX0_clear 0 u = some (clX u 0 (P.1 4)) ∧ fX7_empties w = some (emW w (P.1 4)) ∧ RR (emp P) (clX u 0 (P.1 4)) (emW w (P.1 4)) := by
  have hn := h.1.2.2.2.2.1
  exact ⟨clear_eq (by omega) hn (h.2.1.1 4 (by omega)), empties_eq hn h.2.2.1, h.mod (emp_WF h.1) (clear_CR (by omega) hn h.2.1) (empties_MR hn h.2.2.1) (clear_MX hn) (emW_MM hn) (fun _ _ _ => rfl)⟩
theorem sim_empty : Sim_empty Rl := by
  intro u w ⟨P, hR⟩
  obtain ⟨m, i1, i2, i3, i4⟩ := inside_bc hR.1 hR.2.1
  obtain ⟨u1, w1, h1, h2, hR1, k1, k2⟩ := record_sim hR
  obtain ⟨e1, e2, e3⟩ := hR1.empty
  refine ⟨nI (inC P), _, _, ?_, ?_, _, e3⟩
  · simp only [fX6_empty, i1, Option.bind_some, i4, h1, e1]
  · simp only [fX7_empty, h2, Option.bind_some, inBox_eq hR1.1 hR1.2.2.1, e2]
/-- setBox -/
theorem sim_setBox : Sim_setBox Rl := by
  intro u w a b c ⟨P, hR⟩
  rcases witn (v := a) (A := 2) (B := 10) (a := 2) (b := 10) rfl rfl (by omega) (by omega) with h | ⟨x, rfl, hx1, hx2, h⟩
  · exact ⟨-1, u, w, by simp only [fX6_setBox, (h u w).1, Option.bind_some]; rfl, by simp only [fX7_setBox, (h u w).2, Option.bind_some]; rfl, P, hR⟩
  rcases witn (v := b) (A := 2) (B := 10) (a := 2) (b := 10) rfl rfl (by omega) (by omega) with g | ⟨y, rfl, hy1, hy2, g⟩
  · exact ⟨-1, u, w, by simp only [fX6_setBox, (h u w).1, (g u w).1, Option.bind_some]; rfl, by simp only [fX7_setBox, (h u w).2, (g u w).2, Option.bind_some]; rfl, P, hR⟩
  rcases witn (v := c) (A := 1) (B := 30) (a := 1) (b := 30) rfl rfl (by omega) (by omega) with k | ⟨z, rfl, hz1, hz2, k⟩
  · exact ⟨-1, u, w, by simp only [fX6_setBox, (h u w).1, (g u w).1, (k u w).1, Option.bind_some]; rfl, by simp only [fX7_setBox, (h u w).2, (g u w).2, (k u w).2, Option.bind_some]; rfl, P, hR⟩
  obtain ⟨m, i1, i2, i3, i4⟩ := inside_bc hR.1 hR.2.1
  obtain ⟨u1, w1, h1, h2, hR1, k1, k2⟩ := record_sim hR
  obtain ⟨e1, e2, e3⟩ := hR1.empty
  obtain ⟨v, hv⟩ : ∃ v, v = clX u1 0 (P.1 4) := ⟨_, rfl⟩
  obtain ⟨t, ht⟩ : ∃ t, t = emW w1 (P.1 4) := ⟨_, rfl⟩
  rw [← hv] at e1 e3
  rw [← ht] at e2 e3
  refine ⟨nI (inC P), up (up (up v (132 + 0) 0 (nI x)) (132 + 0) 1 (nI y)) (132 + 0) 2 (nI z), up (up (up t 1 0 (nI x)) 1 1 (nI y)) 1 2 (nI z), ?_, ?_, (fun k => if k = 0 then x else if k = 1 then y else if k = 2 then z else P.1 k, (emp P).2), e3.mod ?_ ?_ ?_ ?_ ?_ (fun _ _ _ => rfl)⟩
  · simp only [fX6_setBox, (h u w).1, (g u w).1, (k u w).1, Option.bind_some, i1, i4, h1, e1, nm_k]
    rfl
  · simp only [fX7_setBox, (h u w).2, (g u w).2, (k u w).2, Option.bind_some, h2, inBox_eq hR1.1 hR1.2.2.1, e2, nm_k]
    rw [if_neg (by decide), if_neg (by decide), if_neg (by decide), gd_t (by decide), gd_t (by decide), gd_t (by decide)]
    rfl
  · obtain ⟨p0, p1, p2, p3, p4, p5, p6⟩ := emp_WF hR.1
    refine ⟨⟨hx1, hx2⟩, ⟨hy1, hy2⟩, ⟨hz1, hz2⟩, p3, p4, fun i hi => ?_, fun i j hi hj _ h5 => ?_⟩
    · have := p5 i hi
      unfold WT at this ⊢
      simp only [emp] at this ⊢
      simp at this ⊢
      omega
    · simp [emp] at h5
  · refine ⟨fun k hk => ?_, fun i hi => ?_⟩
    · have h0 := e3.2.1.1 k hk
      simp only [up]
      rcases (show k = 0 ∨ k = 1 ∨ k = 2 ∨ k = 3 ∨ k = 4 by omega) with rfl | rfl | rfl | rfl | rfl <;> simp [emp] at h0 ⊢ <;> exact h0
    · have := e3.2.1.2 i hi
      have hi : i < P.1 4 := hi
      have hn := hR.1.2.2.2.2.1
      refine ⟨fun k hk => ?_, fun h5 => ?_⟩
      · rw [up_ne _ _ _ _ (by omega), up_ne _ _ _ _ (by omega), up_ne _ _ _ _ (by omega)]
        exact this.1 k hk
      · simp [emp] at h5
  · refine ⟨fun k hk => ?_, fun i k hi hk => ?_⟩
    · have h0 := e3.2.2.1.1 k hk
      simp only [up]
      rcases (show k = 0 ∨ k = 1 ∨ k = 2 ∨ k = 3 ∨ k = 4 by omega) with rfl | rfl | rfl | rfl | rfl <;> simp [emp] at h0 ⊢ <;> exact h0
    · simp only [up]
      rw [if_neg (by omega), if_neg (by omega), if_neg (by omega)]
      exact e3.2.2.1.2 i k hi hk
  · refine ⟨fun j h1 _ _ => ?_, by simp [up], by simp [up]⟩
    unfold inB at h1
    rw [up_ne _ _ _ _ (by omega), up_ne _ _ _ _ (by omega), up_ne _ _ _ _ (by omega)]
  · refine ⟨fun k h1 _ => ?_, ?_, by simp [up], by simp [up], by simp [up]⟩
    · simp only [up]
      rw [if_neg (by omega), if_neg (by omega), if_neg (by omega)]
    · rw [up_ne _ _ _ _ (by omega), up_ne _ _ _ _ (by omega), up_ne _ _ _ _ (by omega)]
