theorem restore {w wc : S} (h : fQ (cpP w 0 10 125) wc) : ∃ wd, fX7_copies 10 0 wc = some wd ∧ SM w wd ∧ wd.2 = w.2 ∧ (∀ k, k < 125 → wd.1 1 k = w.1 1 k) ∧ wd.1 4 = wc.1 4 := by
  have hc : fX7_copies 10 0 wc = some (cpP wc 10 0 125) := copies_eq (p := 10) (q := 0) (by omega) (by omega) (by omega)
  have e0 : ∀ k, k < 125 → (cpP wc 10 0 125).1 1 k = w.1 1 k := fun k hk => by
    have h1 := cpP_in (w := wc) (p := 10) (q := 0) hk
    rw [show 125 * 0 + k = k by omega] at h1
    rw [h1, h.1 _ (by omega)]
    have h2 := cpP_in (w := w) (p := 0) (q := 10) hk
    rw [h2, show 125 * 0 + k = k by omega]
  have ej : ∀ k, k = 1 ∨ k = 6 ∨ k = 7 → (cpP wc 10 0 125).1 0 k = w.1 0 k := fun k hk => by
    rw [cpP_ne (by omega), h.2.2.1 k (by omega) (by omega) (by omega) (by omega) (by omega) (by omega) (by omega), cpP_ne (by omega)]
  refine ⟨_, hc, ⟨fun k hk => ?_, ?_, ej 1 (by omega), ej 6 (by omega), ej 7 (by omega)⟩, h.2.2.2, e0, cpP_ne (by omega)⟩
  · by_cases hk1 : k < 125
    · exact e0 k hk1
    · rw [cpP_out (by omega), h.1 k (by omega), cpP_out (by omega)]
  · rw [cpP_ne (by omega), h.2.1 3 (by omega) (by omega) (by omega) (by omega) (by omega) (by omega), cpP_ne (by omega)]
theorem cp10 (w : S) : fX7_copies 0 10 w = some (cpP w 0 10 125) := copies_eq (p := 0) (q := 10) (by omega) (by omega) (by omega)
theorem core0 {w : S} {P : Bx} (hW : WF P) (hM : MR w 0 P) : ∃ wb wc, fX7_ordersUsually (cpP w 0 10 125) = some wb ∧ fX7_packs wb = some wc ∧ MR wc 0 (pkf P (usO (bfr P) (P.1 4)) (P.1 4)) ∧ HoldsO wc 4 (P.1 4) (usO (bfr P) (P.1 4)) ∧ fQ (cpP w 0 10 125) wc := by
  have hn := hW.2.2.2.2.1
  have hMa := copies_MRo (p := 0) (q := 10) (r := 0) hn (by omega) hM
  obtain ⟨wb, b1, b2, b3, b4, b5⟩ := usual_m hW hMa
  obtain ⟨wc, c1, c2, c3⟩ := m_packs hW b2 (usO_Pm (P.1 4)) b5
  exact ⟨wb, wc, b1, c1, c2, fun k hk => by rw [c3.2.1 4 (by omega) (by omega) (by omega)]; exact b5 k hk, (one_fq (fun j x _ _ => b3 j x) b4).trans c3.fq⟩
theorem core1 {w : S} {P : Bx} (hW : WF P) (h5 : P.1 4 ≤ 5) (hM : MR w 0 P) : ∃ wb wc, fX7_ordersBest (cpP w 0 10 125) = some wb ∧ fX7_packs wb = some wc ∧ MR wc 0 (pkf P (bsO P) (P.1 4)) ∧ HoldsO wc 4 (P.1 4) (bsO P) ∧ fQ (cpP w 0 10 125) wc :=
  m_packBest hW h5 (copies_MRo (p := 0) (q := 10) (r := 0) hW.2.2.2.2.1 (by omega) hM)
/-- figures: the reference's answer and the class's -/
theorem m_ifU {w : S} {P : Bx} {x : Nat} (hW : WF P) (hM : MR w 0 P) (hx : x < 4) : ∃ w', fX7_ifPacked 0 (nI x) w = some (fig (pkf P (usO (bfr P) (P.1 4)) (P.1 4)) x, w') ∧ SM w w' ∧ w'.2 = w.2 := by
  obtain ⟨wb, wc, c1, c2, c3, c4, c5⟩ := core0 hW hM
  obtain ⟨wd, d1, d2, d3, d4, d5⟩ := restore c5
  obtain ⟨i1, -⟩ := pkf_inv hW (usO_Pm (bf := bfr P) (P.1 4)) (Nat.le_refl (P.1 4))
  refine ⟨wd, ?_, d2, d3⟩
  have h0 : ¬ nI x < 0 := by rw [show (0 : Int32) = nI 0 from rfl, nlt (by omega) (by omega)]; omega
  have h1 : fX7_in (nI x) 4 9 w = some 0 := by
    simp only [fX7_in]
    rw [if_pos (by rw [show (4 : Int32) = nI 4 from rfl, nlt (by omega) (by omega)]; omega)]
  have h10 : nI x < 10 := by rw [show (10 : Int32) = nI 10 from rfl, nlt (by omega) (by omega)]; omega
  simp only [fX7_ifPacked]
  rw [if_neg h0, h1, Option.bind_some, if_pos rfl, if_pos trivial, if_pos h10, cp10, Option.bind_some, if_pos trivial, c1, Option.bind_some, c2, Option.bind_some, if_pos h10, comesTo_eq i1 c3 rfl hx, Option.bind_some, d1, Option.bind_some]
theorem m_ifB {w : S} {P : Bx} {x : Nat} (hW : WF P) (h5 : P.1 4 ≤ 5) (hM : MR w 0 P) (hx : x < 4) : ∃ w', fX7_ifPacked 1 (nI x) w = some (fig (pkf P (bsO P) (P.1 4)) x, w') ∧ SM w w' ∧ w'.2 = w.2 := by
  obtain ⟨wb, wc, c1, c2, c3, c4, c5⟩ := core1 hW h5 hM
  obtain ⟨wd, d1, d2, d3, d4, d5⟩ := restore c5
  obtain ⟨i1, -⟩ := pkf_inv hW (bsO_Pm P) (Nat.le_refl (P.1 4))
  refine ⟨wd, ?_, d2, d3⟩
  have hn := hW.2.2.2.2.1
  have h0 : ¬ nI x < 0 := by rw [show (0 : Int32) = nI 0 from rfl, nlt (by omega) (by omega)]; omega
  have h1 : fX7_in (nI x) 4 9 w = some 0 := by
    simp only [fX7_in]
    rw [if_pos (by rw [show (4 : Int32) = nI 4 from rfl, nlt (by omega) (by omega)]; omega)]
  have h10 : nI x < 10 := by rw [show (10 : Int32) = nI 10 from rfl, nlt (by omega) (by omega)]; omega
  have q5 : nI (P.1 4) ≤ 5 := by rw [show (5 : Int32) = nI 5 from rfl, nle (by omega) (by omega)]; exact h5
  simp only [fX7_ifPacked]
  rw [if_neg h0, h1, Option.bind_some, if_pos rfl, if_neg (show ¬ (1 : Int32) = 0 by decide), hM.n, Option.bind_some, if_pos q5, if_pos h10, cp10, Option.bind_some, if_neg (show ¬ (1 : Int32) = 0 by decide), c1, Option.bind_some, c2, Option.bind_some, if_pos h10, comesTo_eq i1 c3 rfl hx, Option.bind_some, d1, Option.bind_some]
theorem m_ifUo {w : S} {P : Bx} {x : Nat} (hW : WF P) (hM : MR w 0 P) (hx : 10 ≤ x) (hx2 : x < 2147483648) : ∃ w', fX7_ifPacked 0 (nI x) w = some (if x - 10 < P.1 4 then nI (usO (bfr P) (P.1 4) (x - 10)) else -9, w') ∧ SM w w' ∧ w'.2 = w.2 := by
  obtain ⟨wb, wc, c1, c2, c3, c4, c5⟩ := core0 hW hM
  obtain ⟨wd, d1, d2, d3, d4, d5⟩ := restore c5
  have hn := hW.2.2.2.2.1
  have h0 : ¬ nI x < 0 := by rw [show (0 : Int32) = nI 0 from rfl, nlt (by omega) (by omega)]; omega
  have h1 : fX7_in (nI x) 4 9 w = some 0 := by
    simp only [fX7_in]
    rw [if_neg (by rw [show (4 : Int32) = nI 4 from rfl, nlt (by omega) (by omega)]; omega), if_pos (by rw [show (9 : Int32) = nI 9 from rfl, nlt (by omega) (by omega)]; omega)]
  have h10 : ¬ nI x < 10 := by rw [show (10 : Int32) = nI 10 from rfl, nlt (by omega) (by omega)]; omega
  have hs : nI x - 10 = nI (x - 10) := nsub (b := 10) hx
  simp only [fX7_ifPacked]
  rw [if_neg h0, h1, Option.bind_some, if_pos rfl, if_pos trivial, if_neg h10, hM.n, Option.bind_some, hs]
  by_cases hlt : x - 10 < P.1 4
  · rw [if_pos (by rw [nlt (by omega) (by omega)]; exact hlt), if_pos hlt, cp10, Option.bind_some, if_pos trivial, c1, Option.bind_some, c2, Option.bind_some, if_neg h10, gd_t (inb_n (by omega) (by omega)), d1, Option.bind_some, ncl (by omega), c4 _ hlt]
    exact ⟨wd, rfl, d2, d3⟩
  · rw [if_neg (by rw [nlt (by omega) (by omega)]; exact hlt), if_neg hlt]
    exact ⟨w, rfl, SM.refl w, rfl⟩
theorem m_ifBo {w : S} {P : Bx} {x : Nat} (hW : WF P) (h5 : P.1 4 ≤ 5) (hM : MR w 0 P) (hx : 10 ≤ x) (hx2 : x < 2147483648) : ∃ w', fX7_ifPacked 1 (nI x) w = some (if x - 10 < P.1 4 then nI (bsO P (x - 10)) else -9, w') ∧ SM w w' ∧ w'.2 = w.2 := by
  obtain ⟨wb, wc, c1, c2, c3, c4, c5⟩ := core1 hW h5 hM
  obtain ⟨wd, d1, d2, d3, d4, d5⟩ := restore c5
  have hn := hW.2.2.2.2.1
  have h0 : ¬ nI x < 0 := by rw [show (0 : Int32) = nI 0 from rfl, nlt (by omega) (by omega)]; omega
  have h1 : fX7_in (nI x) 4 9 w = some 0 := by
    simp only [fX7_in]
    rw [if_neg (by rw [show (4 : Int32) = nI 4 from rfl, nlt (by omega) (by omega)]; omega), if_pos (by rw [show (9 : Int32) = nI 9 from rfl, nlt (by omega) (by omega)]; omega)]
  have h10 : ¬ nI x < 10 := by rw [show (10 : Int32) = nI 10 from rfl, nlt (by omega) (by omega)]; omega
  have hs : nI x - 10 = nI (x - 10) := nsub (b := 10) hx
  have q5 : nI (P.1 4) ≤ 5 := by rw [show (5 : Int32) = nI 5 from rfl, nle (by omega) (by omega)]; exact h5
  simp only [fX7_ifPacked]
  rw [if_neg h0, h1, Option.bind_some, if_pos rfl, if_neg (show ¬ (1 : Int32) = 0 by decide), hM.n, Option.bind_some, if_pos q5, if_neg h10, hs, Option.bind_some]
  by_cases hlt : x - 10 < P.1 4
  · rw [if_pos (by rw [nlt (by omega) (by omega)]; exact hlt), if_pos hlt, cp10, Option.bind_some, if_neg (show ¬ (1 : Int32) = 0 by decide), c1, Option.bind_some, c2, Option.bind_some, if_neg h10, gd_t (inb_n (by omega) (by omega)), d1, Option.bind_some, ncl (by omega), c4 _ hlt]
    exact ⟨wd, rfl, d2, d3⟩
  · rw [if_neg (by rw [nlt (by omega) (by omega)]; exact hlt), if_neg hlt]
    exact ⟨w, rfl, SM.refl w, rfl⟩
theorem has_eq {u : S} {P : Bx} {x : Nat} (hn : P.1 4 ≤ 12) (hC : CR u 0 P) (hx : x < 2147483648) : fX0_has 0 (nI x) u = some (if x < P.1 4 then 1 else 0) := by
  simp only [fX0_has, hC.1 4 (show 4 < 5 by omega)]
  rw [if_neg (by rw [show (0 : Int32) = nI 0 from rfl, nlt (by omega) (by omega)]; omega)]
  by_cases h : x < P.1 4
  · rw [if_neg (by rw [nle (by omega) (by omega)]; omega), if_pos h]
  · rw [if_pos (by rw [nle (by omega) (by omega)]; omega), if_neg h]
theorem sim_ifPacked : Sim_ifPacked Rl := by
  intro u w v1 v2 ⟨P, hR⟩ hv1
  have hW := hR.1
  have hM := hR.2.2.1
  have hn := hW.2.2.2.2.1
  have e4 : u.1 (132 + 0) 4 = nI (P.1 4) := hR.2.1.1 4 (by omega)
  rcases n_or v2 with hneg | ⟨x, hx, rfl⟩
  · refine ⟨-1, u, w, ?_, ?_, P, hR⟩
    · have h1 : ¬ (10 : Int32) ≤ v2 := fun q => by
        rw [Int32.le_iff_toInt_le] at q
        rw [Int32.lt_iff_toInt_lt] at hneg
        have a1 : (10 : Int32).toInt = 10 := by decide
        have a2 : (0 : Int32).toInt = 0 := by decide
        omega
      simp only [fX6_ifPacked, fX6_isWithin]
      rw [if_pos hneg, Option.bind_some, if_pos rfl, if_neg h1]
    · simp only [fX7_ifPacked]
      rw [if_pos hneg]
  · have h0 : ¬ nI x < 0 := by rw [show (0 : Int32) = nI 0 from rfl, nlt (by omega) (by omega)]; omega
    have hin : fX6_isWithin (nI x) 0 3 u = some (if x ≤ 3 then 1 else 0) := by
      simp only [fX6_isWithin]
      rw [if_neg h0]
      by_cases h : x ≤ 3
      · rw [if_neg (by rw [show (3 : Int32) = nI 3 from rfl, nlt (by omega) (by omega)]; omega), if_pos h]
      · rw [if_pos (by rw [show (3 : Int32) = nI 3 from rfl, nlt (by omega) (by omega)]; omega), if_neg h]
    by_cases hx3 : x ≤ 3
    · have q4 : ¬ (4 : Int32) ≤ nI x := by rw [show (4 : Int32) = nI 4 from rfl, nle (by omega) (by omega)]; omega
      simp only [fX6_ifPacked, hin, if_pos hx3, Option.bind_some, e4]
      rw [if_neg (show ¬ (1 : Int32) = 0 by decide)]
      rcases hv1 with rfl | rfl
      · obtain ⟨u1, a1, a2, a3, a4, a5, a6⟩ := packUsually_eq hW hR.2.1
        obtain ⟨w', b1, b2, b3⟩ := m_ifU hW hM (show x < 4 by omega)
        rw [if_pos rfl, if_pos rfl, a1, Option.bind_some, if_neg q4, gd_t (inb_n (by omega) (by omega)), ncl (by omega), show (163 + 1 : Nat) = 164 from rfl, a4 x (by omega), b1]
        exact ⟨_, _, _, rfl, rfl, P, hR.scr (frame_sx (fun j h1 h2 h3 h4 => a5 j h1 h2 h3 (by omega) (by omega))) b2⟩
      · rw [if_neg (show ¬ (1 : Int32) = 0 by decide)]
        by_cases h5 : P.1 4 ≤ 5
        · obtain ⟨u1, a1, a2, a3, a4, a5⟩ := packByBest_eq hW h5 hR.2.1
          obtain ⟨w', b1, b2, b3⟩ := m_ifB hW h5 hM (show x < 4 by omega)
          rw [if_pos (by rw [show (5 : Int32) = nI 5 from rfl, nle (by omega) (by omega)]; exact h5), if_neg (show ¬ (1 : Int32) = 0 by decide), a1, Option.bind_some, if_neg q4, gd_t (inb_n (by omega) (by omega)), ncl (by omega), show (163 + 1 : Nat) = 164 from rfl, a4 x (by omega), b1]
          exact ⟨_, _, _, rfl, rfl, P, hR.scr a5.sx b2⟩
        · have h1 : fX7_in (nI x) 4 9 w = some 0 := by
            simp only [fX7_in]
            rw [if_pos (by rw [show (4 : Int32) = nI 4 from rfl, nlt (by omega) (by omega)]; omega)]
          have q5 : ¬ nI (P.1 4) ≤ 5 := by rw [show (5 : Int32) = nI 5 from rfl, nle (by omega) (by omega)]; exact h5
          refine ⟨-2, u, w, by rw [if_neg q5], ?_, P, hR⟩
          simp only [fX7_ifPacked]
          rw [if_neg h0, h1, Option.bind_some, if_pos rfl, if_neg (show ¬ (1 : Int32) = 0 by decide), hM.n, Option.bind_some, if_neg q5]
    · simp only [fX6_ifPacked, hin, if_neg hx3, Option.bind_some, e4]
      rw [if_pos trivial]
      by_cases hx10 : 10 ≤ x
      · have q4 : (4 : Int32) ≤ nI x := by rw [show (4 : Int32) = nI 4 from rfl, nle (by omega) (by omega)]; omega
        have hs : nI x - 10 = nI (x - 10) := nsub (b := 10) hx10
        rw [if_pos (by rw [show (10 : Int32) = nI 10 from rfl, nle (by omega) (by omega)]; exact hx10)]
        rcases hv1 with rfl | rfl
        · obtain ⟨u1, a1, a2, a3, a4, a5, a6⟩ := packUsually_eq hW hR.2.1
          obtain ⟨w', b1, b2, b3⟩ := m_ifUo hW hM hx10 hx
          have hsx : SX u u1 := frame_sx (fun j h1 h2 h3 h4 => a5 j h1 h2 h3 (by omega) (by omega))
          rw [if_pos rfl, if_pos rfl, a1, Option.bind_some, if_pos q4, hs, has_eq hn (hR.2.1.scr (by omega) hn hsx) (by omega), Option.bind_some, b1]
          by_cases hlt : x - 10 < P.1 4
          · rw [if_pos hlt, if_pos hlt, if_neg (show ¬ (1 : Int32) = 0 by decide), gd_t (inb_n (by omega) (by omega)), ncl (by omega), show (163 + 0 : Nat) = 163 from rfl, a3 _ hlt]
            exact ⟨_, _, _, rfl, rfl, P, hR.scr hsx b2⟩
          · rw [if_neg hlt, if_neg hlt, if_pos rfl]
            exact ⟨_, _, _, rfl, rfl, P, hR.scr hsx b2⟩
        · rw [if_neg (show ¬ (1 : Int32) = 0 by decide)]
          by_cases h5 : P.1 4 ≤ 5
          · obtain ⟨u1, a1, a2, a3, a4, a5⟩ := packByBest_eq hW h5 hR.2.1
            obtain ⟨w', b1, b2, b3⟩ := m_ifBo hW h5 hM hx10 hx
            rw [if_pos (by rw [show (5 : Int32) = nI 5 from rfl, nle (by omega) (by omega)]; exact h5), if_neg (show ¬ (1 : Int32) = 0 by decide), a1, Option.bind_some, if_pos q4, hs, has_eq hn (hR.2.1.scr (by omega) hn a5.sx) (by omega), Option.bind_some, b1]
            by_cases hlt : x - 10 < P.1 4
            · rw [if_pos hlt, if_pos hlt, if_neg (show ¬ (1 : Int32) = 0 by decide), gd_t (inb_n (by omega) (by omega)), ncl (by omega), show (163 + 0 : Nat) = 163 from rfl, a3 _ hlt]
              exact ⟨_, _, _, rfl, rfl, P, hR.scr a5.sx b2⟩
            · rw [if_neg hlt, if_neg hlt, if_pos rfl]
              exact ⟨_, _, _, rfl, rfl, P, hR.scr a5.sx b2⟩
          · have h1 : fX7_in (nI x) 4 9 w = some 0 := by
              simp only [fX7_in]
              rw [if_neg (by rw [show (4 : Int32) = nI 4 from rfl, nlt (by omega) (by omega)]; omega), if_pos (by rw [show (9 : Int32) = nI 9 from rfl, nlt (by omega) (by omega)]; omega)]
            have q5 : ¬ nI (P.1 4) ≤ 5 := by rw [show (5 : Int32) = nI 5 from rfl, nle (by omega) (by omega)]; exact h5
            refine ⟨-2, u, w, by rw [if_neg q5], ?_, P, hR⟩
            simp only [fX7_ifPacked]
            rw [if_neg h0, h1, Option.bind_some, if_pos rfl, if_neg (show ¬ (1 : Int32) = 0 by decide), hM.n, Option.bind_some, if_neg q5]
      · have h1 : fX7_in (nI x) 4 9 w = some 1 := by
          simp only [fX7_in]
          rw [if_neg (by rw [show (4 : Int32) = nI 4 from rfl, nlt (by omega) (by omega)]; omega), if_neg (by rw [show (9 : Int32) = nI 9 from rfl, nlt (by omega) (by omega)]; omega)]
        refine ⟨-1, u, w, ?_, ?_, P, hR⟩
        · rw [if_neg (by rw [show (10 : Int32) = nI 10 from rfl, nle (by omega) (by omega)]; exact hx10)]
        · simp only [fX7_ifPacked]
          rw [if_neg h0, h1, Option.bind_some, if_neg (show ¬ (1 : Int32) = 0 by decide)]
