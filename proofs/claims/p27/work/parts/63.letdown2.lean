theorem out_neg {u w : S} {P : Bx} {t : Nat} {v2 v3 v4 : Int32} (hW : WF P) (hC : CR u 0 P) (hM : MR w 0 P) (ht : t < P.1 4) (h : v2 < 0 ∨ v3 < 0) (h4 : v4 = 0 ∨ v4 = 1) : fX0_encloses 0 (12 * 0 + t) v2 v3 v4 u = some 0 ∧ fX7_isInside (nI t) v2 v3 v4 w = some 0 := by
  have e4 : ∃ k, k ≤ 1 ∧ v4 = nI k := by
    rcases h4 with h4 | h4
    · exact ⟨0, by omega, h4⟩
    · exact ⟨1, by omega, h4⟩
  obtain ⟨k, hk, rfl⟩ := e4
  constructor
  · simp only [fX0_encloses, (along_eq hC ht hk).1, (along_eq hC ht hk).2, Option.bind_some]
    by_cases h2 : v2 < 0
    · rw [if_pos h2]
    · rw [if_neg h2]
      split
      · rfl
      · rw [if_pos (h.resolve_left h2)]
  · simp only [fX7_isInside]
    by_cases h2 : v2 < 0
    · rw [if_pos h2]
    · rw [if_neg h2, if_pos (h.resolve_left h2)]
theorem hs_sx {u : S} {g : Nat} {F : Nat → Nat} {p : Nat × Nat} (hg : g ≤ 1) : SX u (hs (tT u g F) g p) := by
  have e : ∀ j, ¬ scrC j → (hs (tT u g F) g p).1 j = u.1 j := fun j hj => by
    unfold scrC at hj
    rw [hs_ne (by omega), tT_ne (by omega)]
  exact ⟨fun j hj _ => e j hj, by rw [e 160 (by unfold scrC; omega)], by rw [e 160 (by unfold scrC; omega)]⟩
theorem ms_sm {w : S} {F : Nat → Nat} {p : Nat × Nat} : SM w (ms (tW w F) p) := by
  have e0 : ∀ k, k = 1 ∨ k = 6 ∨ k = 7 → (ms (tW w F) p).1 0 k = w.1 0 k := fun k hk => by
    rw [ms_k (by omega) (by omega), tW_ne (by omega)]
  exact ⟨fun k _ => by rw [ms_ne (by omega), tW_ne (by omega)], by rw [ms_ne (by omega), tW_ne (by omega)], e0 1 (by omega), e0 6 (by omega), e0 7 (by omega)⟩
theorem sim_letDown : Sim_letDown Rl := by
  intro u w a v2 v3 v4 ⟨P, hR⟩ h4
  obtain ⟨hW, hC, hM, hH, hT⟩ := hR
  have hR : RR P u w := ⟨hW, hC, hM, hH, hT⟩
  have hn := hW.2.2.2.2.1
  simp only [fX6_letDown, fX7_letDown]
  rcases has_tray (b := 0) a hn hC hM with ⟨h1, h2⟩ | ⟨i, rfl, hi, h1, h2⟩
  · rw [h1, h2, Option.bind_some, Option.bind_some, if_pos rfl, if_pos rfl]
    exact ⟨_, _, _, rfl, rfl, P, hR⟩
  rw [h1, h2, Option.bind_some, Option.bind_some, if_neg (show ¬ (1 : Int32) = 0 by decide), if_neg (show ¬ (1 : Int32) = 0 by decide)]
  have ge : ∀ v : Option (Int32 × S), gd (inb (nI i) 12) v = v := fun v => gd_t (inb_n (by omega) (by omega))
  simp only [ge, ncl (show i < 2147483648 by omega)]
  have hneg : v2 < 0 ∨ v3 < 0 → ∃ r u' w', ((fX0_encloses 0 (12 * 0 + i) v2 v3 v4 u).bind fun q3 => if q3 = 0 then some ((-1 : Int32), u) else none) = some (r, u') ∧ ((fX7_isInside (nI i) v2 v3 v4 w).bind fun q3 => if q3 = 0 then some ((-1 : Int32), w) else none) = some (r, w') := fun h => by
    rw [(out_neg hW hC hM hi h h4).1, (out_neg hW hC hM hi h h4).2]
    exact ⟨_, _, _, rfl, rfl⟩
  rcases n_or v2 with hv2 | ⟨x, hx, rfl⟩
  · rw [(out_neg hW hC hM hi (Or.inl hv2) h4).1, (out_neg hW hC hM hi (Or.inl hv2) h4).2, Option.bind_some, Option.bind_some, if_pos rfl, if_pos rfl]
    exact ⟨_, _, _, rfl, rfl, P, hR⟩
  rcases n_or v3 with hv3 | ⟨y, hy, rfl⟩
  · rw [(out_neg hW hC hM hi (Or.inr hv3) h4).1, (out_neg hW hC hM hi (Or.inr hv3) h4).2, Option.bind_some, Option.bind_some, if_pos rfl, if_pos rfl]
    exact ⟨_, _, _, rfl, rfl, P, hR⟩
  obtain ⟨tw, htw, rfl⟩ : ∃ k, k ≤ 1 ∧ v4 = nI k := by
    rcases h4 with h4 | h4
    · exact ⟨0, by omega, h4⟩
    · exact ⟨1, by omega, h4⟩
  rw [encl_n hW hC hi htw hx hy, m_inside_n hW hM hi htw hx hy, Option.bind_some, Option.bind_some]
  by_cases he : x + axt P i tw ≤ P.1 0 ∧ y + ayt P i tw ≤ P.1 1
  · have w0 := hW.1
    have w1 := hW.2.1
    have w2 := hW.2.2.1
    have htl := tl_le hW hi
    have h51 := hW.in1 i hi
    rw [if_pos he, if_neg (show ¬ (1 : Int32) = 0 by decide), if_neg (show ¬ (1 : Int32) = 0 by decide), (hC.2 i hi).1 5 (show 5 < 7 by omega)]
    rcases (show P.2 i 5 = 0 ∨ P.2 i 5 = 1 by omega) with h5 | h5
    · have h5' : ¬ P.2 i 5 = 1 := by omega
      have hC1 := tT_CR (g := 0) (F := tpF P) (show 0 < 11 by omega) hn hC
      have hM1 := tW_MR (F := tpW P) hn hM
      obtain ⟨p', q1, q2⟩ := holds_eq (g := 0) (v6 := nI (P.1 2) - nI (tl P i)) (h := hi1 P i none) hW hC1 (show 0 < 11 by omega) hi htw (fun k hk => tT_at hk) (subI (by omega) (by omega)) hx hy
      rw [hok_fits (c := none) (fun d hd => by cases hd)] at q1 q2
      have hf : (fits P i x y tw && lower (flr P i x y tw).1 none) = cok P i x y tw := by
        unfold fits lower
        rw [decide_eq_true he]
        simp
      rw [hf] at q1 q2
      have hcan := can_eq hW hM1 hi htw (fun k hk => tW_at hk) (show x + axt P i tw ≤ 10 by omega) (show y + ayt P i tw ≤ 10 by omega)
      rw [hM.isIn0 hW rfl hi h5', h5, if_pos nI_0, survey_eq hW hC (by omega), Option.bind_some, Option.bind_some, if_pos rfl, laysTops_eq hW hM, Option.bind_some]
      simp only [fX0_highestFloor, tall_eq hC1 hi, Option.bind_some, hC1.1 2 (show 2 < 5 by omega), q1, hcan]
      by_cases hc : cok P i x y tw = true
      · have hp := q2 hc
        subst hp
        have hft : (flr P i x y tw).1 + tl P i ≤ P.1 2 := by
          simp only [cok, Bool.and_eq_true, decide_eq_true_eq] at hc
          exact hc.1
        obtain ⟨u2, w2', r1, r2, hR2, kx, km⟩ := record_sim (hR.scr (hs_sx (F := tpF P) (p := flr P i x y tw) (show (0 : Nat) ≤ 1 by omega)) (ms_sm (F := tpW P) (p := flr P i x y tw)))
        have x1 : u2.1 (154 + 0) 1 = nI (flr P i x y tw).1 := by rw [kx 154 (by unfold scrC; omega)]; exact hs_1 (g := 0)
        have x2 : u2.1 (154 + 0) 2 = nI (flr P i x y tw).2 := by rw [kx 154 (by unfold scrC; omega)]; exact hs_2 (g := 0)
        obtain ⟨u3, l1, l2, l3, l4, l5⟩ := lie_CR (b := 0) (by omega) hR2.2.1 hn hi htw (plc_rs hW hi h5' he.1 he.2) (fun j hj hji j5 => plc_rs_o hW hi hj h5' hji j5)
        rw [hc, if_neg (show ¬ b01 true = 0 by decide), if_neg (show ¬ b01 true = 0 by decide), r1, r2, Option.bind_some, Option.bind_some, x1, x2, l1, Option.bind_some, l5]
        have hfin : ∀ vt : Int32, vt = nI tw → ∃ w', ((fX7_comes (nI i) (nI x) (nI y) vt w2').bind fun q7 => (fX7_of (nI i) 9 q7).bind fun q8 => some (q8, q7)) = some (nI (flr P i x y tw).1, w') ∧ RR (plc P i x y tw) u3 w' := fun vt hvt => by
          obtain ⟨w3, c1, c2, c3, c4, c5, c6⟩ := comes_eq hW hR2.2.2.1 hi htw (v := nI i) rfl rfl rfl hvt he.1 he.2
          have hWp := plc_WF hW hi h5' htw he.1 he.2 hft
          refine ⟨w3, ?_, hR2.mod hWp l2 c2 ?_ ?_ (fun j hj h0 => by
            by_cases hji : j = i
            · subst hji
              rw [plc_5] at h0
              omega
            · rw [plc_o hji] at h0 ⊢
              exact hR2.2.2.2.2.2 j hj h0)⟩
          · rw [c1, Option.bind_some, c2.of (P := plc P i x y tw) hn (v1 := nI i) rfl (show (9 : Int32) = nI 9 from rfl) hi (by omega), Option.bind_some, plc_9]
          · have : ∀ j, ¬ inB 0 j → u3.1 j = u2.1 j := fun j hj => l3 j (by unfold inB at hj; omega)
            exact ⟨fun j hj _ _ => this j hj, by rw [this 160 (by unfold inB; omega)], by rw [this 160 (by unfold inB; omega)]⟩
          · exact ⟨fun k hk _ => c3 k hk, c4 3 (by omega) (by omega) (by omega), c5 1 (by omega) (by omega), c5 6 (by omega) (by omega), c5 7 (by omega) (by omega)⟩
        rcases (show tw = 0 ∨ tw = 1 by omega) with rfl | rfl
        · obtain ⟨w', f1, f2⟩ := hfin 0 rfl
          rw [if_pos (show nI 0 = 0 from rfl), f1]
          exact ⟨_, _, _, rfl, rfl, _, f2⟩
        · obtain ⟨w', f1, f2⟩ := hfin 1 rfl
          rw [if_neg (show ¬ nI 1 = 0 by decide), f1]
          exact ⟨_, _, _, rfl, rfl, _, f2⟩
      · rw [Bool.not_eq_true] at hc
        rw [hc, if_pos (show b01 false = 0 from rfl), if_pos (show b01 false = 0 from rfl)]
        exact ⟨_, _, _, rfl, rfl, P, hR.scr (hs_sx (by omega)) ms_sm⟩
    · rw [hM.isIn1 hW rfl hi h5, h5, if_neg (show ¬ nI 1 = 0 by decide), Option.bind_some, if_neg (show ¬ (1 : Int32) = 0 by decide)]
      exact ⟨_, _, _, rfl, rfl, P, hR⟩
  · rw [if_neg he, if_pos rfl, if_pos rfl]
    exact ⟨_, _, _, rfl, rfl, P, hR⟩
