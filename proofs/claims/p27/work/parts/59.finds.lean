/-- what the reference keeps while it searches -/
def KM (P : Bx) (t : Nat) (w0 : S) (c : Cd × Nat) (w : S) : Prop := (∀ j, j ≠ 0 → w.1 j = w0.1 j) ∧ w.2 = w0.2 ∧ (∀ k, k ≠ 3 → k ≠ 4 → k ≠ 11 → k ≠ 12 → k ≠ 13 → k ≠ 14 → k ≠ 15 → w.1 0 k = w0.1 0 k) ∧ w.1 0 15 = nI c.2 ∧ (c.1 = none → w.1 0 14 = -9) ∧ ∀ d, c.1 = some d → d.2.2.2.1 + tl P t ≤ P.1 2 ∧ w.1 0 14 = nI (d.2.2.2.1 + tl P t) ∧ w.1 0 11 = nI d.1 ∧ w.1 0 12 = nI d.2.1 ∧ w.1 0 13 = nI d.2.2.1
def stM (P : Bx) (t y x : Nat) (c : Cd × Nat) (w : Nat) : Cd × Nat := (st1 P t y x c.1 w, st0 P t y x c.2 w)
theorem not9 {a : Nat} (h : a < 1000) : ¬ nI a = -9 := by
  intro q
  have h1 := nI_toInt (show a < 2147483648 by omega)
  rw [q] at h1
  have h2 : ((-9 : Int32)).toInt = -9 := by decide
  rw [h2] at h1
  omega
theorem stepM {w0 w : S} {P : Bx} {t x y tw n : Nat} {c : Cd × Nat} (hW : WF P) (hM : MR w0 0 P) (ht : t < P.1 4) (hT : ∀ k, k < 100 → w0.1 2 k = nI (tpW P k)) (hx : x < 10) (hy : y < 10) (hw : tw < n) (hn : n ≤ 2) (hK : KM P t w0 c w) :
    ∃ w', gX7_finds_65 (nI t) (nI n) (nI y) (nI x) (nI tw, w) = some (.inr (nI (tw + 1), w')) ∧ KM P t w0 (stM P t y x c tw) w' := by
  have hn12 := hW.2.2.2.2.1
  have w0' := hW.1
  have w1' := hW.2.1
  obtain ⟨k1, k2, k3, k4, k5, k6⟩ := hK
  have hMw : MR w 0 P := MR_of hn12 hM (fun k _ => by rw [k1 1 (by omega)])
  have hTw : ∀ k, k < 100 → w.1 2 k = nI (tpW P k) := fun k hk => by rw [k1 2 (by omega)]; exact hT k hk
  have hk0 : gX7_finds_65 (nI t) (nI n) (nI y) (nI x) (nI tw, w) = ((fX7_isInside (nI t) (nI x) (nI y) (nI tw) w).bind fun q => if q = 0 then some (.inr (nI tw + 1, w)) else (fX7_can (nI t) (nI x) (nI y) (nI tw) w).bind fun q7 => if q7.1 = 0 then some (.inr (nI tw + 1, q7.2)) else (fX7_high (nI t) q7.2).bind fun q8 => nm (up q7.2 0 15 ((q7.2.1 0 15) + 1)) fun u9 => if (u9.1 0 14) = (-9) then nm (up u9 0 14 ((q7.2.1 0 3) + q8)) fun u10 => nm (up u10 0 11 (nI x)) fun u11 => nm (up u11 0 12 (nI y)) fun u12 => nm (up u12 0 13 (nI tw)) fun u13 => some (.inr (nI tw + 1, u13)) else if (u9.1 0 14) ≤ ((q7.2.1 0 3) + q8) then some (.inr (nI tw + 1, u9)) else nm (up u9 0 14 ((q7.2.1 0 3) + q8)) fun u10 => nm (up u10 0 11 (nI x)) fun u11 => nm (up u11 0 12 (nI y)) fun u12 => nm (up u12 0 13 (nI tw)) fun u13 => some (.inr (nI tw + 1, u13))) := by
    simp only [gX7_finds_65]
    rw [if_neg (by rw [nle (by omega) (by omega)]; omega)]
    rcases (show tw = 0 ∨ tw = 1 by omega) with rfl | rfl
    · rw [if_neg (show ¬ nI 0 = 1 by decide), if_neg (show ¬ nI 0 = 1 by decide)]
      rfl
    · rw [if_pos (show nI 1 = 1 from rfl), if_pos (show nI 1 = 1 from rfl)]
      rfl
  have hf := flr_le hW ht (x := x) (y := y) (w := tw)
  have htl := tl_le hW ht
  have w2 := hW.2.2.1
  rw [hk0, m_inside_n hW hMw ht (show tw ≤ 1 by omega) (by omega) (by omega), Option.bind_some, show nI tw + 1 = nI (tw + 1) from nadd tw 1]
  by_cases he : x + axt P t tw ≤ P.1 0 ∧ y + ayt P t tw ≤ P.1 1
  · rw [if_pos he, if_neg (show ¬ (1 : Int32) = 0 by decide), can_eq hW hMw ht (by omega) hTw (by omega) (by omega), Option.bind_some]
    dsimp only
    by_cases hc : cok P t x y tw = true
    · have hfit : fits P t x y tw = true := by
        unfold fits
        rw [decide_eq_true he, hc]
        rfl
      have hft : (flr P t x y tw).1 + tl P t ≤ P.1 2 := by
        simp only [cok, Bool.and_eq_true, decide_eq_true_eq] at hc
        exact hc.1
      have e0 : st0 P t y x c.2 tw = c.2 + 1 := by unfold st0; rw [if_pos hfit]
      rw [hc, if_neg (show ¬ b01 true = 0 by decide), m_high hn12 (ms_MR hn12 hMw) (v := nI t) rfl ht, Option.bind_some, nm_k, ms_3, nadd, ms_k (by omega) (by omega), k4, show nI c.2 + 1 = nI (c.2 + 1) from nadd _ 1]
      have f14 : (up (ms w (flr P t x y tw)) 0 15 (nI (c.2 + 1))).1 0 14 = w.1 0 14 := by
        rw [up_at, if_neg (by omega), ms_k (by omega) (by omega)]
      rw [f14]
      have fin : st1 P t y x c.1 tw = some (x, y, tw, flr P t x y tw) → KM P t w0 (stM P t y x c tw) (up (up (up (up (up (ms w (flr P t x y tw)) 0 15 (nI (c.2 + 1))) 0 14 (nI ((flr P t x y tw).1 + tl P t))) 0 11 (nI x)) 0 12 (nI y)) 0 13 (nI tw)) := fun e1 => by
        refine ⟨fun j hj => ?_, k2, fun k a1 a2 a3 a4 a5 a6 a7 => ?_, ?_, fun q => ?_, fun d hd => ?_⟩
        · rw [up_ne _ _ _ _ hj, up_ne _ _ _ _ hj, up_ne _ _ _ _ hj, up_ne _ _ _ _ hj, up_ne _ _ _ _ hj, ms_ne hj, k1 j hj]
        · rw [up_at, if_neg (by omega), up_at, if_neg (by omega), up_at, if_neg (by omega), up_at, if_neg (by omega), up_at, if_neg (by omega), ms_k a1 a2]
          exact k3 k a1 a2 a3 a4 a5 a6 a7
        · show _ = nI (st0 P t y x c.2 tw)
          rw [e0]
          simp [up_at]
        · exact absurd (e1.symm.trans q) (by simp)
        · have := e1.symm.trans hd
          cases this
          exact ⟨hft, by simp [up_at], by simp [up_at], by simp [up_at], by simp [up_at]⟩
      rcases hcc : c.1 with _ | d
      · have e1 : st1 P t y x c.1 tw = some (x, y, tw, flr P t x y tw) := by
          unfold st1
          rw [hfit, hcc]
          rfl
        rw [k5 hcc, if_pos rfl]
        exact ⟨_, rfl, fin e1⟩
      · obtain ⟨d1, d2, d3, d4, d5⟩ := k6 d hcc
        rw [d2, if_neg (not9 (by omega))]
        by_cases hlt : (flr P t x y tw).1 < d.2.2.2.1
        · have e1 : st1 P t y x c.1 tw = some (x, y, tw, flr P t x y tw) := by
            unfold st1
            rw [hfit, hcc, if_pos (by simpa [lower] using hlt)]
          rw [if_neg (by rw [nle (by omega) (by omega)]; omega)]
          exact ⟨_, rfl, fin e1⟩
        · have e1 : st1 P t y x c.1 tw = c.1 := by
            unfold st1
            rw [hfit, hcc, if_neg (by simpa [lower] using hlt)]
          rw [if_pos (by rw [nle (by omega) (by omega)]; omega)]
          refine ⟨_, rfl, fun j hj => ?_, k2, fun k a1 a2 a3 a4 a5 a6 a7 => ?_, ?_, fun q => ?_, fun d' hd => ?_⟩
          · rw [up_ne _ _ _ _ hj, ms_ne hj, k1 j hj]
          · rw [up_at, if_neg (by omega), ms_k a1 a2]
            exact k3 k a1 a2 a3 a4 a5 a6 a7
          · show _ = nI (st0 P t y x c.2 tw)
            rw [e0]
            simp [up_at]
          · exact absurd (hcc.symm.trans (e1.symm.trans q)) (by simp)
          · have := (hcc.symm.trans (e1.symm.trans hd))
            cases this
            exact ⟨d1, by rw [f14]; exact d2, by rw [up_at, if_neg (by omega), ms_k (by omega) (by omega)]; exact d3, by rw [up_at, if_neg (by omega), ms_k (by omega) (by omega)]; exact d4, by rw [up_at, if_neg (by omega), ms_k (by omega) (by omega)]; exact d5⟩
    · have hfit : ¬ fits P t x y tw = true := by
        unfold fits
        simp [hc]
      have e0 : st0 P t y x c.2 tw = c.2 := by unfold st0; rw [if_neg hfit]
      have e1 : st1 P t y x c.1 tw = c.1 := by unfold st1; rw [if_neg (by simp [hfit])]
      rw [Bool.not_eq_true] at hc
      rw [hc, if_pos (show b01 false = 0 from rfl)]
      refine ⟨_, rfl, fun j hj => ?_, k2, fun k a1 a2 a3 a4 a5 a6 a7 => ?_, ?_, fun q => ?_, fun d' hd => ?_⟩
      · rw [ms_ne hj, k1 j hj]
      · rw [ms_k a1 a2]
        exact k3 k a1 a2 a3 a4 a5 a6 a7
      · show _ = nI (st0 P t y x c.2 tw)
        rw [e0, ms_k (by omega) (by omega)]
        exact k4
      · rw [ms_k (by omega) (by omega)]
        exact k5 (e1.symm.trans q)
      · rw [ms_k (by omega) (by omega), ms_k (by omega) (by omega), ms_k (by omega) (by omega), ms_k (by omega) (by omega)]
        exact k6 d' (e1.symm.trans hd)
  · have hfit : ¬ fits P t x y tw = true := by
      unfold fits
      rw [decide_eq_false he]
      simp
    have e0 : st0 P t y x c.2 tw = c.2 := by unfold st0; rw [if_neg hfit]
    have e1 : st1 P t y x c.1 tw = c.1 := by unfold st1; rw [if_neg (by simp [hfit])]
    rw [if_neg he, if_pos rfl]
    refine ⟨_, rfl, k1, k2, k3, ?_, fun q => k5 (e1.symm.trans q), fun d' hd => k6 d' (e1.symm.trans hd)⟩
    show _ = nI (st0 P t y x c.2 tw)
    rw [e0]
    exact k4
theorem nest_pair {P : Bx} {t : Nat} : nest P t (stM P t) (none, 0) = (best P t, cnt P t) := by
  unfold nest best cnt nest
  have h1 : (fun (s : Cd × Nat) (y : Nat) => fo (fun s x => fo (stM P t y x) s (ways P t)) s (P.1 0)) = fun s y => (fo (fun s x => fo (st1 P t y x) s (ways P t)) s.1 (P.1 0), fo (fun s x => fo (st0 P t y x) s (ways P t)) s.2 (P.1 0)) := by
    funext s y
    have h2 : (fun (s : Cd × Nat) (x : Nat) => fo (stM P t y x) s (ways P t)) = fun s x => (fo (st1 P t y x) s.1 (ways P t), fo (st0 P t y x) s.2 (ways P t)) := by
      funext s x
      exact fo_pair (st1 P t y x) (st0 P t y x) s (ways P t)
    rw [h2]
    exact fo_pair (fun s x => fo (st1 P t y x) s (ways P t)) (fun s x => fo (st0 P t y x) s (ways P t)) s (P.1 0)
  rw [h1]
  exact fo_pair (fun s y => fo (fun s x => fo (st1 P t y x) s (ways P t)) s (P.1 0)) (fun s y => fo (fun s x => fo (st0 P t y x) s (ways P t)) s (P.1 0)) (none, 0) (P.1 1)
theorem finds_eq {w : S} {P : Bx} {t : Nat} {v : Int32} (hW : WF P) (hM : MR w 0 P) (hv : v = nI t) (ht : t < P.1 4) : ∃ w', fX7_finds v w = some w' ∧ KM P t (tW w (tpW P)) (best P t, cnt P t) w' := by
  subst hv
  have hn := hW.2.2.2.2.1
  have w0' := hW.1
  have w1' := hW.2.1
  have wt := hW.2.2.2.2.2.1 t ht
  unfold WT at wt
  obtain ⟨w0, hw0⟩ : ∃ w0, w0 = tW w (tpW P) := ⟨_, rfl⟩
  have hM0 : MR w0 0 P := by rw [hw0]; exact tW_MR hn hM
  have hT : ∀ k, k < 100 → w0.1 2 k = nI (tpW P k) := fun k hk => by rw [hw0]; exact tW_at hk
  have hMK : ∀ c w', KM P t w0 c w' → MR w' 0 P := fun c w' hK => MR_of hn hM0 (fun k _ => by rw [hK.1 1 (by omega)])
  have hway := fun y (hy : y < 10) x (hx : x < 10) (c : Cd × Nat) w' (hK : KM P t w0 c w') => lp_fo (step := gX7_finds_65 (nI t) (nI (ways P t)) (nI y) (nI x)) (stM P t y x) (KM P t w0) (ways P t) (by have := ways_le (P := P) (t := t); omega)
    (fun i s w' hi hK => stepM hW hM0 ht hT hx hy hi ways_le hK)
    (fun s w' hK => by
      have := ways_le (P := P) (t := t)
      simp only [gX7_finds_65]
      rw [if_pos (by rw [nle (by omega) (by omega)]; omega)]) hK
  have hrow := fun y (hy : y < 10) (c : Cd × Nat) w' (hK : KM P t w0 c w') => lp_fo (step := gX7_finds_51 (nI t) (nI (ways P t)) (nI y)) (fun s x => fo (stM P t y x) s (ways P t)) (KM P t w0) (P.1 0) (by omega)
    (fun i s w' hi hK => by
      obtain ⟨w2, h1, h2⟩ := hway y hy i (by omega) s w' hK
      simp only [gX7_finds_51]
      rw [gd_t (by decide), show (0 : Int32).toNatClampNeg = 0 from rfl, (hMK _ _ hK).at (show 0 < 5 by omega), if_neg (by rw [nle (by omega) (by omega)]; omega), show ((0 : Int32), w') = (nI 0, w') from rfl, h1, Option.bind_some, show nI i + 1 = nI (i + 1) from nadd i 1]
      exact ⟨w2, rfl, h2⟩)
    (fun s w' hK => by
      simp only [gX7_finds_51]
      rw [gd_t (by decide), show (0 : Int32).toNatClampNeg = 0 from rfl, (hMK _ _ hK).at (show 0 < 5 by omega), if_pos (by rw [nle (by omega) (by omega)]; omega)]) hK
  have hall := fun (c : Cd × Nat) w' (hK : KM P t w0 c w') => lp_fo (step := gX7_finds_38 (nI t) (nI (ways P t))) (fun s y => fo (fun s x => fo (stM P t y x) s (ways P t)) s (P.1 0)) (KM P t w0) (P.1 1) (by omega)
    (fun i s w' hi hK => by
      obtain ⟨w2, h1, h2⟩ := hrow i (by omega) s w' hK
      simp only [gX7_finds_38]
      rw [gd_t (by decide), show (1 : Int32).toNatClampNeg = 1 from rfl, (hMK _ _ hK).at (show 1 < 5 by omega), if_neg (by rw [nle (by omega) (by omega)]; omega), show ((0 : Int32), w') = (nI 0, w') from rfl, h1, Option.bind_some, show nI i + 1 = nI (i + 1) from nadd i 1]
      exact ⟨w2, rfl, h2⟩)
    (fun s w' hK => by
      simp only [gX7_finds_38]
      rw [gd_t (by decide), show (1 : Int32).toNatClampNeg = 1 from rfl, (hMK _ _ hK).at (show 1 < 5 by omega), if_pos (by rw [nle (by omega) (by omega)]; omega)]) hK
  obtain ⟨s0, hs0⟩ : ∃ s0, s0 = up (up w0 0 15 0) 0 14 (-9) := ⟨_, rfl⟩
  have hK0 : KM P t w0 (none, 0) s0 := by
    rw [hs0]
    refine ⟨fun j hj => by rw [up_ne _ _ _ _ hj, up_ne _ _ _ _ hj], rfl, fun k a1 a2 a3 a4 a5 a6 a7 => by rw [up_at, if_neg (by omega), up_at, if_neg (by omega)], by simp [up_at]; rfl, fun _ => by simp [up_at], fun d hd => by cases hd⟩
  have hMs : MR s0 0 P := hMK _ _ hK0
  obtain ⟨w', h1, h2⟩ := hall (none, 0) s0 hK0
  have h2' : KM P t w0 (nest P t (stM P t) (none, 0)) w' := h2
  rw [nest_pair] at h2'
  refine ⟨w', ?_, by rw [← hw0]; exact h2'⟩
  simp only [fX7_finds, laysTops_eq hW hM, Option.bind_some, nm_k, ← hw0, ← hs0, hMs.of hn (v1 := nI t) rfl (show (0 : Int32) = nI 0 from rfl) ht (show 0 < 10 by omega), hMs.of hn (v1 := nI t) rfl (show (1 : Int32) = nI 1 from rfl) ht (show 1 < 10 by omega)]
  unfold ways at h1
  by_cases h : P.2 t 0 = P.2 t 1
  · rw [if_pos h] at h1
    rw [if_pos (by rw [h]), show (1 : Int32) = nI 1 from rfl, show ((0 : Int32), s0) = (nI 0, s0) from rfl, h1, Option.bind_some]
  · rw [if_neg h] at h1
    rw [if_neg (by rw [neq (by omega) (by omega)]; exact h), show (2 : Int32) = nI 2 from rfl, show ((0 : Int32), s0) = (nI 0, s0) from rfl, h1, Option.bind_some]
