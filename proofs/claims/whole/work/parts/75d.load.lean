/-! load -/
theorem RR.flt {P : Bx} {u w : S} (h : RR P u w) (v : Int32) : RR P (up u 160 1 v) (up w 0 7 v) := by
  obtain ⟨hW, hC, hM, ⟨n, o, hn, ho, a, b, c, d⟩, ⟨m, t1, t2, t3, t4, -⟩, hz⟩ := h
  have hn4 := hW.2.2.2.2.1
  refine ⟨hW, CR_of hn4 hC (fun j hj => by unfold inB at hj; rw [up_ne _ _ _ _ (by omega)]), MR_of hn4 hM (fun k _ => by rw [up_ne _ _ _ _ (by omega)]), ⟨n, o, hn, ho, by rw [up_ne _ _ _ _ (by omega)]; exact a, by rw [up_ne _ _ _ _ (by omega)]; exact b, by rw [up_at, if_neg (by omega)]; exact c, fun k hk => ?_⟩, ⟨m, t1, by rw [up_at, if_neg (by omega)]; exact t2, by rw [up_at, if_neg (by omega)]; exact t3, fun i hi => ?_, by rw [up_at, if_pos ⟨rfl, rfl⟩, up_at, if_pos ⟨rfl, rfl⟩]⟩, hz⟩
  · obtain ⟨V, p1, p2, p3, p4⟩ := d k hk
    exact ⟨V, p1, CR_of p1.2.2.2.2.1 p2 (fun j hj => by unfold inB at hj; rw [up_ne _ _ _ _ (by omega)]), MR_of p1.2.2.2.2.1 p3 (fun k _ => by rw [up_ne _ _ _ _ (by omega)]), p4⟩
  · rw [up_ne _ _ _ _ (by omega), up_ne _ _ _ _ (by omega)]
    exact t4 i hi
def swS (w : S) (i : Nat) : S := (fun j k => if j = 1 ∧ k < i then w.1 1 (1125 + k) else if j = 1 ∧ 1125 ≤ k ∧ k < 1125 + i then w.1 1 (k - 1125) else w.1 j k, w.2)
theorem swap_eq (w : S) : lp (gX7_recordsKept_2 9) FU (0, w) = some (nI 125, swS w 125) := by
  have h0 : swS w 0 = w := by
    apply Prod.ext
    · funext j k
      simp only [swS]
      rw [if_neg (by omega), if_neg (by omega)]
    · rfl
  have hl := lp_for (step := gX7_recordsKept_2 9) (fun i => (nI i, swS w i)) 125 (b := (nI 125, swS w 125)) (by omega) (fun i hi => ?_) ?_
  · rw [show ((0 : Int32), w) = (nI 0, swS w 0) from by rw [h0]; rfl, hl]
  · have e1 : (125 * 9) + nI i = nI (1125 + i) := by rw [show (125 : Int32) * 9 = nI 1125 by decide, nadd]
    have e2 : (swS w i).1 1 i = w.1 1 i := by
      simp only [swS]
      rw [if_neg (by omega), if_neg (by omega)]
    have e3 : (swS w i).1 1 (1125 + i) = w.1 1 (1125 + i) := by
      simp only [swS]
      rw [if_neg (by omega), if_neg (by omega)]
    simp only [gX7_recordsKept_2, e1]
    rw [show (125 : Int32) = nI 125 from rfl, if_neg (by rw [nle (by omega) (by omega)]; omega), gd_t (inb_n (by omega) (by omega)), gd_t (inb_n (by omega) (by omega)), gd_t (inb_n (by omega) (by omega)), ncl (by omega), ncl (by omega), nm_k, gd_t (inb_n (by omega) (by omega)), nm_k, e2, e3, show nI i + 1 = nI (i + 1) from nadd i 1]
    refine congrArg (fun v : S => some (Sum.inr (nI (i + 1), v))) ?_
    apply Prod.ext
    · funext j k
      rw [up_at, up_at]
      show _ = (if j = 1 ∧ k < i + 1 then w.1 1 (1125 + k) else if j = 1 ∧ 1125 ≤ k ∧ k < 1125 + (i + 1) then w.1 1 (k - 1125) else w.1 j k)
      by_cases h1 : j = 1 ∧ k = 1125 + i
      · rw [if_pos h1, if_neg (by omega), if_pos (by omega), show k - 1125 = i by omega]
      · rw [if_neg h1]
        by_cases h2 : j = 1 ∧ k = i
        · rw [if_pos h2, if_pos (by omega), h2.2]
        · rw [if_neg h2]
          show (if j = 1 ∧ k < i then w.1 1 (1125 + k) else if j = 1 ∧ 1125 ≤ k ∧ k < 1125 + i then w.1 1 (k - 1125) else w.1 j k) = _
          by_cases h3 : j = 1 ∧ k < i
          · rw [if_pos h3, if_pos (by omega)]
          · rw [if_neg h3, if_neg (c := j = 1 ∧ k < i + 1) (by omega)]
            by_cases h4 : j = 1 ∧ 1125 ≤ k ∧ k < 1125 + i
            · rw [if_pos h4, if_pos (by omega)]
            · rw [if_neg h4, if_neg (by omega)]
    · rfl
  · simp only [gX7_recordsKept_2]
    rw [if_pos (by decide)]
theorem sim_load : Sim_load Rl := by
  intro u w ⟨P, hR⟩
  have hW := hR.1
  have hn4 := hW.2.2.2.2.1
  obtain ⟨n, t1, t2, t3, t4, t5⟩ := hR.2.2.2.2.1
  obtain ⟨s, hs⟩ : ∃ s : Nat → Nat, s = fun i => (u.1 161 i).toInt.toNat := ⟨_, rfl⟩
  obtain ⟨w0, hw0⟩ : ∃ w0, w0 = cpP w 0 9 125 := ⟨_, rfl⟩
  have w0ne : ∀ j, j ≠ 1 → w0.1 j = w.1 j := fun j hj => by rw [hw0, cpP_ne hj]
  have w0lo : ∀ k, k < 1125 → w0.1 1 k = w.1 1 k := fun k hk => by rw [hw0, cpP_out (by omega)]
  have w0hi : ∀ k, k < 125 → w0.1 1 (1125 + k) = w.1 1 k := fun k hk => by
    have := cpP_in (w := w) (p := 0) (q := 9) hk
    rw [hw0, show 1125 + k = 125 * 9 + k by omega, this, show 125 * 0 + k = k by omega]
  have h0 : tx n s u w0 := by
    refine ⟨t1, t2, by rw [w0ne 0 (by omega)]; exact t3, fun i hi => ?_⟩
    obtain ⟨c, c1, c2, c3, c4⟩ := t4 i hi
    have e : s i = c := by
      rw [hs]
      show (u.1 161 i).toInt.toNat = c
      rw [c3, nI_toInt (by omega)]
      omega
    rw [e, w0ne 3 (by omega)]
    exact ⟨⟨c1, c2⟩, c3, c4⟩
  obtain ⟨u3, hu3⟩ : ∃ u3, u3 = up (up (up u 160 1 0) 160 4 0) (132 + 10) 4 0 := ⟨_, rfl⟩
  obtain ⟨w3, hw3⟩ : ∃ w3, w3 = up (up (up w0 0 7 0) 0 9 0) 1 4 0 := ⟨_, rfl⟩
  have hF3 : Fr u w0 u3 w3 := by
    refine ⟨fun j a b c => ?_, ?_, fun j a b => ?_, fun k a => ?_, fun k a => ?_, fun k a b c d => ?_⟩
    · rw [hu3, up_ne _ _ _ _ b, up_ne _ _ _ _ a, up_ne _ _ _ _ a]
    · rw [hu3, up_ne _ _ _ _ (by omega), up_at, if_neg (by omega), up_at, if_neg (by omega)]
    · rw [hw3, up_ne _ _ _ _ b, up_ne _ _ _ _ a, up_ne _ _ _ _ a]
    · rw [hw3, up_at, if_neg (by omega), up_ne _ _ _ _ (by omega), up_ne _ _ _ _ (by omega)]
    · rw [hw3, up_at, if_neg (by omega), up_ne _ _ _ _ (by omega), up_ne _ _ _ _ (by omega)]
    · rw [hw3, up_ne _ _ _ _ (by omega), up_at, if_neg (by omega), up_at, if_neg (by omega)]
  have hK3 : kL 0 (fun _ _ => 0) u w0 u3 w3 := ⟨hF3, by rw [hu3, up_at, if_pos ⟨rfl, rfl⟩]; rfl, fun i k hi _ => absurd hi (by omega), fun i k hi _ => absurd hi (by omega)⟩
  have hA3 : aT n 0 u3 w3 := ⟨by omega, by rw [hu3, up_ne _ _ _ _ (by omega), up_at, if_pos ⟨rfl, rfl⟩]; rfl, by rw [hw3, up_ne _ _ _ _ (by omega), up_at, if_pos ⟨rfl, rfl⟩]; rfl, by rw [hu3, up_ne _ _ _ _ (by omega), up_at, if_neg (by omega), up_at, if_pos ⟨rfl, rfl⟩], by rw [hw3, up_ne _ _ _ _ (by omega), up_at, if_neg (by omega), up_at, if_pos ⟨rfl, rfl⟩]⟩
  have h34 : w3.1 1 4 = nI 0 := by rw [hw3, up_at, if_pos ⟨rfl, rfl⟩]; rfl
  have hx : fX4_read u = (lp gX4_read_20 FU (nI 0, u3)).bind fun e4 => if (e4.2.1 160 1) = 0 then some (e4.2.1 (132 + 10) 4, e4.2) else some ((-10) - (e4.2.1 160 4), e4.2) := by
    rw [hu3]
    rfl
  have hm : fX7_load w = (lp gX7_load_26 FU (1, w3)).bind fun e5 => if e5.1 = 0 then ((fX7_copies 9 0 e5.2).bind fun q9 => some ((-10) - (q9.1 0 8), q9)) else ((fX7_recordsKept 9 e5.2).bind fun q7 => (fX7_trays q7).bind fun q8 => some (q8, q7)) := by
    have hc : fX7_copies 0 9 w = some w0 := by rw [hw0]; exact copies_eq (p := 0) (q := 9) (by omega) (by omega) (by omega)
    simp only [fX7_load, hc, Option.bind_some, nm_k]
    rw [gd_t (by decide), show (4 : Int32).toNatClampNeg = 4 by decide, ← hw3]
  have hc90 : ∀ z : S, fX7_copies 9 0 z = some (cpP z 9 0 125) := fun z => copies_eq (p := 9) (q := 0) (by omega) (by omega) (by omega)
  have sxF : ∀ (v : Int32) (u' w' : S), Fr u w0 u' w' → u'.1 160 1 = v → SX (up u 160 1 v) u' := fun v u' w' hF e => by
    refine ⟨fun j a b => ?_, ?_, ?_⟩
    · rw [up_ne _ _ _ _ b]
      unfold scrC at a
      exact hF.1 j b (by omega) (by omega)
    · rw [hF.2.1, up_at, if_neg (by omega)]
    · rw [e, up_at, if_pos ⟨rfl, rfl⟩]
  rcases loops_sim h0 12 0 0 (fun _ _ => 0) u3 w3 FU rfl (by unfold FU; omega) hK3 hA3 h34 (fun i hi => absurd hi (by omega)) with ⟨c, T, a, i', u', w', e1, e2, e3, e4, e5, e6, e7⟩ | ⟨i', u', w', e1, e2, e3, p, q, b1, b2, b3, b4, b5, b6, b7⟩
  · have hF := e4.1
    have hws : ∀ j k, ¬ (j = 1 ∧ k < 125) → ¬ (j = 1 ∧ 1125 ≤ k ∧ k < 1125 + 125) → (swS w' 125).1 j k = w'.1 j k := fun j k a b => by
      simp only [swS]
      rw [if_neg a, if_neg b]
    have hlo : ∀ k, k < 125 → (swS w' 125).1 1 k = w'.1 1 (1125 + k) := fun k hk => by
      simp only [swS]
      rw [if_pos ⟨trivial, hk⟩]
    have hhi : ∀ k, k < 125 → (swS w' 125).1 1 (1125 + k) = w'.1 1 k := fun k hk => by
      simp only [swS]
      rw [if_neg (by omega), if_pos ⟨trivial, by omega, by omega⟩, show 1125 + k - 1125 = k by omega]
    have hR1 : RR P u' (swS w' 125) := by
      refine (hR.flt 0).scr (sxF 0 u' w' hF e5.2.2.2.1) ⟨fun k hk => ?_, ?_, ?_, ?_, ?_⟩
      · rw [up_ne _ _ _ _ (by omega)]
        by_cases hk1 : k < 125
        · rw [hlo k hk1, hF.2.2.2.1 _ (by omega), w0hi k hk1]
        · rw [hws _ _ (by omega) (by omega), hF.2.2.2.1 _ (by omega), w0lo k (by omega)]
      · rw [up_ne _ _ _ _ (by omega)]
        refine (funext fun k => ?_ : (swS w' 125).1 3 = w.1 3)
        rw [hws _ _ (by omega) (by omega), hF.2.2.1 3 (by omega) (by omega), w0ne 3 (by omega)]
      · rw [up_at, if_neg (by omega), hws _ _ (by omega) (by omega), hF.2.2.2.2.2 1 (by omega) (by omega) (by omega) (by omega), w0ne 0 (by omega)]
      · rw [up_at, if_neg (by omega), hws _ _ (by omega) (by omega), hF.2.2.2.2.2 6 (by omega) (by omega) (by omega) (by omega), w0ne 0 (by omega)]
      · rw [up_at, if_pos ⟨rfl, rfl⟩, hws _ _ (by omega) (by omega)]
        exact e5.2.2.2.2
    obtain ⟨u2, w2, r1, r2, hR2, k1, k2⟩ := record_sim hR1
    have kt : ∀ i, i < 12 → u2.1 (12 * 10 + i) = u'.1 (12 * 10 + i) := fun i hi => k1 _ (Or.inr (Or.inl (by unfold scrC; omega)))
    have k4 : u2.1 (132 + 10) 4 = nI c := by rw [k1 (132 + 10) (Or.inr (Or.inl (by unfold scrC; omega)))]; exact e4.2.1
    have hT0 : ∀ i k, i < c → 5 ≤ k → T i k = 0 := fun i k hi hk => (e7 i hi).2.2.2.2.2 k hk
    have hcp : fX0_copyTrays 0 10 u2 = some (cpI u2 0 10 c c) := copyTrays (by omega) (by omega) (by omega) e3 k4 (fun i hi => by
      rw [kt i (by omega), e4.2.2.1 i 5 hi (by omega), e4.2.2.1 i 6 hi (by omega), hT0 i 5 hi (by omega), hT0 i 6 hi (by omega)]
      exact ⟨rfl, rfl⟩)
    obtain ⟨Q, hQ⟩ : ∃ Q : Bx, Q = (fun k => if k = 4 then c else P.1 k, T) := ⟨_, rfl⟩
    have q4 : Q.1 4 = c := by rw [hQ]; rfl
    have qk : ∀ k, k ≠ 4 → Q.1 k = P.1 k := fun k hk => by rw [hQ]; exact if_neg hk
    have q2 : Q.2 = T := by rw [hQ]
    have hWQ : WF Q := by
      refine ⟨by rw [qk 0 (by omega)]; exact hW.1, by rw [qk 1 (by omega)]; exact hW.2.1, by rw [qk 2 (by omega)]; exact hW.2.2.1, by rw [qk 3 (by omega)]; exact hW.2.2.2.1, by rw [q4]; exact e3, fun i hi => ?_, fun i j hi hj _ h5 => ?_⟩
      · rw [q4] at hi
        obtain ⟨f0, f1, f2, f3, f4, f5⟩ := e7 i hi
        unfold WT
        rw [q2, f5 5 (by omega), f5 6 (by omega), f5 7 (by omega), f5 8 (by omega), f5 9 (by omega)]
        exact ⟨f0, f1, f2, f3, f4, by omega, by omega, by omega, fun q => absurd q (by omega)⟩
      · rw [q4] at hi
        rw [q2, hT0 i 5 hi (by omega)] at h5
        omega
    have hg : ∀ k, k < 125 → (cpP w2 9 0 125).1 1 k = w'.1 1 k := fun k hk => by
      have := cpP_in (w := w2) (p := 9) (q := 0) hk
      rw [show 125 * 0 + k = k by omega] at this
      rw [this, k2.1 _ (by omega), show 125 * 9 + k = 1125 + k by omega, hhi k hk]
    refine ⟨nI c, cpI u2 0 10 c c, cpP w2 9 0 125, ?_, ?_, Q, hR2.mod hWQ ⟨fun k hk => ?_, fun i hi => ⟨fun k hk => ?_, fun h5 => ?_⟩⟩ ⟨fun k hk => ?_, fun i k hi hk => ?_⟩ ⟨fun j hj _ _ => ?_, ?_, ?_⟩ ⟨fun k a b => by rw [cpP_out (by omega)], by rw [cpP_ne (by omega)], by rw [cpP_ne (by omega)], by rw [cpP_ne (by omega)], by rw [cpP_ne (by omega)]⟩ (fun i hi _ => ?_)⟩
    · simp only [fX6_load, hx, e1, Option.bind_some, e5.2.2.2.1, e4.2.1]
      rw [if_pos trivial, Option.bind_some, if_neg (by rw [show (0 : Int32) = nI 0 from rfl, nlt (by omega) (by omega)]; omega), r1, Option.bind_some, hcp]
      rfl
    · rw [hm, e2, Option.bind_some, if_neg (show ¬ (1 : Int32) = 0 by decide)]
      simp only [fX7_recordsKept, swap_eq, Option.bind_some, r2, hc90, trays_raw]
      rw [hg 4 (by omega), e6]
    · simp only [cpI]
      by_cases hk4 : k = 4
      · rw [if_pos ⟨trivial, hk4⟩, hk4, q4]
      · rw [if_neg (by omega), if_neg (by omega), qk k hk4]
        exact hR2.2.1.1 k hk
    · rw [q4] at hi
      simp only [cpI]
      rw [if_neg (by omega), if_pos (by omega), show 12 * 10 + (12 * 0 + i - 12 * 0) = 12 * 10 + i by omega, kt i (by omega), q2]
      exact e4.2.2.1 i k hi hk
    · rw [q4] at hi
      rw [q2, hT0 i 5 hi (by omega)] at h5
      omega
    · rw [show 125 * 0 + k = k by omega, hg k (by omega)]
      by_cases hk4 : k = 4
      · rw [hk4, q4]
        exact e6
      · rw [hF.2.2.2.2.1 k (by omega), w0lo k (by omega), qk k hk4]
        have := hR.2.2.1.1 k hk
        rwa [show 125 * 0 + k = k by omega] at this
    · rw [q4] at hi
      rw [show 125 * 0 + (5 + 10 * i + k) = 5 + 10 * i + k by omega, hg _ (by omega), q2]
      exact e4.2.2.2 i k hi hk
    · funext k
      unfold inB at hj
      simp only [cpI]
      rw [if_neg (by omega), if_neg (by omega)]
    · simp only [cpI]
      rw [if_neg (by omega), if_neg (by omega)]
    · simp only [cpI]
      rw [if_neg (by omega), if_neg (by omega)]
    · rw [q4] at hi
      rw [q2]
      exact hT0 i 6 hi (by omega)
  · have hneg : ∀ q, q < 101 → (-10 : Int32) - nI q < 0 := by decide +kernel
    have hlo : ∀ k, k < 125 → (cpP w' 9 0 125).1 1 k = w.1 1 k := fun k hk => by
      have := cpP_in (w := w') (p := 9) (q := 0) hk
      rw [show 125 * 0 + k = k by omega] at this
      rw [this, show 125 * 9 + k = 1125 + k by omega, e3.2.2.2.1 _ (by omega), w0hi k hk]
    refine ⟨(-10) - nI q, u', cpP w' 9 0 125, ?_, ?_, P, (hR.flt (nI p)).scr (sxF (nI p) u' w' e3 b4) ⟨fun k hk => ?_, ?_, ?_, ?_, ?_⟩⟩
    · simp only [fX6_load, hx, e1, Option.bind_some, b4, b6]
      rw [if_neg (by rw [show (0 : Int32) = nI 0 from rfl, neq (by omega) (by omega)]; omega), Option.bind_some, if_pos (hneg q (by omega))]
    · rw [hm, e2, Option.bind_some, if_pos rfl, hc90, Option.bind_some, cpP_ne (by omega), b7]
    · rw [up_ne _ _ _ _ (by omega)]
      by_cases hk1 : k < 125
      · exact hlo k hk1
      · rw [cpP_out (by omega), e3.2.2.2.1 _ (by omega), w0lo k (by omega)]
    · rw [up_ne _ _ _ _ (by omega), cpP_ne (by omega), e3.2.2.1 3 (by omega) (by omega), w0ne 3 (by omega)]
    · rw [up_at, if_neg (by omega), cpP_ne (by omega), e3.2.2.2.2.2 1 (by omega) (by omega) (by omega) (by omega), w0ne 0 (by omega)]
    · rw [up_at, if_neg (by omega), cpP_ne (by omega), e3.2.2.2.2.2 6 (by omega) (by omega) (by omega) (by omega), w0ne 0 (by omega)]
    · rw [up_at, if_pos ⟨rfl, rfl⟩, cpP_ne (by omega)]
      exact b5
