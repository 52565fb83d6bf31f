theorem MR.isIn1 {w : S} {P : Bx} (hW : WF P) (h : MR w 0 P) {v : Int32} {i : Nat} (hv : v = nI i) (hi : i < P.1 4) (h5 : P.2 i 5 = 1) : fX7_isIn v w = some 1 := by rw [h.isIn hW hv hi, if_pos h5]
theorem MR.isIn0 {w : S} {P : Bx} (hW : WF P) (h : MR w 0 P) {v : Int32} {i : Nat} (hv : v = nI i) (hi : i < P.1 4) (h5 : ¬ P.2 i 5 = 1) : fX7_isIn v w = some 0 := by rw [h.isIn hW hv hi, if_neg h5]
theorem in_n {x a b : Nat} {w : S} (hx : x < 2147483648) (ha : a < 2147483648) (hb : b < 2147483648) (h1 : 1 ≤ b) : fX7_in (nI x) (nI a) (nI b - 1) w = some (if a ≤ x ∧ x < b then 1 else 0) := by
  simp only [fX7_in]
  rw [show nI b - 1 = nI (b - 1) from nsub (b := 1) h1]
  by_cases h2 : a ≤ x
  · rw [if_neg (by rw [nlt (by omega) (by omega)]; omega)]
    by_cases h3 : x < b
    · rw [if_neg (by rw [nlt (by omega) (by omega)]; omega), if_pos ⟨h2, h3⟩]
    · rw [if_pos (by rw [nlt (by omega) (by omega)]; omega), if_neg (by omega)]
  · rw [if_pos (by rw [nlt (by omega) (by omega)]; omega), if_neg (by omega)]
def cvr (P : Bx) (i x y : Nat) : Bool := decide (P.2 i 7 ≤ x) && decide (x < P.2 i 7 + ax P i) && decide (P.2 i 8 ≤ y) && decide (y < P.2 i 8 + ay P i)
theorem cv_cvr {P : Bx} {i x y : Nat} : cv P i x y = (P.2 i 5 == 1 && cvr P i x y) := rfl
theorem m_covers {w : S} {P : Bx} {i x y : Nat} {v vx vy : Int32} (hW : WF P) (h : MR w 0 P) (hv : v = nI i) (hi : i < P.1 4) (hvx : vx = nI x) (hvy : vy = nI y) (hx : x < 1000) (hy : y < 1000) : fX7_covers v vx vy w = some (if cvr P i x y = true then 1 else 0) := by
  have hn := hW.2.2.2.2.1
  have hs := hW.small hi
  subst hvx; subst hvy
  simp only [fX7_covers, h.of hn hv (show (7 : Int32) = nI 7 from rfl) hi (by omega), h.of hn hv (show (8 : Int32) = nI 8 from rfl) hi (by omega), (m_spans hW h hv hi).1, (m_spans hW h hv hi).2, Option.bind_some, nadd]
  rw [in_n (by omega) (by omega) (by omega) (by omega), in_n (by omega) (by omega) (by omega) (by omega), Option.bind_some, Option.bind_some]
  by_cases h1 : P.2 i 7 ≤ x ∧ x < P.2 i 7 + ax P i
  · by_cases h2 : P.2 i 8 ≤ y ∧ y < P.2 i 8 + ay P i
    · simp [h1, h2, cvr]
    · simp [h1, h2, cvr]
  · simp [h1, cvr]
theorem anyb_succ (f : Nat → Bool) (n : Nat) : anyb (n + 1) f = (anyb n f || f n) := by
  unfold anyb
  rw [List.range_succ, List.any_append]
  simp
theorem anyb_zero (f : Nat → Bool) : anyb 0 f = false := rfl
def rsf (P : Bx) (i k j : Nat) : Bool := !(j == i) && cv P j (k / 10) (k % 10) && tp P j == P.2 i 9
def b01 (b : Bool) : Int32 := if b = true then 1 else 0
theorem m_rest_in {w : S} {P : Bx} {i k : Nat} {v vk : Int32} (hW : WF P) (h : MR w 0 P) (hv : v = nI i) (hi : i < P.1 4) (hvk : vk = nI k) (hk : k < 100) (f : Bool) : lp (gX7_rests_30 v vk w) FU (b01 f, 0) = some (b01 (f || anyb (P.1 4) (rsf P i k)), nI (P.1 4)) := by
  have hn := hW.2.2.2.2.1
  subst hvk
  have hl := lp_for (step := gX7_rests_30 v (nI k) w) (fun j => (b01 (f || anyb j (rsf P i k)), nI j)) (P.1 4) (b := (b01 (f || anyb (P.1 4) (rsf P i k)), nI (P.1 4))) (by omega) (fun j hj => ?_) ?_
  · rw [anyb_zero, Bool.or_false] at hl
    exact hl
  · have hs := hW.small hj
    have hsi := hW.small hi
    have hd : nI k / 10 = nI (k / 10) := ndiv (b := 10) (by omega) (by omega)
    have hm : nI k % 10 = nI (k % 10) := nmod (b := 10) (by omega) (by omega)
    simp only [gX7_rests_30, h.n, Option.bind_some]
    rw [if_neg (by rw [nle (by omega) (by omega)]; omega), show nI j + 1 = nI (j + 1) from nadd j 1, anyb_succ, ← Bool.or_assoc]
    by_cases hf : (f || anyb j (rsf P i k)) = true
    · rw [hf, show b01 true = 1 from rfl, if_neg (by decide), Bool.true_or]
      rfl
    · rw [Bool.not_eq_true] at hf
      rw [hf, show b01 false = 0 from rfl, if_pos rfl, Bool.false_or, hv]
      by_cases hji : j = i
      · subst hji
        rw [if_pos rfl]
        simp [rsf, b01]
      · rw [if_neg (by rw [neq (by omega) (by omega)]; exact hji)]
        by_cases h5 : P.2 j 5 = 1
        · rw [h.isIn1 hW rfl hj h5, Option.bind_some, if_neg (by decide), m_covers hW h rfl hj hd hm (by omega) (by omega), Option.bind_some]
          by_cases hc : cvr P j (k / 10) (k % 10) = true
          · rw [if_pos hc, if_neg (by decide), m_top hn h rfl hj, h.of hn (v1 := nI i) rfl (show (9 : Int32) = nI 9 from rfl) hi (by omega), Option.bind_some, Option.bind_some]
            by_cases he : tp P j = P.2 i 9
            · rw [if_pos (by rw [he])]
              simp [rsf, b01, cv_cvr, h5, hc, he, hji]
            · rw [if_neg (by unfold tp at hs hsi; rw [neq (by unfold tp; omega) (by omega)]; exact he)]
              simp [rsf, b01, he]
          · rw [if_neg hc, if_pos rfl]
            simp [rsf, b01, cv_cvr, hc]
        · rw [h.isIn0 hW rfl hj h5, Option.bind_some, if_pos rfl]
          simp [rsf, b01, cv_cvr, h5]
  · simp only [gX7_rests_30, h.n, Option.bind_some]
    rw [if_pos (by rw [nle (by omega) (by omega)]; omega)]
theorem sup_eq {P : Bx} {i k : Nat} : sup P i k = ((P.2 i 9 == 0 || anyb (P.1 4) (rsf P i k)) && cv P i (k / 10) (k % 10)) := rfl
theorem m_rests {w : S} {P : Bx} {i : Nat} {v : Int32} (hW : WF P) (h : MR w 0 P) (hv : v = nI i) (hi : i < P.1 4) (h5 : P.2 i 5 = 1) : fX7_rests v w = some (nI (rs P i)) := by
  have hn := hW.2.2.2.2.1
  have hl := lp_for (step := gX7_rests_4 v w) (fun k => (nI (fb_ct (sup P i) k), nI k)) 100 (b := (nI (rs P i), nI 100)) (by omega) (fun k hk => ?_) ?_
  · simp only [fX7_rests]
    rw [show ((0 : Int32), (0 : Int32)) = (nI (fb_ct (sup P i) 0), nI 0) from rfl, hl]
    rfl
  · have hsi := hW.small hi
    have hd : nI k / 10 = nI (k / 10) := ndiv (b := 10) (by omega) (by omega)
    have hm : nI k % 10 = nI (k % 10) := nmod (b := 10) (by omega) (by omega)
    simp only [gX7_rests_4]
    rw [show (100 : Int32) = nI 100 from rfl, if_neg (by rw [nle (by omega) (by omega)]; omega), h.of hn hv (show (9 : Int32) = nI 9 from rfl) hi (by omega), Option.bind_some, show nI k + 1 = nI (k + 1) from nadd k 1, m_covers hW h hv hi hd hm (by omega) (by omega), fb_ct_succ, sup_eq, cv_cvr]
    have fin : ∀ f : Bool, (if b01 f = 0 then some (Sum.inr (nI (fb_ct (sup P i) k) + 0, nI (k + 1))) else (some (if cvr P i (k / 10) (k % 10) = true then (1 : Int32) else 0)).bind fun q => if q = 0 then some (Sum.inr (nI (fb_ct (sup P i) k) + 0, nI (k + 1))) else some (Sum.inr (nI (fb_ct (sup P i) k) + 1, nI (k + 1)))) = (some (Sum.inr (nI (fb_ct (sup P i) k + if (f && (P.2 i 5 == 1 && cvr P i (k / 10) (k % 10))) = true then 1 else 0), nI (k + 1))) : Option ((Int32 × Int32) ⊕ (Int32 × Int32))) := fun f => by
      cases f with
      | false => simp [b01]
      | true =>
        rw [if_neg (by decide), Option.bind_some]
        by_cases hc : cvr P i (k / 10) (k % 10) = true
        · rw [if_pos hc, if_neg (by decide)]
          simp [h5, hc, show ∀ x, nI x + 1 = nI (x + 1) from fun x => nadd x 1]
        · rw [if_neg hc, if_pos rfl]
          simp [hc]
    by_cases h9 : P.2 i 9 = 0
    · rw [if_pos (by rw [h9]; rfl), show (1 : Int32) = b01 true from rfl, m_rest_in hW h hv hi rfl hk true, Option.bind_some]
      rw [show (P.2 i 9 == 0) = true by simpa using h9]
      exact fin (true || anyb (P.1 4) (rsf P i k))
    · rw [show (0 : Int32) = nI 0 from rfl, if_neg (by rw [neq (by omega) (by omega)]; exact h9), show ((nI 0 : Int32), (nI 0 : Int32)) = (b01 false, 0) from rfl, m_rest_in hW h hv hi rfl hk false, Option.bind_some]
      rw [show (P.2 i 9 == 0) = false by simpa using h9]
      exact fin (false || anyb (P.1 4) (rsf P i k))
  · simp only [gX7_rests_4]
    rw [if_pos (by decide)]
    rfl
/-! the class: covers, uppermost -/
theorem covers_eq {u : S} {b : Nat} {P : Bx} {i x y : Nat} (hW : WF P) (h : CR u b P) (hi : i < P.1 4) (hx : x < 1000) (hy : y < 1000) : fX5_covers (12 * b + i) (nI x) (nI y) u = some (if cv P i x y = true then 1 else 0) := by
  have g := hW.in1 i hi
  have hs := hW.small hi
  simp only [fX5_covers, (h.2 i hi).1 5 (by omega)]
  rcases (show P.2 i 5 = 0 ∨ P.2 i 5 = 1 by omega) with h5 | h5
  · rw [h5, if_pos nI_0, cv_cvr, h5]
    rfl
  · obtain ⟨e7, e8, e9, e10, -⟩ := (h.2 i hi).2 h5
    rw [h5, if_neg (by decide), e7, e8, e9, e10, cv_cvr, h5]
    simp only [nlt (show x < 2147483648 by omega) (show P.2 i 7 < 2147483648 by omega), nle (show P.2 i 7 + ax P i < 2147483648 by omega) (show x < 2147483648 by omega), nlt (show y < 2147483648 by omega) (show P.2 i 8 < 2147483648 by omega), nle (show P.2 i 8 + ay P i < 2147483648 by omega) (show y < 2147483648 by omega)]
    by_cases a1 : x < P.2 i 7
    · rw [if_pos a1, if_neg (by simp [cvr]; omega)]
    rw [if_neg a1]
    by_cases a2 : P.2 i 7 + ax P i ≤ x
    · rw [if_pos a2, if_neg (by simp [cvr]; omega)]
    rw [if_neg a2]
    by_cases a3 : y < P.2 i 8
    · rw [if_pos a3, if_neg (by simp [cvr]; omega)]
    rw [if_neg a3]
    by_cases a4 : P.2 i 8 + ay P i ≤ y
    · rw [if_pos a4, if_neg (by simp [cvr]; omega)]
    rw [if_neg a4, if_pos (by simp [cvr]; omega)]
def um (P : Bx) (x y : Nat) : Nat → Option Nat
  | 0 => none
  | n + 1 => if cv P n x y = true then (match um P x y n with | none => some n | some j => if tp P j < tp P n then some n else some j) else um P x y n
def umI : Option Nat → Int32
  | none => -9
  | some j => nI j
def umT (P : Bx) : Option Nat → Nat
  | none => 0
  | some j => tp P j
theorem um_in {P : Bx} {x y j : Nat} : ∀ {n : Nat}, um P x y n = some j → j < n ∧ P.2 j 5 = 1 := by
  intro n
  induction n with
  | zero => intro h; cases h
  | succ n ih =>
    intro h
    rw [um] at h
    split at h
    · rename_i hc
      split at h
      · cases h
        exact ⟨by omega, cv_in hc⟩
      · rename_i k hk
        split at h
        · cases h
          exact ⟨by omega, cv_in hc⟩
        · cases h
          exact ⟨by have := (ih hk).1; omega, (ih hk).2⟩
    · exact ⟨by have := (ih h).1; omega, (ih h).2⟩
theorem uppermost_eq {u : S} {b : Nat} {P : Bx} {x y : Nat} (hW : WF P) (h : CR u b P) (hx : x < 1000) (hy : y < 1000) : fX0_uppermost b (nI x) (nI y) u = some (umI (um P x y (P.1 4))) := by
  have hn := hW.2.2.2.2.1
  have hl := lp_for (step := gX0_uppermost_9 b (nI x) (nI y) u) (fun i => (umI (um P x y i), nI (umT P (um P x y i)), nI i)) (P.1 4) (b := (umI (um P x y (P.1 4)), nI (umT P (um P x y (P.1 4))), nI (P.1 4))) (by omega) (fun i hi => ?_) ?_
  · simp only [fX0_uppermost]
    rw [show ((-9 : Int32), (0 : Int32), (0 : Int32)) = (umI (um P x y 0), nI (umT P (um P x y 0)), nI 0) from rfl, hl]
    rfl
  · have hs := hW.small hi
    simp only [gX0_uppermost_9, h.1 4 (show 4 < 5 by omega)]
    rw [if_neg (by rw [nle (by omega) (by omega)]; omega), gd_t (inb_n (by omega) (by omega)), ncl (by omega), covers_eq hW h hi hx hy, Option.bind_some, show nI i + 1 = nI (i + 1) from nadd i 1, um]
    by_cases hc : cv P i x y = true
    · rw [if_pos hc, if_pos hc, if_neg (by decide), gd_t (inb_n (by omega) (by omega)), gd_t (inb_n (by omega) (by omega)), ((h.2 i hi).2 (cv_in hc)).2.2.2.2.2.1]
      rcases hu : um P x y i with _ | j
      · have h1 : 1 ≤ tp P i := by unfold tp; omega
        show (if nI (tp P i) ≤ nI 0 then _ else _) = _
        rw [if_neg (by rw [nle (by omega) (by omega)]; omega)]
        rfl
      · have hj := um_in hu
        have hsj := hW.small (show j < P.1 4 by omega)
        show (if nI (tp P i) ≤ nI (tp P j) then _ else _) = _
        by_cases hlt : tp P j < tp P i
        · rw [if_neg (by rw [nle (by omega) (by omega)]; omega)]
          simp only [if_pos hlt]
          rfl
        · rw [if_pos (by rw [nle (by omega) (by omega)]; omega)]
          simp only [if_neg hlt]
    · rw [if_neg hc, if_neg hc, if_pos rfl]
  · simp only [gX0_uppermost_9, h.1 4 (show 4 < 5 by omega)]
    rw [if_pos (by rw [nle (by omega) (by omega)]; omega)]
theorem m_upper {w : S} {P : Bx} {x y : Nat} (hW : WF P) (h : MR w 0 P) (hx : x < 1000) (hy : y < 1000) : lp (gX7_seen_41 (nI x) (nI y) w) FU (-9, 0) = some (umI (um P x y (P.1 4)), nI (P.1 4)) := by
  have hn := hW.2.2.2.2.1
  have hl := lp_for (step := gX7_seen_41 (nI x) (nI y) w) (fun i => (umI (um P x y i), nI i)) (P.1 4) (b := (umI (um P x y (P.1 4)), nI (P.1 4))) (by omega) (fun i hi => ?_) ?_
  · exact hl
  · have hs := hW.small hi
    simp only [gX7_seen_41, h.n, Option.bind_some]
    rw [if_neg (by rw [nle (by omega) (by omega)]; omega), show nI i + 1 = nI (i + 1) from nadd i 1]
    have us : um P x y (i + 1) = if cv P i x y = true then (match um P x y i with | none => some i | some j => if tp P j < tp P i then some i else some j) else um P x y i := rfl
    by_cases h5 : P.2 i 5 = 1
    · rw [h.isIn1 hW rfl hi h5, Option.bind_some, if_neg (by decide), m_covers hW h rfl hi rfl rfl hx hy, Option.bind_some]
      by_cases hc : cvr P i x y = true
      · rw [us, if_pos (show cv P i x y = true by simp [cv_cvr, h5, hc]), if_pos hc, if_neg (by decide), if_neg (by decide)]
        rcases hu : um P x y i with _ | j
        · rw [if_pos (by rfl)]
          rfl
        · have hj := um_in hu
          have hsj := hW.small (show j < P.1 4 by omega)
          have hne : ¬ umI (some j) = -9 := by
            have : ∀ j, j < 12 → ¬ nI j = -9 := by decide
            exact this j (by omega)
          rw [if_neg hne, m_top hn h (i := i) rfl hi, m_top hn h (v := umI (some j)) (i := j) rfl (by omega), Option.bind_some, Option.bind_some]
          show (if nI (tp P i) ≤ nI (tp P j) then _ else _) = _
          by_cases hlt : tp P j < tp P i
          · rw [if_neg (by rw [nle (by omega) (by omega)]; omega)]
            simp only [if_pos hlt]
            rfl
          · rw [if_pos (by rw [nle (by omega) (by omega)]; omega)]
            simp only [if_neg hlt]
      · rw [us, if_neg (show ¬ cv P i x y = true by simp [cv_cvr, hc]), if_neg hc, if_pos rfl, if_pos trivial]
    · rw [h.isIn0 hW rfl hi h5, Option.bind_some, if_pos rfl, if_pos trivial, us, if_neg (show ¬ cv P i x y = true by simp [cv_cvr, h5])]
  · simp only [gX7_seen_41, h.n, Option.bind_some]
    rw [if_pos (by rw [nle (by omega) (by omega)]; omega)]
theorem seen_eq {P : Bx} {u w : S} (h : RR P u w) (a b c : Int32) : ∃ r, fX6_seen a b c u = some r ∧ fX7_seen a b c w = some r := by
  obtain ⟨hW, hC, hM, -, -⟩ := h
  have hn := hW.2.2.2.2.1
  have w0 := hW.1
  have w1 := hW.2.1
  have e0 : u.1 (132 + 0) 0 = nI (P.1 0) := hC.1 0 (by omega)
  have e1 : u.1 (132 + 0) 1 = nI (P.1 1) := hC.1 1 (by omega)
  have f0 : w.1 1 0 = nI (P.1 0) := hM.at (by omega)
  have f1 : w.1 1 1 = nI (P.1 1) := hM.at (by omega)
  simp only [fX6_seen, fX7_seen, e0, e1]
  rw [gd_t (by decide), show (0 : Int32).toNatClampNeg = 0 from rfl, show (1 : Int32).toNatClampNeg = 1 from rfl, f0, f1]
  rcases witn (v := a) (A := 0) (B := nI (P.1 0) - 1) (a := 0) (b := P.1 0 - 1) rfl (nsub (b := 1) (by omega)) (by omega) (by omega) with g | ⟨x, rfl, -, hx, g⟩
  · rw [(g u w).1, (g u w).2, Option.bind_some, Option.bind_some, if_pos rfl, if_pos rfl]
    exact ⟨_, rfl, rfl⟩
  rw [(g u w).1, (g u w).2, Option.bind_some, Option.bind_some, if_neg (show ¬ (1 : Int32) = 0 by decide), if_neg (show ¬ (1 : Int32) = 0 by decide), gd_t (by decide)]
  rcases witn (v := b) (A := 0) (B := nI (P.1 1) - 1) (a := 0) (b := P.1 1 - 1) rfl (nsub (b := 1) (by omega)) (by omega) (by omega) with k | ⟨y, rfl, -, hy, k⟩
  · rw [(k u w).1, (k u w).2, Option.bind_some, Option.bind_some, if_pos rfl, if_pos rfl]
    exact ⟨_, rfl, rfl⟩
  rw [(k u w).1, (k u w).2, Option.bind_some, Option.bind_some, if_neg (show ¬ (1 : Int32) = 0 by decide), if_neg (show ¬ (1 : Int32) = 0 by decide), uppermost_eq hW hC (by omega) (by omega), m_upper hW hM (by omega) (by omega), Option.bind_some, Option.bind_some]
  rcases hu : um P x y (P.1 4) with _ | j
  · have hh : fX0_has 0 (umI none) u = some 0 := by
      simp only [fX0_has]
      rw [if_pos (by decide)]
    rw [hh, Option.bind_some, if_pos rfl]
    by_cases c0 : c = 0
    · rw [if_pos c0, if_pos c0]
      exact ⟨_, rfl, rfl⟩
    · rw [if_neg c0, if_neg c0, if_pos (show (umI none, nI (P.1 4)).1 = -9 from rfl)]
      exact ⟨_, rfl, rfl⟩
  · have hj := um_in hu
    have hne : ¬ nI j = -9 := by
      have : ∀ j, j < 12 → ¬ nI j = -9 := by decide
      exact this j (by omega)
    show ∃ r, ((fX0_has 0 (nI j) u).bind _) = _ ∧ _
    rw [has_n hn hC hj.1, Option.bind_some, if_neg (by decide)]
    show ∃ r, (if c = 0 then some (nI j) else gd (inb (nI j) 12) (some (u.1 (12 * 0 + (nI j).toNatClampNeg) 12))) = some r ∧ (if c = 0 then some (nI j) else if nI j = -9 then some 0 else (fX7_top (nI j) w).bind _) = some r
    rw [if_neg hne, gd_t (inb_n (by omega) (by omega)), ncl (by omega), ((hC.2 j hj.1).2 hj.2).2.2.2.2.2.1, m_top hn hM rfl hj.1]
    by_cases c0 : c = 0
    · rw [if_pos c0, if_pos c0]
      exact ⟨_, rfl, rfl⟩
    · rw [if_neg c0, if_neg c0]
      exact ⟨_, rfl, rfl⟩
theorem sim_seen : Sim_seen Rl := by
  intro u w a b c ⟨P, hR⟩ _
  obtain ⟨r, h1, h2⟩ := seen_eq hR a b c
  exact ⟨r, h1, h2, P, hR⟩
