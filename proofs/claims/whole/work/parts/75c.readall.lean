/-! all trays read -/
def cb (f : Nat → Nat) : Prop := (1 ≤ f 0 ∧ f 0 ≤ 10) ∧ (1 ≤ f 1 ∧ f 1 ≤ 10) ∧ (1 ≤ f 2 ∧ f 2 ≤ 9) ∧ f 3 ≤ 9 ∧ f 4 ≤ 1 ∧ ∀ k, 5 ≤ k → f k = 0
theorem trays_raw (w : S) : fX7_trays w = some (w.1 1 4) := by
  simp only [fX7_trays]
  rw [gd_t (by decide)]
  rfl
theorem tray_full {n a : Nat} {s : Nat → Nat} {T : Nat → Nat → Nat} {u0 w0 u w : S} (h0 : tx n s u0 w0) (hK : kL 12 T u0 w0 u w) (ha : aT n a u w) (h4 : w.1 1 4 = nI 12) : ∃ u' w', fX4_readTray u = some (0, u') ∧ fX7_readsTray w = some (0, w') ∧ Fr u0 w0 u' w' ∧ bad u' w' := by
  have htx := hK.1.tx h0
  have hn := h0.1
  obtain ⟨aa, ax4, ax9, ax1, ax7⟩ := id ha
  simp only [fX4_readTray, fX7_readsTray, hK.2.1, trays_raw, h4, Option.bind_some]
  rw [if_neg (show ¬ nI 12 < 12 by decide), if_pos (show nI 12 = 12 from rfl), next_eq htx ax4 aa, Option.bind_some, dig_x htx, Option.bind_some, dig_m htx ax9 aa, Option.bind_some, ax4, ax9]
  by_cases hd : dg n s a = true
  · obtain ⟨w4, e1, e2, e3, e4⟩ := failm (w := w) (k := nI 3) (p := nI a)
    obtain ⟨u4, g1, g2, g3, g4⟩ := failx (u := u) (k := nI 3) (p := nI a)
    rw [if_neg (by rw [hd]; decide), if_neg (by rw [hd]; decide), show (3 : Int32) = nI 3 from rfl, g1, e1, Option.bind_some, Option.bind_some, gd_t (show isb 0 = true by decide), gd_t (show isb 0 = true by decide)]
    exact ⟨_, _, rfl, rfl, hK.1.t g2 e2, 3, a, by omega, by omega, by omega, g3, e3, g4, e4⟩
  · rw [Bool.not_eq_true] at hd
    obtain ⟨w4, e1, e2, e3, e4⟩ := failm (w := w) (k := nI 1) (p := nI a)
    obtain ⟨u4, g1, g2, g3, g4⟩ := failx (u := u) (k := nI 1) (p := nI a)
    rw [if_pos (b01_0.mpr hd), if_pos (b01_0.mpr hd), show (1 : Int32) = nI 1 from rfl, g1, e1, Option.bind_some, Option.bind_some, gd_t (show isb 0 = true by decide), gd_t (show isb 0 = true by decide)]
    exact ⟨_, _, rfl, rfl, hK.1.t g2 e2, 1, a, by omega, by omega, by omega, g3, e3, g4, e4⟩
theorem tray_sim {n a c : Nat} {s : Nat → Nat} {T : Nat → Nat → Nat} {u0 w0 u w : S} (h0 : tx n s u0 w0) (hc : c < 12) (hK : kL c T u0 w0 u w) (ha : aT n a u w) (h4 : w.1 1 4 = nI c) : oc n c T u0 w0 cb (fX4_readTray u) (fX7_readsTray w) := by
  have hn := h0.1
  have n10 : ¬ (1 : Int32) = 0 := by decide
  obtain ⟨wa, hwa⟩ : ∃ wa, wa = up (up (lvW w c 10) 1 (5 + 10 * c + 3) 0) 1 (5 + 10 * c + 4) 0 := ⟨_, rfl⟩
  have hKa : kL c T u0 w0 u wa := by
    rw [hwa]
    exact ((hK.lv hc).wx hc (by omega)).wx hc (by omega)
  have e0 : wa.1 0 = w.1 0 := by
    rw [hwa, up_ne _ _ _ _ (by omega), up_ne _ _ _ _ (by omega)]
    funext k
    simp only [lvW]
    rw [if_neg (by omega)]
  have haa : aT n a u wa := ⟨ha.1, ha.2.1, by rw [e0]; exact ha.2.2.1, ha.2.2.2.1, by rw [e0]; exact ha.2.2.2.2⟩
  have hz : ∀ k, 3 ≤ k → k < 10 → wa.1 1 (5 + 10 * c + k) = nI 0 := fun k k3 k10 => by
    rw [hwa, up_at, up_at]
    simp only [lvW]
    by_cases k4 : k = 4
    · rw [if_pos ⟨trivial, by omega⟩]
      rfl
    rw [if_neg (by omega)]
    by_cases e3 : k = 3
    · rw [if_pos ⟨trivial, by omega⟩]
      rfl
    rw [if_neg (by omega), if_pos ⟨trivial, by omega, by omega⟩]
    rfl
  have hz4 : wa.1 1 4 = nI c := by
    rw [hwa, up_at, if_neg (by omega), up_at, if_neg (by omega)]
    simp only [lvW]
    rw [if_neg (by omega)]
    exact h4
  have hx : fX4_readTray u = (fX4_readNumber 10 u).bind fun q1 => if q1.1 = 0 then some (0, q1.2) else (fX4_readSign 120 q1.2).bind fun q2 => if q2.1 = 0 then some (0, q2.2) else (fX4_readNumber 10 q2.2).bind fun q3 => if q3.1 = 0 then some (0, q3.2) else (fX4_readSign 120 q3.2).bind fun q4 => if q4.1 = 0 then some (0, q4.2) else (fX4_readNumber 9 q4.2).bind fun q5 => if q5.1 = 0 then some (0, q5.2) else gd (inb (q5.2.1 (132 + 10) 4) 12) <| (fX5_become (12 * 10 + (q5.2.1 (132 + 10) 4).toNatClampNeg) (q1.2.1 160 5) (q3.2.1 160 5) (q5.2.1 160 5) 0 q5.2).bind fun q7 => LXX (12 * 10 + (q5.2.1 (132 + 10) 4).toNatClampNeg) q7 := by
    simp only [fX4_readTray, hK.2.1]
    rw [if_pos (by rw [show (12 : Int32) = nI 12 from rfl, nlt (by omega) (by omega)]; exact hc)]
    rfl
  have hm : fX7_readsTray w = (fX7_readsInto (nI c) 0 10 wa).bind fun q5 => if q5.1 = 0 then some (0, q5.2) else (fX7_takes 120 q5.2).bind fun q6 => if q6.1 = 0 then some (0, q6.2) else (fX7_readsInto (nI c) 1 10 q6.2).bind fun q7 => if q7.1 = 0 then some (0, q7.2) else (fX7_takes 120 q7.2).bind fun q8 => if q8.1 = 0 then some (0, q8.2) else (fX7_readsInto (nI c) 2 9 q8.2).bind fun q9 => if q9.1 = 0 then some (0, q9.2) else LMM (nI c) q9.2 := by
    simp only [fX7_readsTray, trays_raw, h4, Option.bind_some]
    rw [if_neg (by rw [show (12 : Int32) = nI 12 from rfl, neq (by omega) (by omega)]; omega), leaves_eq (i := c) rfl (by omega), Option.bind_some, sets_at (v1 := nI c) (v2 := 3) (k := 3) rfl rfl (by omega), Option.bind_some, sets_at (v1 := nI c) (v2 := 4) (k := 4) rfl rfl (by omega), Option.bind_some, ← hwa]
    rfl
  rw [hx, hm]
  rcases into_sim (k := 0) (hi := 10) h0 hc (by omega) (by omega) (by omega) hKa haa with ⟨x, a1, u1, w1, p1, p2, p3, p4, p5, p6, p7, p8, p9⟩ | ⟨u1, w1, p1, p2, p3⟩
  rotate_left
  · rw [show fX4_readNumber 10 u = _ from p1, show fX7_readsInto (nI c) 0 10 wa = _ from p2]
    exact Or.inr ⟨u1, w1, rfl, rfl, p3⟩
  rw [show fX4_readNumber 10 u = _ from p1, show fX7_readsInto (nI c) 0 10 wa = _ from p2, Option.bind_some, Option.bind_some, if_neg n10, if_neg n10, p5]
  rcases sK (q := 120) h0 (by omega) p3 p4 (by omega) (by omega) with ⟨a2, u2, w2, q1, q2, q3, q4, q5, q6⟩ | ⟨u2, w2, q1, q2, q3⟩
  rotate_left
  · rw [show fX4_readSign 120 u1 = _ from q1, show fX7_takes 120 w1 = _ from q2]
    exact Or.inr ⟨u2, w2, rfl, rfl, q3⟩
  rw [show fX4_readSign 120 u1 = _ from q1, show fX7_takes 120 w1 = _ from q2, Option.bind_some, Option.bind_some, if_neg n10, if_neg n10]
  rcases into_sim (k := 1) (hi := 10) h0 hc (by omega) (by omega) (by omega) q3 q4 with ⟨y, a3, u3, w3, r1, r2, r3, r4, r5, r6, r7, r8, r9⟩ | ⟨u3, w3, r1, r2, r3⟩
  rotate_left
  · rw [show fX4_readNumber 10 u2 = _ from r1, show fX7_readsInto (nI c) 1 10 w2 = _ from r2]
    exact Or.inr ⟨u3, w3, rfl, rfl, r3⟩
  rw [show fX4_readNumber 10 u2 = _ from r1, show fX7_readsInto (nI c) 1 10 w2 = _ from r2, Option.bind_some, Option.bind_some, if_neg n10, if_neg n10, r5]
  rcases sK (q := 120) h0 (by omega) r3 r4 (by omega) (by omega) with ⟨a4, u4, w4, s1, s2, s3, s4, s5, s6⟩ | ⟨u4, w4, s1, s2, s3⟩
  rotate_left
  · rw [show fX4_readSign 120 u3 = _ from s1, show fX7_takes 120 w3 = _ from s2]
    exact Or.inr ⟨u4, w4, rfl, rfl, s3⟩
  rw [show fX4_readSign 120 u3 = _ from s1, show fX7_takes 120 w3 = _ from s2, Option.bind_some, Option.bind_some, if_neg n10, if_neg n10]
  rcases into_sim (k := 2) (hi := 9) h0 hc (by omega) (by omega) (by omega) s3 s4 with ⟨z, a5, u5, w5, t1, t2, t3, t4, t5, t6, t7, t8, t9⟩ | ⟨u5, w5, t1, t2, t3⟩
  rotate_left
  · rw [show fX4_readNumber 9 u4 = _ from t1, show fX7_readsInto (nI c) 2 9 w4 = _ from t2]
    exact Or.inr ⟨u5, w5, rfl, rfl, t3⟩
  rw [show fX4_readNumber 9 u4 = _ from t1, show fX7_readsInto (nI c) 2 9 w4 = _ from t2, Option.bind_some, Option.bind_some, if_neg n10, if_neg n10, t5, t3.2.1, gd_t (inb_n (by omega) (by omega)), ncl (by omega)]
  have hw5 : ∀ j, j ≠ 5 + 10 * c + 0 → j ≠ 5 + 10 * c + 1 → j ≠ 5 + 10 * c + 2 → w5.1 1 j = wa.1 1 j := fun j h1 h2 h3 => by rw [t9 j h3, s5, r9 j h2, q5, p9 j h1]
  have hB : fX5_become (12 * 10 + c) (nI x) (nI y) (nI z) 0 u5 = some (up (up (up (up (up (up (up u5 (12 * 10 + c) 0 (nI x)) (12 * 10 + c) 1 (nI y)) (12 * 10 + c) 2 (nI z)) (12 * 10 + c) 3 0) (12 * 10 + c) 4 0) (12 * 10 + c) 5 0) (12 * 10 + c) 6 0) := rfl
  rw [hB, Option.bind_some]
  have hK6 := ((((((t3.ux hc (k := 0) (v := nI x)).ux hc (k := 1) (v := nI y)).ux hc (k := 2) (v := nI z)).ux hc (k := 3) (v := 0)).ux hc (k := 4) (v := 0)).ux hc (k := 5) (v := 0)).ux hc (k := 6) (v := 0)
  have ho : 12 * 10 + c ≠ 160 := by omega
  have hA6 := ((((((t4.ux ho (k := 0) (v := nI x)).ux ho (k := 1) (v := nI y)).ux ho (k := 2) (v := nI z)).ux ho (k := 3) (v := 0)).ux ho (k := 4) (v := 0)).ux ho (k := 5) (v := 0)).ux ho (k := 6) (v := 0)
  refine (lid_sim (f := fun k => if k = 0 then x else if k = 1 then y else if k = 2 then z else 0) h0 hc hK6 hA6 (by rw [hw5 4 (by omega) (by omega) (by omega)]; exact hz4) (fun k hk => ?_) (fun k hk => ?_) (by show (if 3 = 0 then x else if 3 = 1 then y else if 3 = 2 then z else 0) ≤ 9; simp) (by show (if 4 = 0 then x else if 4 = 1 then y else if 4 = 2 then z else 0) ≤ 1; simp)).mono (fun g hg => ?_)
  · rcases (show k = 0 ∨ k = 1 ∨ k = 2 ∨ k = 3 ∨ k = 4 ∨ k = 5 ∨ k = 6 by omega) with rfl | rfl | rfl | rfl | rfl | rfl | rfl <;> simp [up_at] <;> rfl
  · by_cases k0 : k = 0
    · subst k0
      show _ = nI x
      rw [t9 _ (by omega), s5, r9 _ (by omega), q5]
      exact p8
    by_cases k1 : k = 1
    · subst k1
      show _ = nI y
      rw [t9 _ (by omega), s5]
      exact r8
    by_cases k2 : k = 2
    · subst k2
      show _ = nI z
      exact t8
    · rw [hw5 _ (by omega) (by omega) (by omega), hz k (by omega) hk]
      show _ = nI (if k = 0 then x else if k = 1 then y else if k = 2 then z else 0)
      rw [if_neg k0, if_neg k1, if_neg k2]
  · have g0 : g 0 = x := hg.1 0 (by omega) (by omega)
    have g1 : g 1 = y := hg.1 1 (by omega) (by omega)
    have g2 : g 2 = z := hg.1 2 (by omega) (by omega)
    refine ⟨by rw [g0]; exact ⟨p6, p7⟩, by rw [g1]; exact ⟨r6, r7⟩, by rw [g2]; exact ⟨t6, t7⟩, hg.2.1, hg.2.2, fun k hk => ?_⟩
    rw [hg.1 k (by omega) (by omega)]
    show (if k = 0 then x else if k = 1 then y else if k = 2 then z else 0) = 0
    rw [if_neg (by omega), if_neg (by omega), if_neg (by omega)]
theorem loops_sim {n : Nat} {s : Nat → Nat} {u0 w0 : S} (h0 : tx n s u0 w0) : ∀ (k c a : Nat) (T : Nat → Nat → Nat) (u w : S) (F : Nat), c + k = 12 → k + 2 < F → kL c T u0 w0 u w → aT n a u w → w.1 1 4 = nI c → (∀ i, i < c → cb (T i)) →
    (∃ c' T' a' i' u' w', lp gX4_read_20 F (nI c, u) = some (i', u') ∧ lp gX7_load_26 F (1, w) = some (1, w') ∧ c' ≤ 12 ∧ kL c' T' u0 w0 u' w' ∧ aT n a' u' w' ∧ w'.1 1 4 = nI c' ∧ ∀ i, i < c' → cb (T' i)) ∨ ∃ i' u' w', lp gX4_read_20 F (nI c, u) = some (i', u') ∧ lp gX7_load_26 F (1, w) = some (0, w') ∧ Fr u0 w0 u' w' ∧ bad u' w' := by
  intro k
  induction k with
  | zero =>
    intro c a T u w F hck hF hK ha h4 hT
    obtain ⟨F, rfl⟩ : ∃ F', F = F' + 1 + 1 := ⟨F - 2, by omega⟩
    have hc : c = 12 := by omega
    subst hc
    have hn := h0.1
    have htx := hK.1.tx h0
    by_cases hl : a < n
    · right
      obtain ⟨u', w', e1, e2, e3, e4⟩ := tray_full h0 hK ha h4
      have hs1 : gX4_read_20 (nI 12, u) = some (.inr (nI 12 + 1, u')) := by
        simp only [gX4_read_20, ha.2.1, ha.2.2.2.1, htx.2.1]
        rw [if_neg (show ¬ 12 < nI 12 by decide), if_neg (by rw [nle (by omega) (by omega)]; omega), if_pos trivial, e1, Option.bind_some, if_pos rfl]
      have hs2 : gX4_read_20 (nI 12 + 1, u') = some (.inl (nI 12 + 1, u')) := by
        simp only [gX4_read_20]
        rw [if_pos (by decide)]
      have hm1 : gX7_load_26 (1, w) = some (.inr (0, w')) := by
        simp only [gX7_load_26, ha.2.2.1, htx.2.2.1]
        rw [if_neg (show ¬ (1 : Int32) = 0 by decide), if_neg (by rw [nle (by omega) (by omega)]; omega), e2, Option.bind_some]
      have hm2 : gX7_load_26 (0, w') = some (.inl (0, w')) := by
        simp only [gX7_load_26]
        rw [if_pos trivial]
      exact ⟨_, u', w', by rw [lp_r hs1, lp_l hs2], by rw [lp_r hm1, lp_l hm2], e3, e4⟩
    · left
      have hs1 : gX4_read_20 (nI 12, u) = some (.inl (nI 12, u)) := by
        simp only [gX4_read_20, ha.2.1, htx.2.1]
        rw [if_neg (show ¬ 12 < nI 12 by decide), if_pos (by have := ha.1; rw [nle (by omega) (by omega)]; omega)]
      have hm1 : gX7_load_26 (1, w) = some (.inl (1, w)) := by
        simp only [gX7_load_26, ha.2.2.1, htx.2.2.1]
        rw [if_neg (show ¬ (1 : Int32) = 0 by decide), if_pos (by have := ha.1; rw [nle (by omega) (by omega)]; omega)]
      exact ⟨12, T, a, _, u, w, lp_l hs1, lp_l hm1, by omega, hK, ha, h4, hT⟩
  | succ k ih =>
    intro c a T u w F hck hF hK ha h4 hT
    obtain ⟨F, rfl⟩ : ∃ F', F = F' + 1 + 1 := ⟨F - 2, by omega⟩
    have hn := h0.1
    have htx := hK.1.tx h0
    have h12 : ¬ (12 : Int32) < nI c := by rw [show (12 : Int32) = nI 12 from rfl, nlt (by omega) (by omega)]; omega
    by_cases hl : a < n
    · have hs1 : gX4_read_20 (nI c, u) = (fX4_readTray u).bind fun q104 => if q104.1 = 0 then some (.inr (nI c + 1, q104.2)) else (nm (up q104.2 (132 + 10) 4 ((q104.2.1 (132 + 10) 4) + 1)) fun u105 => some (.inr (nI c + 1, u105))) := by
        simp only [gX4_read_20, ha.2.1, ha.2.2.2.1, htx.2.1]
        rw [if_neg h12, if_neg (by rw [nle (by omega) (by omega)]; omega), if_pos trivial]
      have hm1 : gX7_load_26 (1, w) = (fX7_readsTray w).bind fun q105 => some (.inr (q105.1, q105.2)) := by
        simp only [gX7_load_26, ha.2.2.1, htx.2.2.1]
        rw [if_neg (show ¬ (1 : Int32) = 0 by decide), if_neg (by rw [nle (by omega) (by omega)]; omega)]
      rcases tray_sim h0 (by omega) hK ha h4 with ⟨a', f, u', w', e1, e2, e3, e4, e5, e6, e7, e8⟩ | ⟨u', w', e1, e2, e3, e4⟩
      · rw [e1, Option.bind_some, if_neg (show ¬ (1 : Int32) = 0 by decide), nm_k, e4.2.1, show nI c + 1 = nI (c + 1) from nadd c 1] at hs1
        rw [e2, Option.bind_some] at hm1
        rw [lp_r hs1, lp_r hm1]
        refine ih (c + 1) a' (fun i => if i = c then f else T i) _ _ (F + 1) (by omega) (by omega) ⟨⟨fun j a b d => by rw [up_ne _ _ _ _ (by omega)]; exact e4.1.1 j a b d, by rw [up_ne _ _ _ _ (by omega)]; exact e4.1.2.1, e4.1.2.2⟩, by rw [up_at, if_pos ⟨rfl, rfl⟩], fun i j hi hj => ?_, fun i j hi hj => ?_⟩ (e5.ux (by omega)) e6 (fun i hi => ?_)
        · rw [up_ne _ _ _ _ (by omega)]
          by_cases hic : i = c
          · simp only [if_pos hic]
            rw [hic]
            exact e7 j hj
          · simp only [if_neg hic]
            exact e4.2.2.1 i j (by omega) hj
        · by_cases hic : i = c
          · simp only [if_pos hic]
            rw [hic]
            exact e8 j hj
          · simp only [if_neg hic]
            exact e4.2.2.2 i j (by omega) hj
        · by_cases hic : i = c
          · simp only [if_pos hic]
            exact e3
          · simp only [if_neg hic]
            exact hT i (by omega)
      · right
        rw [e1, Option.bind_some, if_pos rfl] at hs1
        rw [e2, Option.bind_some] at hm1
        obtain ⟨p, q, b1, b2, b3, b4, b5, b6, b7⟩ := id e4
        have hs2 : gX4_read_20 (nI c + 1, u') = some (.inl (nI c + 1, u')) := by
          simp only [gX4_read_20, b4]
          rw [if_neg (c := nI p = 0) (by rw [show (0 : Int32) = nI 0 from rfl, neq (by omega) (by omega)]; omega)]
          split
          · rfl
          · split <;> rfl
        have hm2 : gX7_load_26 (0, w') = some (.inl (0, w')) := by
          simp only [gX7_load_26]
          rw [if_pos trivial]
        exact ⟨_, u', w', by rw [lp_r hs1, lp_l hs2], by rw [lp_r hm1, lp_l hm2], e3, e4⟩
    · left
      have hs1 : gX4_read_20 (nI c, u) = some (.inl (nI c, u)) := by
        simp only [gX4_read_20, ha.2.1, htx.2.1]
        rw [if_neg h12, if_pos (by have := ha.1; rw [nle (by omega) (by omega)]; omega)]
      have hm1 : gX7_load_26 (1, w) = some (.inl (1, w)) := by
        simp only [gX7_load_26, ha.2.2.1, htx.2.2.1]
        rw [if_neg (show ¬ (1 : Int32) = 0 by decide), if_pos (by have := ha.1; rw [nle (by omega) (by omega)]; omega)]
      exact ⟨c, T, a, _, u, w, lp_l hs1, lp_l hm1, by omega, hK, ha, h4, hT⟩
