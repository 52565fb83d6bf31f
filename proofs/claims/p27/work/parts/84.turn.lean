/-! letting down, taking out; the law's turn; placed -/
abbrev room (P : Bx) (t x y w : Nat) : Prop := x + axt P t w ≤ P.1 0 ∧ y + ayt P t w ≤ P.1 1
theorem flr_pos {P : Bx} (hW : WF P) {t x y w : Nat} (ht : t < P.1 4) : 1 ≤ (flr P t x y w).2 := by
  have ha := axt_le hW ht w
  unfold flr
  obtain ⟨i, j, hi, hj, he⟩ := fs2_at (s := fun j i => tpm P (x + i) (y + j)) (a := axt P t w) (b := ayt P t w) (by omega) (by omega)
  have h2 := (fs2_eq (fun j i => tpm P (x + i) (y + j)) (axt P t w) (ayt P t w)).2
  rw [h2]
  have h3 := fb_sm_part (fun j => fb_ct (fun i => (fun j i => tpm P (x + i) (y + j)) j i == (fs2 (fun j i => tpm P (x + i) (y + j)) (axt P t w) (ayt P t w)).1) (axt P t w)) hj
  have h4 : 0 < fb_ct (fun i => (fun j i => tpm P (x + i) (y + j)) j i == (fs2 (fun j i => tpm P (x + i) (y + j)) (axt P t w) (ayt P t w)).1) (axt P t w) := fb_ct_pos.mpr ⟨i, hi, by rw [he]; simp⟩
  exact Nat.le_trans (Nat.succ_le_of_lt h4) (Nat.le_trans (Nat.le_add_left _ _) h3)
theorem GP_plc {P : Bx} {t x y w : Nat} (hW : WF P) (hG : GP P) (ht : t < P.1 4) (h5 : P.2 t 5 = 0) (hr : room P t x y w) : GP (plc P t x y w) := by
  intro i hi h1
  have hi : i < P.1 4 := hi
  by_cases hit : i = t
  · subst hit
    rw [plc_rs hW ht (by omega) hr.1 hr.2]
    exact flr_pos hW ht
  · rw [plc_o hit] at h1
    rw [plc_rs_o hW ht hi (by omega) hit h1]
    exact hG i hi h1
theorem Z6_plc {P : Bx} {t x y w : Nat} (hz : Z6 P) : Z6 (plc P t x y w) := fun j hj h0 => by
  by_cases hji : j = t
  · subst hji
    rw [plc_5] at h0
    omega
  · rw [plc_o hji] at h0 ⊢
    exact hz j hj h0
theorem rs_out {P : Bx} {t j : Nat} (hz : ab P t = 0) (hn : P.1 4 ≤ 12) (h5 : P.2 t 5 = 1) (hj : j < P.1 4) (hji : j ≠ t) (j5 : P.2 j 5 = 1) : rs (out P t) j = rs P j :=
  rs_wo rfl (fun a ha => out_o ha) hji (fun q1 q2 q3 => by
    have := no_lo ((am_zero hn).mp hz) hj
    simp [lo, j5, h5, q2, q3] at this) (fun q1 => by simp [out] at q1)
theorem GP_out {P : Bx} {t : Nat} (hn : P.1 4 ≤ 12) (hG : GP P) (h5 : P.2 t 5 = 1) (hz : ab P t = 0) : GP (out P t) := by
  intro i hi h1
  have hi : i < P.1 4 := hi
  by_cases hit : i = t
  · subst hit
    simp [out] at h1
  · rw [out_o hit] at h1
    rw [rs_out hz hn h5 hi hit h1]
    exact hG i hi h1
theorem Z6_out {P : Bx} {t : Nat} (hz : Z6 P) : Z6 (out P t) := fun j hj h0 => by
  show (if j = t ∧ 5 ≤ 6 then 0 else P.2 j 6) = 0
  by_cases hji : j = t
  · rw [if_pos ⟨hji, by omega⟩]
  · rw [if_neg (fun q => hji q.1)]
    have h0 : (if j = t ∧ 5 ≤ 5 then 0 else P.2 j 5) = 0 := h0
    rw [if_neg (fun q => hji q.1)] at h0
    exact hz j hj h0
theorem HS.of {u u' : S} (h : u'.1 158 = u.1 158) (hH : HS u) : HS u' := by
  obtain ⟨n, o, h1, h2, h3, h4⟩ := hH
  exact ⟨n, o, h1, h2, by rw [h]; exact h3, by rw [h]; exact h4⟩
theorem c_letDown {P : Bx} {u : S} {t x y w : Nat} (hR : RX P u) (ht : t < P.1 4) (hw : w ≤ 1) (hx : x < 2147483648) (hy : y < 2147483648) :
    (¬ room P t x y w → fX6_letDown (nI t) (nI x) (nI y) (nI w) u = some (-1, u)) ∧ (room P t x y w → P.2 t 5 = 1 → fX6_letDown (nI t) (nI x) (nI y) (nI w) u = some (-2, u)) ∧ (room P t x y w → P.2 t 5 = 0 → fits P t x y w = false → ∃ u', fX6_letDown (nI t) (nI x) (nI y) (nI w) u = some (-3, u') ∧ NX u u') ∧ (room P t x y w → P.2 t 5 = 0 → fits P t x y w = true → ∃ u', fX6_letDown (nI t) (nI x) (nI y) (nI w) u = some (nI (flr P t x y w).1, u') ∧ RX (plc P t x y w) u') := by
  obtain ⟨hW, hC, hz, hH⟩ := id hR
  have hn := hW.2.2.2.2.1
  have w0 := hW.1
  have w1 := hW.2.1
  have w2 := hW.2.2.1
  have htl := tl_le hW ht
  have ge : ∀ v : Option (Int32 × S), gd (inb (nI t) 12) v = v := fun v => gd_t (inb_n (by omega) (by omega))
  simp only [fX6_letDown]
  rw [has_n hn hC ht, Option.bind_some, if_neg (show ¬ (1 : Int32) = 0 by decide)]
  simp only [ge, ncl (show t < 2147483648 by omega)]
  rw [encl_n hW hC ht hw hx hy, Option.bind_some, (hC.2 t ht).1 5 (show 5 < 7 by omega)]
  refine ⟨fun h => ?_, fun he h5 => ?_, fun he h5 hf => ?_, fun he h5 hf => ?_⟩
  · rw [if_neg h, if_pos rfl]
  · rw [if_pos he, if_neg (show ¬ (1 : Int32) = 0 by decide), h5, if_neg (show ¬ nI 1 = 0 by decide)]
  all_goals
    have hC1 := tT_CR (g := 0) (F := tpF P) (show 0 < 11 by omega) hn hC
    obtain ⟨p', q1, q2⟩ := holds_eq (g := 0) (v6 := nI (P.1 2) - nI (tl P t)) (h := hi1 P t none) hW hC1 (show 0 < 11 by omega) ht hw (fun k hk => tT_at hk) (subI (by omega) (by omega)) hx hy
    rw [hok_fits (c := none) (fun d hd => by cases hd)] at q1 q2
    rw [show (fits P t x y w && lower (flr P t x y w).1 none) = fits P t x y w from Bool.and_true _] at q1 q2
    rw [if_pos he, if_neg (show ¬ (1 : Int32) = 0 by decide), h5, if_pos nI_0, survey_eq hW hC (by omega), Option.bind_some]
    simp only [fX0_highestFloor, tall_eq hC1 ht, Option.bind_some, hC1.1 2 (show 2 < 5 by omega), q1, hf]
  · rw [if_pos (show b01 false = 0 from rfl)]
    exact ⟨_, rfl, fun j hj => by
      unfold scrC at hj
      rw [hs_ne (by omega), tT_ne (by omega)]⟩
  · have hp := q2 hf
    subst hp
    have hNX : NX u (hs (tT u 0 (tpF P)) 0 (flr P t x y w)) := fun j hj => by
      unfold scrC at hj
      rw [hs_ne (by omega), tT_ne (by omega)]
    obtain ⟨u2, r1, hR2, -, kx⟩ := c_record (hNX.RX hR)
    have x1 : u2.1 (154 + 0) 1 = nI (flr P t x y w).1 := by rw [kx 154 (by unfold scrC; omega)]; exact hs_1 (g := 0)
    have x2 : u2.1 (154 + 0) 2 = nI (flr P t x y w).2 := by rw [kx 154 (by unfold scrC; omega)]; exact hs_2 (g := 0)
    have h5' : ¬ P.2 t 5 = 1 := by omega
    obtain ⟨u3, l1, l2, l3, l4, l5⟩ := lie_CR (b := 0) (by omega) hR2.2.1 hn ht hw (plc_rs hW ht h5' he.1 he.2) (fun j hj hji j5 => plc_rs_o hW ht hj h5' hji j5)
    have hft : (flr P t x y w).1 + tl P t ≤ P.1 2 := by
      simp only [fits, cok, Bool.and_eq_true, decide_eq_true_eq] at hf
      exact hf.2.1
    rw [if_neg (show ¬ b01 true = 0 by decide), r1, Option.bind_some, x1, x2, l1, Option.bind_some, l5]
    exact ⟨u3, rfl, plc_WF hW ht h5' hw he.1 he.2 hft, l2, Z6_plc hz, HS.of (l3 158 (by omega)) hR2.2.2.2⟩
theorem leave_CR {u : S} {P : Bx} {t : Nat} (hW : WF P) (hC : CR u 0 P) (ht : t < P.1 4) (h5 : P.2 t 5 = 1) (hz : ab P t = 0) : CR (up (up u (12 * 0 + t) 5 0) (12 * 0 + t) 6 0) 0 (out P t) := by
  have hn := hW.2.2.2.2.1
  refine ⟨fun k hk => ?_, fun j hj => ?_⟩
  · rw [up_ne _ _ _ _ (by omega), up_ne _ _ _ _ (by omega)]
    exact hC.1 k hk
  · have hj : j < P.1 4 := hj
    by_cases hji : j = t
    · subst hji
      refine ⟨fun k hk => ?_, fun q => ?_⟩
      · have := (hC.2 j hj).1 k hk
        rw [up_at, up_at]
        by_cases k5 : 5 ≤ k
        · show _ = nI (if j = j ∧ 5 ≤ k then 0 else P.2 j k)
          rw [if_pos (c := j = j ∧ 5 ≤ k) ⟨rfl, k5⟩]
          by_cases k6 : k = 6
          · rw [if_pos (by omega)]; rfl
          · rw [if_neg (by omega), if_pos (by omega)]; rfl
        · show _ = nI (if j = j ∧ 5 ≤ k then 0 else P.2 j k)
          rw [if_neg (by omega), if_neg (by omega), if_neg (by omega)]
          exact this
      · simp [out] at q
    · have := hC.2 j hj
      unfold CT at this ⊢
      have er : P.2 j 5 = 1 → rs (out P t) j = rs P j := fun j5 => rs_out hz hn h5 hj hji j5
      have ea : ax (out P t) j = ax P j ∧ ay (out P t) j = ay P j := by
        unfold ax ay axt ayt
        rw [out_o hji]
        exact ⟨rfl, rfl⟩
      rw [up_ne _ _ _ _ (by omega), up_ne _ _ _ _ (by omega), tp_c (out_o hji), ea.1, ea.2, out_o hji]
      exact ⟨this.1, fun q => by rw [er q]; exact this.2 q⟩
theorem c_takeOut {P : Bx} {u : S} {t : Nat} (hR : RX P u) (ht : t < P.1 4) (h5 : P.2 t 5 = 1) :
    (¬ ab P t = 0 → fX6_takeOut (nI t) u = some (-2, u)) ∧ (ab P t = 0 → ∃ u', fX6_takeOut (nI t) u = some (nI (P.2 t 9), u') ∧ RX (out P t) u') := by
  obtain ⟨hW, hC, hz6, hH⟩ := id hR
  have hn := hW.2.2.2.2.1
  have ge : ∀ v : Option (Int32 × S), gd (inb (nI t) 12) v = v := fun v => gd_t (inb_n (by omega) (by omega))
  simp only [fX6_takeOut]
  rw [has_n hn hC ht, Option.bind_some, if_neg (show ¬ (1 : Int32) = 0 by decide)]
  simp only [ge, ncl (show t < 2147483648 by omega)]
  rw [(hC.2 t ht).1 5 (show 5 < 7 by omega), h5, if_neg (show ¬ nI 1 = 0 by decide), isFree_eq hW hC ht, Option.bind_some]
  refine ⟨fun hz => ?_, fun hz => ?_⟩
  · rw [if_neg (fun q => hz ((am_zero hn).mpr q)), if_pos rfl]
  · rw [if_pos ((am_zero hn).mp hz), if_neg (show ¬ (1 : Int32) = 0 by decide)]
    obtain ⟨u1, g1, hR1, -, k1⟩ := c_record hR
    rw [g1, Option.bind_some, leave_eq, Option.bind_some, up_at, up_at, if_neg (by omega), if_neg (by omega), ((hR1.2.1.2 t ht).2 h5).2.2.2.2.1]
    exact ⟨_, rfl, out_WF hW, leave_CR hW hR1.2.1 ht h5 hz, Z6_out hz6, HS.of (by rw [up_ne _ _ _ _ (by omega), up_ne _ _ _ _ (by omega)]) hR1.2.2.2⟩
theorem NX_mg {u q : S} (h : NX u q) : NX u (mgS 168 u q) := fun j hj => by
  funext k
  by_cases h1 : j < 168
  · simp only [mgS, if_pos h1]
    rw [h j hj]
  · simp only [mgS, if_neg h1]
theorem NX_zr (u : S) : NX u (zrS 168 u) := fun j hj => by
  unfold scrC at hj
  funext k
  simp only [zrS]
  rw [if_neg (by omega)]
theorem NX_up (u : S) (v : Int32) : NX u (up u 168 0 v) := fun j hj => by
  unfold scrC at hj
  exact up_ne _ _ _ _ (by omega)
theorem c_placed {P : Bx} {u : S} {t : Nat} (hW : WF P) (hC : CR u 0 P) (ht : t < P.1 4) : ∃ u', fL_placed (nI t) u = some (1, u') ∧ NX u u' := by
  have hn := hW.2.2.2.2.1
  have h51 := hW.in1 t ht
  simp only [fL_placed]
  rw [c_t5 hW hC ht, Option.bind_some]
  rcases (show P.2 t 5 = 0 ∨ P.2 t 5 = 1 by omega) with h5 | h5
  · rw [h5, if_neg (show ¬ nI 0 = 1 by decide), nm_k]
    obtain ⟨u2, hu2⟩ : ∃ u2, u2 = zrS 168 u := ⟨_, rfl⟩
    have n2 : NX u u2 := hu2 ▸ NX_zr u
    have z2 : u2.1 168 0 = 0 := by rw [hu2]; simp [zrS]
    have hC2 := n2.CR (b := 0) (by omega) hn hC
    obtain ⟨b1, b2⟩ := c_best hW hC2 ht z2
    obtain ⟨u3, hu3⟩ : ∃ u3, u3 = up u2 168 0 (nI (cnt P t)) := ⟨_, rfl⟩
    have n3 : NX u u3 := n2.trans (hu3 ▸ NX_up u2 _)
    obtain ⟨u4, p1, n4⟩ := c_places hW (n3.CR (b := 0) (by omega) hn hC) ht h5
    obtain ⟨u5, hu5⟩ : ∃ u5, u5 = mgS 168 u3 u4 := ⟨_, rfl⟩
    have n5 : NX u u5 := n3.trans (hu5 ▸ NX_mg n4)
    have z5 : u5.1 168 0 = nI (cnt P t) := by
      rw [hu5]
      simp only [mgS]
      rw [if_neg (by omega), hu3, up_get]
    rw [← hu2, b1, Option.bind_some, ← hu3, p1, Option.bind_some]
    simp only [nm_k]
    rw [← hu5, gd_t (by decide), show (0 : Int32).toNatClampNeg = 0 from rfl, z5, if_pos rfl]
    have pl : ∀ (v : S) (k : Nat), k ≤ 3 → NX u v → ∃ v', fX6_place (nI t) (nI k) v = some (plV P t k, v') ∧ NX u (mgS 168 v v') := fun v k hk hv => by
      obtain ⟨v', e1, e2⟩ := c_place hW (hv.CR (b := 0) (by omega) hn hC) ht hk h5
      exact ⟨v', e1, hv.trans (NX_mg e2)⟩
    rcases hb : best P t with _ | d
    · obtain ⟨v1, e1, m1⟩ := pl u5 3 (by omega) n5
      rw [show bN P t none = -1 from rfl, if_neg (by decide), show (3 : Int32) = nI 3 from rfl, e1, Option.bind_some]
      have hv : plV P t 3 = -9 := by simp [plV, hb]
      simp only [hv, if_pos]
      exact ⟨_, rfl, m1⟩
    · obtain ⟨q1, q2, q3, q4⟩ := b2 d hb
      have htl := tl_le hW ht
      obtain ⟨v0, e0, m0⟩ := pl u5 0 (by omega) n5
      obtain ⟨v1, e1, m1⟩ := pl _ 1 (by omega) m0
      obtain ⟨v2, e2, m2⟩ := pl _ 2 (by omega) m1
      obtain ⟨v3, e3, m3⟩ := pl _ 3 (by omega) m2
      have f0 : plV P t 0 = nI d.1 := by simp [plV, hb]
      have f1 : plV P t 1 = nI d.2.1 := by simp [plV, hb]
      have f2 : plV P t 2 = nI d.2.2.1 := by simp [plV, hb]
      have f3 : plV P t 3 = nI (d.2.2.2.1 + tl P t) := by simp [plV, hb]
      have hN : bN P t (some d) = nI (1000 * (d.2.2.2.1 + tl P t) + 100 * d.2.1 + 10 * d.1 + d.2.2.1) := rfl
      have g0 : bN P t (some d) / 10 % 10 = nI d.1 := by
        rw [hN, show (10 : Int32) = nI 10 from rfl, ndiv (by omega) (by omega), nmod (by omega) (by omega)]
        congr 1; omega
      have g1 : bN P t (some d) / 100 % 10 = nI d.2.1 := by
        rw [hN, show (10 : Int32) = nI 10 from rfl, show (100 : Int32) = nI 100 from rfl, ndiv (by omega) (by omega), nmod (by omega) (by omega)]
        congr 1; omega
      have g2 : bN P t (some d) % 10 = nI d.2.2.1 := by
        rw [hN, show (10 : Int32) = nI 10 from rfl, nmod (by omega) (by omega)]
        congr 1; omega
      have g3 : bN P t (some d) / 1000 = nI (d.2.2.2.1 + tl P t) := by
        rw [hN, show (1000 : Int32) = nI 1000 from rfl, ndiv (by omega) (by omega)]
        congr 1; omega
      rw [if_pos (show (0 : Int32) ≤ bN P t (some d) from (by rw [hN, show (0 : Int32) = nI 0 from rfl, nle (by omega) (by omega)]; omega)), g0, g1, g2, g3]
      rw [show fX6_place (nI t) 0 u5 = _ from e0, Option.bind_some]
      simp only [f0, if_pos]
      rw [show fX6_place (nI t) 1 (mgS 168 u5 v0) = _ from e1, Option.bind_some]
      simp only [f1, if_pos]
      rw [show fX6_place (nI t) 2 (mgS 168 (mgS 168 u5 v0) v1) = _ from e2, Option.bind_some]
      simp only [f2, if_pos]
      rw [show fX6_place (nI t) 3 (mgS 168 (mgS 168 (mgS 168 u5 v0) v1) v2) = _ from e3, Option.bind_some]
      simp only [f3, if_pos]
      exact ⟨_, rfl, m3⟩
  · rw [h5, if_pos (show nI 1 = 1 from rfl), (c_placeIn hW hC ht h5).1, Option.bind_some, if_pos rfl, (c_placeIn hW hC ht h5).2, Option.bind_some, if_pos rfl]
    exact ⟨u, rfl, NX.refl u⟩
