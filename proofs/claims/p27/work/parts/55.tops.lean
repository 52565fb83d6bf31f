theorem n_or (v : Int32) : v < 0 ∨ ∃ x, x < 2147483648 ∧ v = nI x := by
  by_cases h : v < 0
  · exact Or.inl h
  · right
    have h1 := fb_rng v
    rw [Int32.lt_iff_toInt_lt] at h
    have h0 : (0 : Int32).toInt = 0 := rfl
    rw [h0] at h
    obtain ⟨x, hx⟩ : ∃ x : Nat, v.toInt = x := ⟨v.toInt.toNat, by omega⟩
    refine ⟨x, by omega, ?_⟩
    rw [← Int32.toInt_inj, nI_toInt (by omega), hx]
def tT (u : S) (g : Nat) (F : Nat → Nat) : S := (fun j k => if j = 156 + g ∧ k < 100 then nI (F k) else u.1 j k, u.2)
theorem tT_ne {u : S} {g j : Nat} {F : Nat → Nat} (h : j ≠ 156 + g) : (tT u g F).1 j = u.1 j := by
  funext k
  simp only [tT]
  rw [if_neg (by omega)]
theorem tT_at {u : S} {g k : Nat} {F : Nat → Nat} (h : k < 100) : (tT u g F).1 (156 + g) k = nI (F k) := by
  simp only [tT]
  rw [if_pos ⟨trivial, h⟩]
theorem tT_up {u : S} {g k0 v : Nat} {F : Nat → Nat} (h : k0 < 100) : up (tT u g F) (156 + g) k0 (nI v) = tT u g (fun k => if k = k0 then v else F k) := by
  apply Prod.ext
  · funext j k
    simp only [up, tT]
    by_cases h1 : j = 156 + g ∧ k = k0
    · rw [if_pos h1, if_pos (by omega), if_pos h1.2]
    · rw [if_neg h1]
      by_cases h2 : j = 156 + g ∧ k < 100
      · rw [if_pos h2, if_pos h2, if_neg (by omega)]
      · rw [if_neg h2, if_neg h2]
  · rfl
theorem tT_CR {u : S} {g b : Nat} {P : Bx} {F : Nat → Nat} (hb : b < 11) (hn : P.1 4 ≤ 12) (h : CR u b P) : CR (tT u g F) b P := CR_of hn h (fun j hj => tT_ne (by unfold inB at hj; omega))
theorem subI {a b : Nat} (ha : a < 1000) (hb : b < 1000) : (nI a - nI b).toInt = (a : Int) - (b : Int) := by
  have h1 := nI_toInt (show a < 2147483648 by omega)
  have h2 := nI_toInt (show b < 2147483648 by omega)
  rw [fb_subI (by rw [h1, h2]; omega) (by rw [h1, h2]; omega), h1, h2]
theorem along_eq {u : S} {b : Nat} {P : Bx} {i w : Nat} (h : CR u b P) (hi : i < P.1 4) (hw : w ≤ 1) : fX5_alongX (12 * b + i) (nI w) u = some (nI (axt P i w)) ∧ fX5_alongY (12 * b + i) (nI w) u = some (nI (ayt P i w)) := by
  have c := (h.2 i hi).1
  simp only [fX5_alongX, fX5_alongY, c 0 (by omega), c 1 (by omega), axt, ayt]
  rcases (show w = 0 ∨ w = 1 by omega) with rfl | rfl
  · exact ⟨rfl, rfl⟩
  · exact ⟨rfl, rfl⟩
theorem axt_le {P : Bx} (hW : WF P) {i : Nat} (hi : i < P.1 4) (w : Nat) : 1 ≤ axt P i w ∧ axt P i w ≤ 10 ∧ 1 ≤ ayt P i w ∧ ayt P i w ≤ 10 := by
  have := hW.2.2.2.2.2.1 i hi
  unfold WT at this
  unfold axt ayt
  split <;> omega
theorem sub_lt {W a x : Nat} (hW : W < 1000) (ha : a < 1000) (hx : x < 2147483648) : (nI W - nI a < nI x) ↔ W < x + a := by
  rw [Int32.lt_iff_toInt_lt, subI hW ha, nI_toInt hx]
  omega
theorem encl_n {u : S} {b : Nat} {P : Bx} {i w x y : Nat} (hW : WF P) (h : CR u b P) (hi : i < P.1 4) (hw : w ≤ 1) (hx : x < 2147483648) (hy : y < 2147483648) : fX0_encloses b (12 * b + i) (nI x) (nI y) (nI w) u = some (if x + axt P i w ≤ P.1 0 ∧ y + ayt P i w ≤ P.1 1 then 1 else 0) := by
  have ha := axt_le hW hi w
  have w0 := hW.1
  have w1 := hW.2.1
  simp only [fX0_encloses, (along_eq h hi hw).1, (along_eq h hi hw).2, Option.bind_some, h.1 0 (show 0 < 5 by omega), h.1 1 (show 1 < 5 by omega)]
  have hx0 : ¬ nI x < 0 := by rw [show (0 : Int32) = nI 0 from rfl, nlt (by omega) (by omega)]; omega
  have hy0 : ¬ nI y < 0 := by rw [show (0 : Int32) = nI 0 from rfl, nlt (by omega) (by omega)]; omega
  rw [if_neg hx0]
  by_cases h1 : x + axt P i w ≤ P.1 0
  · rw [if_neg (by rw [sub_lt (by omega) (by omega) hx]; omega), if_neg hy0]
    by_cases h2 : y + ayt P i w ≤ P.1 1
    · rw [if_neg (by rw [sub_lt (by omega) (by omega) hy]; omega), if_pos ⟨h1, h2⟩]
    · rw [if_pos (by rw [sub_lt (by omega) (by omega) hy]; omega), if_neg (by omega)]
  · rw [if_pos (by rw [sub_lt (by omega) (by omega) hx]; omega), if_neg (by omega)]
theorem m_along2 {w : S} {P : Bx} {i t : Nat} {v : Int32} (hn : P.1 4 ≤ 12) (h : MR w 0 P) (hv : v = nI i) (hi : i < P.1 4) (ht : t ≤ 1) : fX7_along v 0 (nI t) w = some (nI (axt P i t)) ∧ fX7_along v 1 (nI t) w = some (nI (ayt P i t)) := by
  rw [m_along hn h hv hi, m_along hn h hv hi]
  rcases (show t = 0 ∨ t = 1 by omega) with rfl | rfl
  · exact ⟨rfl, rfl⟩
  · exact ⟨rfl, rfl⟩
theorem m_inside_n {s : S} {P : Bx} {i w x y : Nat} (hW : WF P) (h : MR s 0 P) (hi : i < P.1 4) (hw : w ≤ 1) (hx : x < 2147483648) (hy : y < 2147483648) : fX7_isInside (nI i) (nI x) (nI y) (nI w) s = some (if x + axt P i w ≤ P.1 0 ∧ y + ayt P i w ≤ P.1 1 then 1 else 0) := by
  have ha := axt_le hW hi w
  have w0 := hW.1
  have w1 := hW.2.1
  have hn := hW.2.2.2.2.1
  simp only [fX7_isInside, (m_along2 hn h (v := nI i) rfl hi hw).1, (m_along2 hn h (v := nI i) rfl hi hw).2, Option.bind_some]
  rw [gd_t (by decide), gd_t (by decide), show (0 : Int32).toNatClampNeg = 0 from rfl, show (1 : Int32).toNatClampNeg = 1 from rfl, h.at (show 0 < 5 by omega), h.at (show 1 < 5 by omega)]
  rw [show (0 : Int32) = nI 0 from rfl, if_neg (by rw [nlt (by omega) (by omega)]; omega), if_neg (by rw [nlt (by omega) (by omega)]; omega)]
  by_cases h1 : x + axt P i w ≤ P.1 0
  · rw [if_neg (by rw [sub_lt (by omega) (by omega) hx]; omega)]
    by_cases h2 : y + ayt P i w ≤ P.1 1
    · rw [if_neg (by rw [sub_lt (by omega) (by omega) hy]; omega), if_pos ⟨h1, h2⟩]
    · rw [if_pos (by rw [sub_lt (by omega) (by omega) hy]; omega), if_neg (by omega)]
  · rw [if_pos (by rw [sub_lt (by omega) (by omega) hx]; omega), if_neg (by omega)]
/-! the heights -/
def tpf (P : Bx) (x y i : Nat) : Nat := if cv P i x y = true then tp P i else 0
def tpm (P : Bx) (x y : Nat) : Nat := mxf (tpf P x y) (P.1 4)
theorem tpf_le {P : Bx} (hW : WF P) {i x y : Nat} (hi : i < P.1 4) : tpf P x y i ≤ 30 := by
  have := hW.2.2.2.2.2.1 i hi
  have w2 := hW.2.2.1
  unfold tpf
  split
  · rename_i hc
    have := this.2.2.2.2.2.2.2.2 (cv_in hc)
    omega
  · omega
theorem mxt_le {P : Bx} (hW : WF P) {n x y : Nat} (hn : n ≤ P.1 4) : mxf (tpf P x y) n ≤ 30 := mxf_le (fun i hi => tpf_le hW (by omega))
theorem tpm_le {P : Bx} (hW : WF P) {x y : Nat} : tpm P x y ≤ 30 := mxt_le hW (Nat.le_refl _)
theorem cv_rng {P : Bx} (hW : WF P) {i x y : Nat} (hi : i < P.1 4) (h : cv P i x y = true) : x < 10 ∧ y < 10 := by
  have w0 := hW.1
  have w1 := hW.2.1
  have h5 := cv_in h
  have := (hW.2.2.2.2.2.1 i hi).2.2.2.2.2.2.2.2 h5
  simp only [cv, Bool.and_eq_true, decide_eq_true_eq] at h
  omega
theorem raise_eq {u : S} {g b : Nat} {P : Bx} {i : Nat} {F : Nat → Nat} (hW : WF P) (h : CR u b P) (hi : i < P.1 4) (hb : b < 11) (hF : ∀ k, F k ≤ 30) : fX1_raise g b (12 * b + i) (tT u g F) = some (tT u g (fun k => max (F k) (tpf P (k % 10) (k / 10) i))) := by
  have hn := hW.2.2.2.2.1
  have g5 := hW.in1 i hi
  have wt := hW.2.2.2.2.2.1 i hi
  have hc := tT_CR (g := g) (F := F) hb hn h
  have w0 := hW.1
  have w1 := hW.2.1
  have w2 := hW.2.2.1
  simp only [fX1_raise, (hc.2 i hi).1 5 (by omega)]
  rcases (show P.2 i 5 = 0 ∨ P.2 i 5 = 1 by omega) with h5 | h5
  · rw [h5, if_pos nI_0]
    have : (fun k => max (F k) (tpf P (k % 10) (k / 10) i)) = F := by
      funext k
      simp [tpf, cv_cvr, h5]
    rw [this]
  · have wr := wt.2.2.2.2.2.2.2.2 h5
    have hax : ax P i = axt P i (P.2 i 6) := rfl
    have hay : ay P i = ayt P i (P.2 i 6) := rfl
    have ha := axt_le hW hi (P.2 i 6)
    obtain ⟨e7, e8, -⟩ := (hc.2 i hi).2 h5
    rw [h5, if_neg (by decide), e7, e8, (hc.2 i hi).1 6 (by omega), encl_n hW hc hi wt.2.2.2.2.2.2.1 (by omega) (by omega), if_pos ⟨by omega, by omega⟩, Option.bind_some, if_neg (by decide)]
    have rowf : ∀ (y : Nat) (F : Nat → Nat), (∀ k, F k ≤ 30) → y < 10 → lp (gX1_raise_47 g (12 * b + i) (nI y)) FU (nI (P.2 i 7), tT u g F) = some (nI (P.2 i 7 + ax P i), tT u g (fun k => if k / 10 = y ∧ P.2 i 7 ≤ k % 10 ∧ k % 10 < P.2 i 7 + ax P i then max (F k) (tp P i) else F k)) := fun y F hF hy => by
      have hl := lp_for (step := gX1_raise_47 g (12 * b + i) (nI y)) (fun m => (nI (P.2 i 7 + m), tT u g (fun k => if k / 10 = y ∧ P.2 i 7 ≤ k % 10 ∧ k % 10 < P.2 i 7 + m then max (F k) (tp P i) else F k))) (ax P i) (b := (nI (P.2 i 7 + ax P i), tT u g (fun k => if k / 10 = y ∧ P.2 i 7 ≤ k % 10 ∧ k % 10 < P.2 i 7 + ax P i then max (F k) (tp P i) else F k))) (by omega) (fun m hm => ?_) ?_
      · rw [← hl]
        congr 3
        funext k
        rw [if_neg (by omega)]
      · obtain ⟨G, hG⟩ : ∃ G, G = (fun k => if k / 10 = y ∧ P.2 i 7 ≤ k % 10 ∧ k % 10 < P.2 i 7 + m then max (F k) (tp P i) else F k) := ⟨_, rfl⟩
        have hcG := tT_CR (g := g) (F := G) hb hn h
        obtain ⟨-, -, e9, -, -, e12, -⟩ := (hcG.2 i hi).2 h5
        have ei : (nI y * 10) + nI (P.2 i 7 + m) = nI (10 * y + (P.2 i 7 + m)) := by rw [show (10 : Int32) = nI 10 from rfl, nmul, nadd, Nat.mul_comm]
        simp only [← hG, gX1_raise_47, ei, e9, e12]
        rw [if_neg (by rw [nle (by omega) (by omega)]; omega), gd_t (inb_n (by omega) (by omega)), gd_t (inb_n (by omega) (by omega)), nm_k, ncl (by omega), tT_at (by omega), show nI (P.2 i 7 + m) + 1 = nI (P.2 i 7 + (m + 1)) from nadd _ 1]
        have eg : G (10 * y + (P.2 i 7 + m)) = F (10 * y + (P.2 i 7 + m)) := by
          rw [hG]
          show (if _ then _ else _) = _
          rw [if_neg (by omega)]
        have ev : (if nI (G (10 * y + (P.2 i 7 + m))) < nI (tp P i) then nI (tp P i) else nI (G (10 * y + (P.2 i 7 + m)))) = nI (max (F (10 * y + (P.2 i 7 + m))) (tp P i)) := by
          have hf := hF (10 * y + (P.2 i 7 + m))
          rw [eg]
          by_cases hlt : F (10 * y + (P.2 i 7 + m)) < tp P i
          · rw [if_pos (by rw [nlt (by omega) (by omega)]; exact hlt), Nat.max_eq_right (by omega)]
          · rw [if_neg (by rw [nlt (by omega) (by omega)]; exact hlt), Nat.max_eq_left (by omega)]
        rw [ev, tT_up (by omega)]
        congr 4
        funext k
        rw [hG]
        by_cases hk : k = 10 * y + (P.2 i 7 + m)
        · subst hk
          rw [if_pos rfl, if_pos (by omega)]
        · rw [if_neg hk]
          by_cases h2 : k / 10 = y ∧ P.2 i 7 ≤ k % 10 ∧ k % 10 < P.2 i 7 + m
          · rw [if_pos (by omega)]
            show (if _ then _ else _) = _
            rw [if_pos h2]
          · rw [if_neg (by omega)]
            show (if _ then _ else _) = _
            rw [if_neg h2]
      · obtain ⟨G, hG⟩ : ∃ G, G = (fun k => if k / 10 = y ∧ P.2 i 7 ≤ k % 10 ∧ k % 10 < P.2 i 7 + ax P i then max (F k) (tp P i) else F k) := ⟨_, rfl⟩
        have hcG := tT_CR (g := g) (F := G) hb hn h
        obtain ⟨-, -, e9, -⟩ := (hcG.2 i hi).2 h5
        simp only [← hG, gX1_raise_47, e9]
        rw [if_pos (by rw [nle (by omega) (by omega)]; omega)]
    have hl := lp_for (step := gX1_raise_33 g (12 * b + i)) (fun m => (nI (P.2 i 8 + m), tT u g (fun k => if (P.2 i 8 ≤ k / 10 ∧ k / 10 < P.2 i 8 + m) ∧ P.2 i 7 ≤ k % 10 ∧ k % 10 < P.2 i 7 + ax P i then max (F k) (tp P i) else F k))) (ay P i) (b := (nI (P.2 i 8 + ay P i), tT u g (fun k => if (P.2 i 8 ≤ k / 10 ∧ k / 10 < P.2 i 8 + ay P i) ∧ P.2 i 7 ≤ k % 10 ∧ k % 10 < P.2 i 7 + ax P i then max (F k) (tp P i) else F k))) (by omega) (fun m hm => ?_) ?_
    · have e0 : tT u g (fun k => if (P.2 i 8 ≤ k / 10 ∧ k / 10 < P.2 i 8 + 0) ∧ P.2 i 7 ≤ k % 10 ∧ k % 10 < P.2 i 7 + ax P i then max (F k) (tp P i) else F k) = tT u g F := by
        congr 1
        funext k
        rw [if_neg (by omega)]
      rw [e0] at hl
      rw [show P.2 i 8 + 0 = P.2 i 8 from rfl] at hl
      rw [hl, Option.bind_some]
      congr 1
      refine congrArg (tT u g) (funext fun k => ?_)
      simp only [tpf, cv_cvr, h5, cvr]
      by_cases hk : (P.2 i 8 ≤ k / 10 ∧ k / 10 < P.2 i 8 + ay P i) ∧ P.2 i 7 ≤ k % 10 ∧ k % 10 < P.2 i 7 + ax P i
      · rw [if_pos hk, if_pos (by simp; omega)]
      · rw [if_neg hk, if_neg (by simp; omega), Nat.max_eq_left (by omega)]
    · obtain ⟨G, hG⟩ : ∃ G, G = (fun k => if (P.2 i 8 ≤ k / 10 ∧ k / 10 < P.2 i 8 + m) ∧ P.2 i 7 ≤ k % 10 ∧ k % 10 < P.2 i 7 + ax P i then max (F k) (tp P i) else F k) := ⟨_, rfl⟩
      have hcG := tT_CR (g := g) (F := G) hb hn h
      obtain ⟨e7, -, -, e10, -⟩ := (hcG.2 i hi).2 h5
      have hGl : ∀ k, G k ≤ 30 := fun k => by
        rw [hG]
        show (if _ then _ else _) ≤ _
        have := hF k
        split
        · exact Nat.max_le.mpr ⟨this, by omega⟩
        · exact this
      simp only [← hG, gX1_raise_33, e7, e10]
      rw [if_neg (by rw [nle (by omega) (by omega)]; omega), rowf (P.2 i 8 + m) G hGl (by omega), Option.bind_some, show nI (P.2 i 8 + m) + 1 = nI (P.2 i 8 + (m + 1)) from nadd _ 1]
      congr 3
      refine congrArg (tT u g) (funext fun k => ?_)
      rw [hG]
      by_cases h2 : (P.2 i 8 ≤ k / 10 ∧ k / 10 < P.2 i 8 + (m + 1)) ∧ P.2 i 7 ≤ k % 10 ∧ k % 10 < P.2 i 7 + ax P i
      · rw [if_pos h2]
        by_cases h3 : k / 10 = P.2 i 8 + m
        · rw [if_pos ⟨h3, h2.2⟩]
          show max (if _ then _ else _) _ = _
          rw [if_neg (by omega)]
        · rw [if_neg (by omega)]
          show (if _ then _ else _) = _
          rw [if_pos (by omega)]
      · rw [if_neg h2, if_neg (by omega)]
        show (if _ then _ else _) = _
        rw [if_neg (by omega)]
    · obtain ⟨G, hG⟩ : ∃ G, G = (fun k => if (P.2 i 8 ≤ k / 10 ∧ k / 10 < P.2 i 8 + ay P i) ∧ P.2 i 7 ≤ k % 10 ∧ k % 10 < P.2 i 7 + ax P i then max (F k) (tp P i) else F k) := ⟨_, rfl⟩
      have hcG := tT_CR (g := g) (F := G) hb hn h
      obtain ⟨-, -, -, e10, -⟩ := (hcG.2 i hi).2 h5
      simp only [← hG, gX1_raise_33, e10]
      rw [if_pos (by rw [nle (by omega) (by omega)]; omega)]
def tpF (P : Bx) (k : Nat) : Nat := tpm P (k % 10) (k / 10)
theorem survey_eq {u : S} {g b : Nat} {P : Bx} (hW : WF P) (h : CR u b P) (hb : b < 11) : fX1_survey g b u = some (tT u g (tpF P)) := by
  have hn := hW.2.2.2.2.1
  have hz := lp_for (step := gX1_survey_2 g) (fun m => (nI m, ((fun j k => if j = 156 + g ∧ k < m then 0 else u.1 j k, u.2) : S))) 100 (b := (nI 100, tT u g (fun _ => 0))) (by omega) (fun m hm => ?_) ?_
  · have hl := lp_for (step := gX1_survey_26 g b) (fun i => (nI i, tT u g (fun k => mxf (tpf P (k % 10) (k / 10)) i))) (P.1 4) (b := (nI (P.1 4), tT u g (tpF P))) (by omega) (fun i hi => ?_) ?_
    · simp only [fX1_survey]
      have e0 : ((fun j k => if j = 156 + g ∧ k < 0 then 0 else u.1 j k, u.2) : S) = u := by
        apply Prod.ext
        · funext j k
          show (if _ then _ else _) = _
          rw [if_neg (by omega)]
        · rfl
      rw [e0] at hz
      rw [show ((0 : Int32), u) = (nI 0, u) from rfl, hz, Option.bind_some]
      rw [show ((0 : Int32), tT u g (fun _ => 0)) = (nI 0, tT u g (fun k => mxf (tpf P (k % 10) (k / 10)) 0)) from rfl, hl, Option.bind_some]
    · have hc := tT_CR (g := g) (F := fun k => mxf (tpf P (k % 10) (k / 10)) i) hb hn h
      simp only [gX1_survey_26, hc.1 4 (show 4 < 5 by omega)]
      rw [if_neg (by rw [nle (by omega) (by omega)]; omega), gd_t (inb_n (by omega) (by omega)), ncl (by omega), raise_eq hW h hi hb (fun k => mxt_le hW (by omega)), Option.bind_some, show nI i + 1 = nI (i + 1) from nadd i 1]
      rfl
    · have hc := tT_CR (g := g) (F := fun k => mxf (tpf P (k % 10) (k / 10)) (P.1 4)) hb hn h
      simp only [gX1_survey_26, hc.1 4 (show 4 < 5 by omega)]
      rw [if_pos (by rw [nle (by omega) (by omega)]; omega)]
      rfl
  · simp only [gX1_survey_2]
    rw [show Int32.ofNat 100 = nI 100 from rfl, if_neg (by rw [nle (by omega) (by omega)]; omega), gd_t (inb_n (by omega) (by omega)), nm_k, ncl (by omega), show nI m + 1 = nI (m + 1) from nadd m 1]
    congr 3
    apply Prod.ext
    · funext j k
      simp only [up]
      by_cases h1 : j = 156 + g ∧ k = m
      · rw [if_pos h1, if_pos (by omega)]
      · rw [if_neg h1]
        by_cases h2 : j = 156 + g ∧ k < m
        · rw [if_pos h2, if_pos (by omega)]
        · rw [if_neg h2, if_neg (by omega)]
    · rfl
  · simp only [gX1_survey_2]
    rw [if_pos (by decide)]
    rfl
