/-! the text read -/
def tx (n : Nat) (s : Nat → Nat) (u w : S) : Prop := n ≤ 100 ∧ u.1 160 0 = nI n ∧ w.1 0 6 = nI n ∧ ∀ i, i < n → (32 ≤ s i ∧ s i ≤ 126) ∧ u.1 161 i = nI (s i) ∧ w.1 3 i = nI (s i)
def aT (n a : Nat) (u w : S) : Prop := a ≤ n ∧ u.1 160 4 = nI a ∧ w.1 0 9 = nI a ∧ u.1 160 1 = 0 ∧ w.1 0 7 = 0
def bad (u w : S) : Prop := ∃ k p, 1 ≤ k ∧ k ≤ 3 ∧ p ≤ 100 ∧ u.1 160 1 = nI k ∧ w.1 0 7 = nI k ∧ u.1 160 4 = nI p ∧ w.1 0 8 = nI p
def fxx (u u' : S) : Prop := (∀ j, j ≠ 160 → u'.1 j = u.1 j) ∧ u'.1 160 0 = u.1 160 0
def fmm (w w' : S) : Prop := (∀ j, j ≠ 0 → w'.1 j = w.1 j) ∧ (∀ k, k ≠ 7 → k ≠ 8 → k ≠ 9 → k ≠ 10 → w'.1 0 k = w.1 0 k) ∧ w'.2 = w.2
theorem fxx.refl (u : S) : fxx u u := ⟨fun _ _ => rfl, rfl⟩
theorem fmm.refl (u : S) : fmm u u := ⟨fun _ _ => rfl, fun _ _ _ _ _ => rfl, rfl⟩
theorem fxx.trans {u v z : S} (h : fxx u v) (g : fxx v z) : fxx u z := ⟨fun j hj => (g.1 j hj).trans (h.1 j hj), g.2.trans h.2⟩
theorem fmm.trans {u v z : S} (h : fmm u v) (g : fmm v z) : fmm u z := ⟨fun j hj => (g.1 j hj).trans (h.1 j hj), fun k a b c d => (g.2.1 k a b c d).trans (h.2.1 k a b c d), g.2.2.trans h.2.2⟩
theorem fxx_up {u : S} {k : Nat} {v : Int32} (hk : k ≠ 0) : fxx u (up u 160 k v) := ⟨fun j hj => up_ne _ _ _ _ hj, by rw [up_at, if_neg (by omega)]⟩
theorem fmm_up {u : S} {k : Nat} {v : Int32} (hk : k = 7 ∨ k = 8 ∨ k = 9 ∨ k = 10) : fmm u (up u 0 k v) := ⟨fun j hj => up_ne _ _ _ _ hj, fun j a b c d => by rw [up_at, if_neg (by omega)], rfl⟩
theorem tx.t {n : Nat} {s : Nat → Nat} {u w u' w' : S} (h : tx n s u w) (h1 : fxx u u') (h2 : fmm w w') : tx n s u' w' := ⟨h.1, by rw [h1.2]; exact h.2.1, by rw [h2.2.1 6 (by omega) (by omega) (by omega) (by omega)]; exact h.2.2.1, fun i hi => by rw [h1.1 161 (by omega), h2.1 3 (by omega)]; exact h.2.2.2 i hi⟩
theorem chr_n : ∀ c, c < 127 → (vp_nar .char (nI c) == nI c) = true := by decide +kernel
def dg (n : Nat) (s : Nat → Nat) (a : Nat) : Bool := decide (a < n) && (decide (48 ≤ s a) && decide (s a ≤ 57))
def nd (n : Nat) (s : Nat → Nat) : Nat → Nat → Nat
  | _, 0 => 0
  | a, k + 1 => if dg n s a = true then nd n s (a + 1) k + 1 else 0
def vl (s : Nat → Nat) : Nat → Nat → Nat → Nat
  | _, x, 0 => x
  | a, x, d + 1 => vl s (a + 1) (10 * x + s a - 48) d
def chx (n : Nat) (s : Nat → Nat) (a : Nat) : Int32 := if a < n then nI (s a) else 0
def chm (n : Nat) (s : Nat → Nat) (a : Nat) : Int32 := if a < n then nI (s a) else -9
theorem next_eq {n a : Nat} {s : Nat → Nat} {u w : S} (h : tx n s u w) (h4 : u.1 160 4 = nI a) (ha : a ≤ n) : fX4_next u = some (chx n s a) := by
  have hn := h.1
  simp only [fX4_next, h.2.1, h4]
  unfold chx
  by_cases hl : a < n
  · obtain ⟨h1, h2, -⟩ := h.2.2.2 a hl
    rw [if_neg (by rw [nle (by omega) (by omega)]; omega), if_neg (by rw [show (100 : Int32) = nI 100 from rfl, nle (by omega) (by omega)]; omega), gd_t (inb_n (by omega) (by omega)), ncl (by omega), h2, gd_t (chr_n _ (by omega)), if_pos hl]
  · rw [if_pos (by rw [nle (by omega) (by omega)]; omega), gd_t (by decide), if_neg hl]
theorem here_eq {n a : Nat} {s : Nat → Nat} {u w : S} (h : tx n s u w) (h4 : w.1 0 9 = nI a) (ha : a ≤ n) : fX7_here w = some (chm n s a) := by
  have hn := h.1
  simp only [fX7_here, h.2.2.1, h4]
  unfold chm
  by_cases hl : a < n
  · obtain ⟨h1, -, h2⟩ := h.2.2.2 a hl
    rw [if_neg (by rw [nle (by omega) (by omega)]; omega), gd_t (inb_n (by omega) (by omega)), ncl (by omega), h2, if_pos hl]
  · rw [if_pos (by rw [nle (by omega) (by omega)]; omega), if_neg hl]
theorem dig_x {n a : Nat} {s : Nat → Nat} {u w : S} (h : tx n s u w) (v : S) : fX4_isDigit (chx n s a) v = some (b01 (dg n s a)) := by
  simp only [fX4_isDigit]
  unfold chx dg
  by_cases hl : a < n
  · obtain ⟨h1, -, -⟩ := h.2.2.2 a hl
    rw [if_pos hl, show (48 : Int32) = nI 48 from rfl, show (57 : Int32) = nI 57 from rfl]
    by_cases h48 : 48 ≤ s a
    · rw [if_neg (by rw [nlt (by omega) (by omega)]; omega)]
      by_cases h57 : s a ≤ 57
      · rw [if_neg (by rw [nlt (by omega) (by omega)]; omega)]
        simp [hl, h48, h57, b01]
      · rw [if_pos (by rw [nlt (by omega) (by omega)]; omega)]
        simp [h57, b01]
    · rw [if_pos (by rw [nlt (by omega) (by omega)]; omega)]
      simp [h48, b01]
  · rw [if_neg hl, if_pos (by decide)]
    simp [hl, b01]
theorem dig_m {n a : Nat} {s : Nat → Nat} {u w : S} (h : tx n s u w) (h4 : w.1 0 9 = nI a) (ha : a ≤ n) : fX7_isDigit w = some (b01 (dg n s a)) := by
  simp only [fX7_isDigit, here_eq h h4 ha, Option.bind_some, fX7_in]
  unfold chm dg
  by_cases hl : a < n
  · obtain ⟨h1, -, -⟩ := h.2.2.2 a hl
    rw [if_pos hl, show (48 : Int32) = nI 48 from rfl, show (57 : Int32) = nI 57 from rfl]
    by_cases h48 : 48 ≤ s a
    · rw [if_neg (by rw [nlt (by omega) (by omega)]; omega)]
      by_cases h57 : s a ≤ 57
      · rw [if_neg (by rw [nlt (by omega) (by omega)]; omega)]
        simp [hl, h48, h57, b01]
        rfl
      · rw [if_pos (by rw [nlt (by omega) (by omega)]; omega)]
        simp [h57, b01]
        rfl
    · rw [if_pos (by rw [nlt (by omega) (by omega)]; omega)]
      simp [h48, b01]
      rfl
  · rw [if_neg hl, if_pos (by decide)]
    simp [hl, b01]
    rfl
theorem b01_0 {b : Bool} : b01 b = 0 ↔ b = false := by
  cases b
  · exact ⟨fun _ => rfl, fun _ => rfl⟩
  · exact ⟨fun h => absurd h (by decide), fun h => by cases h⟩
theorem dg_at {n a : Nat} {s : Nat → Nat} (h : dg n s a = true) : a < n ∧ 48 ≤ s a ∧ s a ≤ 57 := by
  unfold dg at h
  simp only [Bool.and_eq_true, decide_eq_true_eq] at h
  exact h
theorem nd_le {n : Nat} {s : Nat → Nat} : ∀ k a, a ≤ n → nd n s a k ≤ k ∧ a + nd n s a k ≤ n := by
  intro k
  induction k with
  | zero => exact fun a ha => ⟨Nat.le_refl _, by rw [nd]; omega⟩
  | succ k ih =>
    intro a ha
    rw [nd]
    by_cases hd : dg n s a = true
    · rw [if_pos hd]
      have := ih (a + 1) (by have := (dg_at hd).1; omega)
      omega
    · rw [if_neg hd]
      omega
/-- the digits read, in the class -/
theorem x_num {n a0 : Nat} {s : Nat → Nat} {w : S} : ∀ (k a x F : Nat) (u : S), k ≤ 2 → k < F → a + k = a0 + 2 → a ≤ n → tx n s u w → u.1 160 4 = nI a → u.1 160 5 = nI x → ∃ u', lp (gX4_readNumber_10 (nI a0)) F u = some u' ∧ fxx u u' ∧ u'.1 160 4 = nI (a + nd n s a k) ∧ u'.1 160 5 = nI (vl s a x (nd n s a k)) ∧ u'.1 160 1 = u.1 160 1 := by
  intro k
  induction k with
  | zero =>
    intro a x F u hk2 hF hk ha h h4 h5
    obtain ⟨F, rfl⟩ : ∃ F', F = F' + 1 := ⟨F - 1, by omega⟩
    have hn := h.1
    refine ⟨u, lp_l ?_, fxx.refl u, h4, h5, rfl⟩
    simp only [gX4_readNumber_10, h4]
    rw [if_pos (by rw [show (2 : Int32) = nI 2 from rfl, nadd, nle (by omega) (by omega)]; omega)]
  | succ k ih =>
    intro a x F u hk2 hF hk ha h h4 h5
    obtain ⟨F, rfl⟩ : ∃ F', F = F' + 1 := ⟨F - 1, by omega⟩
    have hn := h.1
    rw [nd]
    have hst : gX4_readNumber_10 (nI a0) u = (if b01 (dg n s a) = 0 then some (Sum.inl u) else some (.inr (up (up u 160 5 (((10 * (u.1 160 5)) + chx n s a) - 48)) 160 4 (nI a + 1)))) := by
      simp only [gX4_readNumber_10, h4, next_eq h h4 ha, Option.bind_some, dig_x h, nm_k]
      rw [if_neg (by rw [show (2 : Int32) = nI 2 from rfl, nadd, nle (by omega) (by omega)]; omega)]
      rw [show (up u 160 5 (10 * u.1 160 5 + chx n s a - 48)).1 160 4 = nI a by rw [up_at, if_neg (by omega)]; exact h4]
    by_cases hd : dg n s a = true
    · rw [if_pos hd]
      obtain ⟨d1, d2, d3⟩ := dg_at hd
      rw [if_neg (by rw [hd]; decide)] at hst
      rw [lp_r hst]
      have ev : (10 * (u.1 160 5)) + chx n s a - 48 = nI (10 * x + s a - 48) := by
        unfold chx
        rw [if_pos d1, h5, show (10 : Int32) = nI 10 from rfl, nmul, nadd, show (48 : Int32) = nI 48 from rfl, nsub (by omega)]
      rw [ev, show nI a + 1 = nI (a + 1) from nadd a 1]
      have hf : fxx u (up (up u 160 5 (nI (10 * x + s a - 48))) 160 4 (nI (a + 1))) := (fxx_up (by omega)).trans (fxx_up (by omega))
      obtain ⟨u', e1, e2, e3, e4, e5⟩ := ih (a + 1) (10 * x + s a - 48) F _ (by omega) (by omega) (by omega) (by omega) (h.t hf (fmm.refl w)) (by rw [up_at, if_pos ⟨rfl, rfl⟩]) (by rw [up_at, if_neg (by omega), up_at, if_pos ⟨rfl, rfl⟩])
      refine ⟨u', e1, hf.trans e2, ?_, ?_, ?_⟩
      · rw [e3]
        exact congrArg nI (by omega)
      · rw [e4]
        rfl
      · rw [e5, up_at, if_neg (by omega), up_at, if_neg (by omega)]
    · rw [if_neg hd]
      rw [Bool.not_eq_true] at hd
      rw [if_pos (b01_0.mpr hd)] at hst
      exact ⟨u, lp_l hst, fxx.refl u, h4, h5, rfl⟩
theorem m_num {n a0 K : Nat} {s : Nat → Nat} {u : S} (hK : K ≤ 2) : ∀ (k a x F : Nat) (w : S), k ≤ 2 → k < F → a + k = a0 + K → a ≤ n → tx n s u w → w.1 0 9 = nI a → w.1 0 10 = nI x → ∃ w', lp (gX7_readsNumber_11 (nI K) (nI a0)) F w = some w' ∧ fmm w w' ∧ w'.1 0 9 = nI (a + nd n s a k) ∧ w'.1 0 10 = nI (vl s a x (nd n s a k)) ∧ w'.1 0 7 = w.1 0 7 := by
  intro k
  induction k with
  | zero =>
    intro a x F w hk2 hF hk ha h h4 h5
    obtain ⟨F, rfl⟩ : ∃ F', F = F' + 1 := ⟨F - 1, by omega⟩
    have hn := h.1
    refine ⟨w, lp_l ?_, fmm.refl w, h4, h5, rfl⟩
    simp only [gX7_readsNumber_11, dig_m h h4 ha, Option.bind_some, h4]
    rw [if_pos (c := nI a0 + nI K ≤ nI a) (by rw [nadd, nle (by omega) (by omega)]; omega)]
    split <;> rfl
  | succ k ih =>
    intro a x F w hk2 hF hk ha h h4 h5
    obtain ⟨F, rfl⟩ : ∃ F', F = F' + 1 := ⟨F - 1, by omega⟩
    have hn := h.1
    rw [nd]
    have hst : gX7_readsNumber_11 (nI K) (nI a0) w = (if b01 (dg n s a) = 0 then some (Sum.inl w) else some (.inr (up (up w 0 10 (((10 * (w.1 0 10)) + chm n s a) - 48)) 0 9 (nI a + 1)))) := by
      simp only [gX7_readsNumber_11, dig_m h h4 ha, h4, here_eq h h4 ha, Option.bind_some, nm_k]
      rw [if_neg (c := nI a0 + nI K ≤ nI a) (by rw [nadd, nle (by omega) (by omega)]; omega)]
      rw [show (up w 0 10 (10 * w.1 0 10 + chm n s a - 48)).1 0 9 = nI a by rw [up_at, if_neg (by omega)]; exact h4]
    by_cases hd : dg n s a = true
    · rw [if_pos hd]
      obtain ⟨d1, d2, d3⟩ := dg_at hd
      rw [if_neg (by rw [hd]; decide)] at hst
      rw [lp_r hst]
      have ev : (10 * (w.1 0 10)) + chm n s a - 48 = nI (10 * x + s a - 48) := by
        unfold chm
        rw [if_pos d1, h5, show (10 : Int32) = nI 10 from rfl, nmul, nadd, show (48 : Int32) = nI 48 from rfl, nsub (by omega)]
      rw [ev, show nI a + 1 = nI (a + 1) from nadd a 1]
      have hf : fmm w (up (up w 0 10 (nI (10 * x + s a - 48))) 0 9 (nI (a + 1))) := (fmm_up (by omega)).trans (fmm_up (by omega))
      obtain ⟨u', e1, e2, e3, e4, e5⟩ := ih (a + 1) (10 * x + s a - 48) F _ (by omega) (by omega) (by omega) (by omega) (h.t (fxx.refl u) hf) (by rw [up_at, if_pos ⟨rfl, rfl⟩]) (by rw [up_at, if_neg (by omega), up_at, if_pos ⟨rfl, rfl⟩])
      refine ⟨u', e1, hf.trans e2, ?_, ?_, ?_⟩
      · rw [e3]
        exact congrArg nI (by omega)
      · rw [e4]
        rfl
      · rw [e5, up_at, if_neg (by omega), up_at, if_neg (by omega)]
    · rw [if_neg hd]
      rw [Bool.not_eq_true] at hd
      rw [if_pos (b01_0.mpr hd)] at hst
      exact ⟨w, lp_l hst, fmm.refl w, h4, h5, rfl⟩
theorem failx {u : S} {k p : Int32} : ∃ u', fX4_fail k p u = some (0, u') ∧ fxx u u' ∧ u'.1 160 1 = k ∧ u'.1 160 4 = p := ⟨up (up u 160 1 k) 160 4 p, rfl, (fxx_up (by omega)).trans (fxx_up (by omega)), by rw [up_at, if_neg (by omega), up_at, if_pos ⟨rfl, rfl⟩], by rw [up_at, if_pos ⟨rfl, rfl⟩]⟩
theorem failm {w : S} {k p : Int32} : ∃ w', fX7_fails k p w = some (0, w') ∧ fmm w w' ∧ w'.1 0 7 = k ∧ w'.1 0 8 = p := ⟨up (up w 0 7 k) 0 8 p, rfl, (fmm_up (by omega)).trans (fmm_up (by omega)), by rw [up_at, if_neg (by omega), up_at, if_pos ⟨rfl, rfl⟩], by rw [up_at, if_pos ⟨rfl, rfl⟩]⟩
theorem num_sim {n a hi : Nat} {s : Nat → Nat} {u w : S} (hh : 1 ≤ hi) (hh2 : hi < 1000) (h : tx n s u w) (ha : aT n a u w) : (∃ x a' u' w', fX4_readNumber (nI hi) u = some (1, u') ∧ fX7_readsNumber 2 1 (nI hi) w = some (1, w') ∧ aT n a' u' w' ∧ u'.1 160 5 = nI x ∧ w'.1 0 10 = nI x ∧ 1 ≤ x ∧ x ≤ hi ∧ fxx u u' ∧ fmm w w') ∨ ∃ u' w', fX4_readNumber (nI hi) u = some (0, u') ∧ fX7_readsNumber 2 1 (nI hi) w = some (0, w') ∧ bad u' w' ∧ fxx u u' ∧ fmm w w' := by
  obtain ⟨ha, h4, h9, h1, h7⟩ := ha
  have hn := h.1
  obtain ⟨d, hd⟩ : ∃ d, d = nd n s a 2 := ⟨_, rfl⟩
  obtain ⟨x, hx⟩ : ∃ x, x = vl s a 0 d := ⟨_, rfl⟩
  obtain ⟨d1, d2⟩ := nd_le (s := s) 2 a ha
  have fx0 : fxx u (up u 160 5 0) := fxx_up (by omega)
  have fm0 : fmm w (up w 0 10 0) := fmm_up (by omega)
  obtain ⟨u1, a1, a2, a3, a4, a5⟩ := x_num (a0 := a) 2 a 0 FU (up u 160 5 0) (by omega) (by unfold FU; omega) rfl ha (h.t fx0 (fmm.refl w)) (by rw [up_at, if_neg (by omega)]; exact h4) (by rw [up_at, if_pos ⟨rfl, rfl⟩]; rfl)
  obtain ⟨w1, b1, b2, b3, b4, b5⟩ := m_num (a0 := a) (K := 2) (by omega) 2 a 0 FU (up w 0 10 0) (by omega) (by unfold FU; omega) rfl ha (h.t (fxx.refl u) fm0) (by rw [up_at, if_neg (by omega)]; exact h9) (by rw [up_at, if_pos ⟨rfl, rfl⟩]; rfl)
  rw [← hd] at a3 a4 b3 b4 d1 d2
  rw [← hx] at a4 b4
  rw [up_at, if_neg (by omega), h1] at a5
  rw [up_at, if_neg (by omega), h7] at b5
  have fx1 := fx0.trans a2
  have fm1 := fm0.trans b2
  have hx1 := h.t fx1 fm1
  simp only [fX4_readNumber, fX7_readsNumber, nm_k, h4, h9, a1]
  rw [show (2 : Int32) = nI 2 from rfl, b1, Option.bind_some, Option.bind_some, a3, b3]
  by_cases hd0 : d = 0
  · right
    rw [hd0, Nat.add_zero, if_pos rfl, if_pos rfl]
    obtain ⟨u2, c1, c2, c3, c4⟩ := failx (u := u1) (k := 1) (p := nI a)
    obtain ⟨w2, e1, e2, e3, e4⟩ := failm (w := w1) (k := 1) (p := nI a)
    rw [c1, e1, Option.bind_some, Option.bind_some, gd_t (show isb 0 = true by decide), gd_t (show isb 0 = true by decide)]
    exact ⟨_, _, rfl, rfl, ⟨1, a, by omega, by omega, by omega, c3, e3, c4, e4⟩, fx1.trans c2, fm1.trans e2⟩
  · rw [if_neg (by rw [neq (by omega) (by omega)]; omega), if_neg (by rw [neq (by omega) (by omega)]; omega), next_eq hx1 a3 d2, dig_m hx1 b3 d2, Option.bind_some, Option.bind_some, dig_x h, Option.bind_some]
    by_cases hg : dg n s (a + d) = true
    · right
      rw [if_neg (by rw [hg]; decide), if_neg (by rw [hg]; decide)]
      obtain ⟨u2, c1, c2, c3, c4⟩ := failx (u := u1) (k := 1) (p := nI (a + d))
      obtain ⟨w2, e1, e2, e3, e4⟩ := failm (w := w1) (k := 1) (p := nI (a + d))
      rw [c1, e1, Option.bind_some, Option.bind_some, gd_t (show isb 0 = true by decide), gd_t (show isb 0 = true by decide)]
      exact ⟨_, _, rfl, rfl, ⟨1, a + d, by omega, by omega, by omega, c3, e3, c4, e4⟩, fx1.trans c2, fm1.trans e2⟩
    · rw [Bool.not_eq_true] at hg
      rw [if_pos (b01_0.mpr hg), if_pos (b01_0.mpr hg), a4, b4]
      rcases witn (v := nI x) (A := 1) (B := nI hi) (a := 1) (b := hi) rfl rfl (by omega) (by omega) with g | ⟨y, gy, y1, y2, g⟩
      · right
        obtain ⟨u2, c1, c2, c3, c4⟩ := failx (u := u1) (k := nI 2) (p := nI a)
        obtain ⟨w2, e1, e2, e3, e4⟩ := failm (w := w1) (k := nI 2) (p := nI a)
        rw [(g u1 w1).1, (g u1 w1).2, Option.bind_some, Option.bind_some, if_pos rfl, if_pos rfl, c1, e1]
        exact ⟨_, _, rfl, rfl, ⟨2, a, by omega, by omega, by omega, c3, e3, c4, e4⟩, fx1.trans c2, fm1.trans e2⟩
      · left
        rw [(g u1 w1).1, (g u1 w1).2, Option.bind_some, Option.bind_some, if_neg (show ¬ (1 : Int32) = 0 by decide), if_neg (show ¬ (1 : Int32) = 0 by decide)]
        exact ⟨y, a + d, u1, w1, rfl, rfl, ⟨d2, a3, b3, a5, b5⟩, by rw [a4, gy], by rw [b4, gy], y1, y2, fx1, fm1⟩
theorem chx_c {n a c : Nat} {s : Nat → Nat} {u w : S} (h : tx n s u w) (hc : 32 ≤ c) (hc2 : c < 127) : (chx n s a = nI c ↔ a < n ∧ s a = c) ∧ (chm n s a = nI c ↔ a < n ∧ s a = c) := by
  have h9 : ∀ c, c < 127 → ¬ (-9 : Int32) = nI c := by decide +kernel
  unfold chx chm
  by_cases hl : a < n
  · have := (h.2.2.2 a hl).1
    rw [if_pos hl, if_pos hl, neq (by omega) (by omega)]
    exact ⟨⟨fun q => ⟨hl, q⟩, fun q => q.2⟩, ⟨fun q => ⟨hl, q⟩, fun q => q.2⟩⟩
  · rw [if_neg hl, if_neg hl]
    refine ⟨⟨fun q => ?_, fun q => absurd q.1 hl⟩, ⟨fun q => absurd q (h9 c hc2), fun q => absurd q.1 hl⟩⟩
    rw [show (0 : Int32) = nI 0 from rfl, neq (by omega) (by omega)] at q
    omega
theorem sign_sim {n a c : Nat} {s : Nat → Nat} {u w : S} (h : tx n s u w) (ha : aT n a u w) (hc : 32 ≤ c) (hc2 : c < 127) : (∃ u' w', fX4_readSign (nI c) u = some (1, u') ∧ fX7_takes (nI c) w = some (1, w') ∧ aT n (a + 1) u' w' ∧ fxx u u' ∧ fmm w w') ∨ ∃ u' w', fX4_readSign (nI c) u = some (0, u') ∧ fX7_takes (nI c) w = some (0, w') ∧ bad u' w' ∧ fxx u u' ∧ fmm w w' := by
  obtain ⟨ha, h4, h9, h1, h7⟩ := ha
  have hn := h.1
  obtain ⟨k1, k2⟩ := chx_c (a := a) h hc hc2
  simp only [fX4_readSign, fX7_takes, next_eq h h4 ha, here_eq h h9 ha, Option.bind_some, h4, h9, nm_k]
  by_cases hs : a < n ∧ s a = c
  · left
    rw [if_pos (k1.mpr hs), if_pos (k2.mpr hs), show nI a + 1 = nI (a + 1) from nadd a 1]
    exact ⟨_, _, rfl, rfl, ⟨by omega, by rw [up_at, if_pos ⟨rfl, rfl⟩], by rw [up_at, if_pos ⟨rfl, rfl⟩], by rw [up_at, if_neg (by omega)]; exact h1, by rw [up_at, if_neg (by omega)]; exact h7⟩, fxx_up (by omega), fmm_up (by omega)⟩
  · right
    rw [if_neg (fun q => hs (k1.mp q)), if_neg (fun q => hs (k2.mp q))]
    obtain ⟨u2, c1, c2, c3, c4⟩ := failx (u := u) (k := 1) (p := nI a)
    obtain ⟨w2, e1, e2, e3, e4⟩ := failm (w := w) (k := 1) (p := nI a)
    rw [c1, e1, Option.bind_some, Option.bind_some, gd_t (show isb 0 = true by decide), gd_t (show isb 0 = true by decide)]
    exact ⟨_, _, rfl, rfl, ⟨1, a, by omega, by omega, by omega, c3, e3, c4, e4⟩, c2, e2⟩
