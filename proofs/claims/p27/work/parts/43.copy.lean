theorem up_at (s : S) (j k : Nat) (v : Int32) (a b : Nat) : (up s j k v).1 a b = if a = j ∧ b = k then v else s.1 a b := rfl
def cpT (u : S) (a b : Nat) : S := (fun j k => if j = a ∧ k < 14 then u.1 b k else u.1 j k, u.2)
theorem copyT {u : S} {a b : Nat} (hab : a ≠ b) (h5 : isb (u.1 b 5) = true) (h6 : isb (u.1 b 6) = true) : fX5_copyFrom a b u = some (cpT u a b) := by
  have e : ∀ (s : S) (k : Nat) (v : Int32) (k' : Nat), (up s a k v).1 b k' = s.1 b k' := fun s k v k' => by simp [up, Ne.symm hab]
  simp only [fX5_copyFrom, nm_k, e, gd_t h5, gd_t h6]
  congr 1
  apply Prod.ext
  · funext j k
    simp only [up, cpT]
    by_cases hj : j = a
    · subst hj
      by_cases h : k < 14
      · rw [if_pos (c := j = j ∧ k < 14) ⟨rfl, h⟩]
        rcases (show k = 0 ∨ k = 1 ∨ k = 2 ∨ k = 3 ∨ k = 4 ∨ k = 5 ∨ k = 6 ∨ k = 7 ∨ k = 8 ∨ k = 9 ∨ k = 10 ∨ k = 11 ∨ k = 12 ∨ k = 13 by omega) with rfl | rfl | rfl | rfl | rfl | rfl | rfl | rfl | rfl | rfl | rfl | rfl | rfl | rfl <;> simp
      · rw [if_neg (by omega), if_neg (by omega), if_neg (by omega), if_neg (by omega), if_neg (by omega), if_neg (by omega), if_neg (by omega), if_neg (by omega), if_neg (by omega), if_neg (by omega), if_neg (by omega), if_neg (by omega), if_neg (by omega), if_neg (by omega), if_neg (by omega)]
    · simp [hj]
  · rfl
theorem isb_n {v : Int32} {x : Nat} (h : v = nI x) (hx : x ≤ 1) : isb v = true := by
  rw [h]
  rcases (show x = 0 ∨ x = 1 by omega) with rfl | rfl <;> rfl
def cpI (u : S) (a b n i : Nat) : S := (fun j k => if j = 132 + a ∧ k = 4 then nI n else if (12 * a ≤ j ∧ j < 12 * a + i) ∧ k < 14 then u.1 (12 * b + (j - 12 * a)) k else u.1 j k, u.2)
theorem copyTrays {u : S} {a b n : Nat} (hab : a ≠ b) (ha : a < 11) (hb : b < 11) (hn : n ≤ 12) (h4 : u.1 (132 + b) 4 = nI n) (h5 : ∀ i, i < n → isb (u.1 (12 * b + i) 5) = true ∧ isb (u.1 (12 * b + i) 6) = true) : fX0_copyTrays a b u = some (cpI u a b n n) := by
  have h0 : up u (132 + a) 4 (u.1 (132 + b) 4) = cpI u a b n 0 := by
    apply Prod.ext
    · funext j k
      simp only [up, cpI, h4]
      rw [if_neg (c := (12 * a ≤ j ∧ j < 12 * a + 0) ∧ k < 14) (by omega)]
    · rfl
  have hl := lp_for (step := gX0_copyTrays_10 a b) (fun i => (nI i, cpI u a b n i)) n (b := (nI n, cpI u a b n n)) (by omega) (fun i hi => ?_) ?_
  · simp only [fX0_copyTrays, nm_k, h0]
    rw [show ((0 : Int32), cpI u a b n 0) = (nI 0, cpI u a b n 0) from rfl, hl]
    rfl
  · have e4 : (cpI u a b n i).1 (132 + a) 4 = nI n := by simp [cpI]
    have eb : ∀ k, (cpI u a b n i).1 (12 * b + i) k = u.1 (12 * b + i) k := fun k => by
      simp only [cpI]
      rw [if_neg (by omega), if_neg (by omega)]
    simp only [gX0_copyTrays_10, e4]
    rw [if_neg (by rw [nle (by omega) (by omega)]; omega), gd_t (inb_n (by omega) (by omega)), gd_t (inb_n (by omega) (by omega)), ncl (by omega), copyT (by omega) (by rw [eb]; exact (h5 i hi).1) (by rw [eb]; exact (h5 i hi).2)]
    show some (Sum.inr (nI i + 1, cpT (cpI u a b n i) (12 * a + i) (12 * b + i))) = _
    rw [show nI i + 1 = nI (i + 1) from nadd i 1]
    congr 3
    apply Prod.ext
    · funext j k
      simp only [cpT, eb]
      simp only [cpI]
      by_cases h1 : j = 12 * a + i ∧ k < 14
      · rw [if_pos h1, if_neg (by omega), if_pos (by omega), show 12 * b + (j - 12 * a) = 12 * b + i by omega]
      · rw [if_neg h1]
        by_cases h2 : j = 132 + a ∧ k = 4
        · rw [if_pos h2, if_pos h2]
        · rw [if_neg h2, if_neg h2]
          by_cases h3 : (12 * a ≤ j ∧ j < 12 * a + i) ∧ k < 14
          · rw [if_pos h3, if_pos (by omega)]
          · rw [if_neg h3, if_neg (by omega)]
    · rfl
  · have e4 : (cpI u a b n n).1 (132 + a) 4 = nI n := by simp [cpI]
    simp only [gX0_copyTrays_10, e4]
    rw [if_pos (by rw [nle (by omega) (by omega)]; omega)]
theorem CR.isb {u : S} {b : Nat} {P : Bx} (hw : WF P) (h : CR u b P) {i : Nat} (hi : i < P.1 4) : isb (u.1 (12 * b + i) 5) = true ∧ isb (u.1 (12 * b + i) 6) = true := by
  have h1 := (hw.2.2.2.2.2.1 i hi)
  have h2 := (h.2 i hi).1
  exact ⟨isb_n (h2 5 (by omega)) h1.2.2.2.2.2.1, isb_n (h2 6 (by omega)) h1.2.2.2.2.2.2.1⟩
/-- P's trays in Q's box -/
def inQ (Q P : Bx) : Bx := (fun k => if k = 4 then P.1 4 else Q.1 k, P.2)
theorem rs_inQ {Q P : Bx} {i : Nat} : rs (inQ Q P) i = rs P i := rfl
theorem copyTrays_CR {u : S} {a b : Nat} {P Q : Bx} (hab : a ≠ b) (ha : a < 11) (hb : b < 11) (hP : WF P) (h : CR u b P) (hQ : CR u a Q) : ∃ u', fX0_copyTrays a b u = some u' ∧ CR u' a (inQ Q P) ∧ (∀ j, ¬ inB a j → u'.1 j = u.1 j) ∧ u'.2 = u.2 := by
  have hn := hP.2.2.2.2.1
  refine ⟨_, copyTrays hab ha hb hn (h.1 4 (by omega)) (fun i hi => h.isb hP hi), ⟨fun k hk => ?_, fun i hi => ?_⟩, fun j hj => ?_, rfl⟩
  · by_cases hk4 : k = 4
    · subst hk4
      simp [cpI, inQ]
    · simp only [cpI, inQ]
      rw [if_neg (by omega), if_neg (by omega), if_neg hk4]
      exact hQ.1 k hk
  · have hi' : i < P.1 4 := hi
    have hc := h.2 i hi'
    have e : ∀ k, k < 14 → (cpI u a b (P.1 4) (P.1 4)).1 (12 * a + i) k = u.1 (12 * b + i) k := fun k hk => by
      simp only [cpI]
      rw [if_neg (by omega), if_pos (by omega), show 12 * b + (12 * a + i - 12 * a) = 12 * b + i by omega]
    refine ⟨fun k hk => by rw [e k (by omega)]; exact hc.1 k hk, fun h5 => ?_⟩
    rw [e 7 (by omega), e 8 (by omega), e 9 (by omega), e 10 (by omega), e 11 (by omega), e 12 (by omega), e 13 (by omega)]
    exact hc.2 h5
  · funext k
    unfold inB at hj
    simp only [cpI]
    rw [if_neg (by omega), if_neg (by omega)]
theorem copyFrom_CR {u : S} {a b : Nat} {P : Bx} (hab : a ≠ b) (ha : a < 11) (hb : b < 11) (hP : WF P) (h : CR u b P) : ∃ u', fX0_copyFrom a b u = some u' ∧ CR u' a P ∧ (∀ j, ¬ inB a j → u'.1 j = u.1 j) ∧ u'.2 = u.2 := by
  have hn := hP.2.2.2.2.1
  have e : ∀ (s : S) (k : Nat) (v : Int32) (k' : Nat), (up s (132 + a) k v).1 (132 + b) k' = s.1 (132 + b) k' := fun s k v k' => by
    simp only [up]
    rw [if_neg (by omega)]
  obtain ⟨v, hv⟩ : ∃ v, v = up (up (up (up u (132 + a) 0 (u.1 (132 + b) 0)) (132 + a) 1 (u.1 (132 + b) 1)) (132 + a) 2 (u.1 (132 + b) 2)) (132 + a) 3 (u.1 (132 + b) 3) := ⟨_, rfl⟩
  have ho : ∀ j, j ≠ 132 + a → v.1 j = u.1 j := fun j hj => by rw [hv]; simp only [up_ne _ _ _ _ hj]
  have hvb : CR v b P := CR_of hn h (fun j hj => ho j (by unfold inB at hj; omega))
  refine ⟨_, by simp only [fX0_copyFrom, nm_k, e, ← hv, copyTrays hab ha hb hn (hvb.1 4 (by omega)) (fun i hi => hvb.isb hP hi)]; rfl, ⟨fun k hk => ?_, fun i hi => ?_⟩, fun j hj => ?_, by rw [show (cpI v a b (P.1 4) (P.1 4)).2 = v.2 from rfl, hv]; rfl⟩
  · simp only [cpI]
    by_cases hk4 : k = 4
    · subst hk4
      simp
    · rw [if_neg (by omega), if_neg (by omega)]
      have hb' := h.1 k hk
      rcases (show k = 0 ∨ k = 1 ∨ k = 2 ∨ k = 3 by omega) with rfl | rfl | rfl | rfl <;> (rw [hv]; simpa [up] using hb')
  · have hc := hvb.2 i hi
    have e : ∀ k, k < 14 → (cpI v a b (P.1 4) (P.1 4)).1 (12 * a + i) k = v.1 (12 * b + i) k := fun k hk => by
      simp only [cpI]
      rw [if_neg (by omega), if_pos (by omega), show 12 * b + (12 * a + i - 12 * a) = 12 * b + i by omega]
    refine ⟨fun k hk => by rw [e k (by omega)]; exact hc.1 k hk, fun h5 => ?_⟩
    rw [e 7 (by omega), e 8 (by omega), e 9 (by omega), e 10 (by omega), e 11 (by omega), e 12 (by omega), e 13 (by omega)]
    exact hc.2 h5
  · unfold inB at hj
    rw [← ho j (by omega)]
    funext k
    simp only [cpI]
    rw [if_neg (by omega), if_neg (by omega)]
/-! the reference's copies -/
def cpP (w : S) (p q i : Nat) : S := (fun j k => if j = 1 ∧ 125 * q ≤ k ∧ k < 125 * q + i then w.1 1 (125 * p + (k - 125 * q)) else w.1 j k, w.2)
theorem copies_eq {w : S} {p q : Nat} (hp : p < 11) (hq : q < 11) (hpq : p ≠ q) : fX7_copies (nI p) (nI q) w = some (cpP w p q 125) := by
  have h0 : cpP w p q 0 = w := by
    apply Prod.ext
    · funext j k
      simp only [cpP]
      rw [if_neg (by omega)]
    · rfl
  have hl := lp_for (step := gX7_copies_2 (nI p) (nI q)) (fun i => (nI i, cpP w p q i)) 125 (b := (nI 125, cpP w p q 125)) (by omega) (fun i hi => ?_) ?_
  · simp only [fX7_copies]
    rw [show ((0 : Int32), w) = (nI 0, cpP w p q 0) from by rw [h0]; rfl, hl]
    rfl
  · have e1 : (125 * nI p) + nI i = nI (125 * p + i) := by rw [show (125 : Int32) = nI 125 from rfl, nmul, nadd]
    have e2 : (125 * nI q) + nI i = nI (125 * q + i) := by rw [show (125 : Int32) = nI 125 from rfl, nmul, nadd]
    have e3 : (cpP w p q i).1 1 (125 * p + i) = w.1 1 (125 * p + i) := by
      simp only [cpP]
      rw [if_neg (by omega)]
    simp only [gX7_copies_2, e1, e2]
    rw [show (125 : Int32) = nI 125 from rfl, if_neg (by rw [nle (by omega) (by omega)]; omega), gd_t (inb_n (by omega) (by omega)), gd_t (inb_n (by omega) (by omega)), ncl (by omega), ncl (by omega), nm_k, e3]
    rw [show nI i + 1 = nI (i + 1) from nadd i 1]
    congr 3
    apply Prod.ext
    · funext j k
      simp only [up, cpP]
      by_cases h1 : j = 1 ∧ k = 125 * q + i
      · rw [if_pos h1, if_pos (by omega), show 125 * p + (k - 125 * q) = 125 * p + i by omega]
      · rw [if_neg h1]
        by_cases h2 : j = 1 ∧ 125 * q ≤ k ∧ k < 125 * q + i
        · rw [if_pos h2, if_pos (by omega)]
        · rw [if_neg h2, if_neg (by omega)]
    · rfl
  · simp only [gX7_copies_2]
    rw [if_pos (by decide)]
theorem cpP_in {w : S} {p q k : Nat} (hk : k < 125) : (cpP w p q 125).1 1 (125 * q + k) = w.1 1 (125 * p + k) := by
  show (if 1 = 1 ∧ 125 * q ≤ 125 * q + k ∧ 125 * q + k < 125 * q + 125 then w.1 1 (125 * p + (125 * q + k - 125 * q)) else w.1 1 (125 * q + k)) = _
  rw [if_pos ⟨rfl, by omega, by omega⟩, Nat.add_sub_cancel_left]
theorem cpP_out {w : S} {p q k : Nat} (hk : k < 125 * q ∨ 125 * q + 125 ≤ k) : (cpP w p q 125).1 1 k = w.1 1 k := by
  simp only [cpP]
  rw [if_neg (by omega)]
theorem cpP_ne {w : S} {p q j : Nat} (hj : j ≠ 1) : (cpP w p q 125).1 j = w.1 j := by
  funext k
  simp only [cpP]
  rw [if_neg (by omega)]
theorem copies_MR {w : S} {p q : Nat} {P : Bx} (hn : P.1 4 ≤ 12) (h : MR w p P) : MR (cpP w p q 125) q P :=
  ⟨fun k hk => by rw [cpP_in (by omega)]; exact h.1 k hk, fun i k hi hk => by rw [cpP_in (by omega)]; exact h.2 i k hi hk⟩
theorem copies_MRo {w : S} {p q r : Nat} {P : Bx} (hn : P.1 4 ≤ 12) (hr : r ≠ q) (h : MR w r P) : MR (cpP w p q 125) r P :=
  MR_of hn h (fun k hk => cpP_out (by omega))
