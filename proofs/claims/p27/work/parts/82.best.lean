/-! the law's best place -/
theorem up_up (u : S) (j k : Nat) (a b : Int32) : up (up u j k a) j k b = up u j k b := by
  unfold up
  congr 1
  funext x y
  by_cases h : x = j ∧ y = k <;> simp [h]
theorem up_get (u : S) (j k : Nat) (a : Int32) : (up u j k a).1 j k = a := by simp [up]
theorem up_id {u : S} {j k : Nat} {a : Int32} (h : u.1 j k = a) : up u j k a = u := by
  obtain ⟨f, q⟩ := u
  unfold up
  congr 1
  funext x y
  by_cases hx : x = j ∧ y = k
  · simp only [if_pos hx]
    rw [hx.1, hx.2]; exact h.symm
  · simp only [if_neg hx]
def bN (P : Bx) (t : Nat) : Cd → Int32
  | none => -1
  | some d => nI (1000 * (d.2.2.2.1 + tl P t) + 100 * d.2.1 + 10 * d.1 + d.2.2.1)
def okD (s : Cd) : Prop := ∀ d, s = some d → d.1 ≤ 9 ∧ d.2.1 ≤ 9 ∧ d.2.2.1 ≤ 1 ∧ d.2.2.2.1 ≤ 30
theorem is01 {w : Nat} (hw : w ≤ 1) : (if nI w = 1 then (some 1 : Option Int32) else some 0) = some (nI w) := by
  rcases (show w = 0 ∨ w = 1 by omega) with rfl | rfl <;> rfl
section C82
variable {P : Bx} {u : S}
theorem ways_n (hW : WF P) {t : Nat} (ht : t < P.1 4) : (if nI (P.2 t 0) = nI (P.2 t 1) then (some 1 : Option Int32) else some 2) = some (nI (ways P t)) := by
  have h := hW.2.2.2.2.2.1 t ht
  have h0 := h.1
  have h1 := h.2.1
  by_cases he : P.2 t 0 = P.2 t 1
  · rw [if_pos (by rw [he]), ways, if_pos he]; rfl
  · rw [if_neg (by rw [neq (by omega) (by omega)]; exact he), ways, if_neg he]; rfl
theorem cU (hW : WF P) (hC : CR u 0 P) (v : Int32) : CR (up u 168 0 v) 0 P := CR_of hW.2.2.2.2.1 hC (fun j hj => up_ne _ _ _ _ (by have := hW.2.2.2.2.1; unfold inB at hj; omega))
theorem best_step (hW : WF P) (hC : CR u 0 P) {t x y w : Nat} {c : Cd} {n : Nat} (ht : t < P.1 4) (hx : x < P.1 0) (hy : y < P.1 1) (hw : w < ways P t) (hI : okD c) :
    gL_best_31 (nI t) (nI y) (nI x) (bN P t c, nI w, up u 168 0 (nI n)) = some (.inr (bN P t (st1 P t y x c w), nI (w + 1), up u 168 0 (nI (st0 P t y x n w)))) ∧ okD (st1 P t y x c w) := by
  have hWd := hW.1
  have hLd := hW.2.1
  have hw2 := @ways_le P t
  have hCU := cU hW hC (nI n)
  have htl := tl_le hW ht
  have hz : (0 : Int32).toNatClampNeg = 0 := rfl
  simp only [gL_best_31, hz]
  rw [c_t0 hW hCU ht, Option.bind_some, c_t1 hW hCU ht, Option.bind_some, ways_n hW ht, Option.bind_some, if_neg (by rw [nle (by omega) (by omega)]; omega), is01 (by omega), Option.bind_some, c_canLie hW hCU ht (by omega) (by omega) (by omega), Option.bind_some]
  by_cases hf : fits P t x y w = true
  · have hf2 := hf
    simp only [fits, Bool.and_eq_true, decide_eq_true_eq] at hf2
    have hfl := flr_le hW (x := x) (y := y) (w := w) ht
    rw [if_pos hf, if_neg (by decide), Option.bind_some, c_look hW hCU ht (by omega) hf2.1.1 hf2.1.2, Option.bind_some, c_high hW hCU ht, Option.bind_some, gd_t (by decide), gd_t (by decide), nm_k, up_get, up_up]
    rw [show (1000 : Int32) = nI 1000 from rfl, nmod (by omega) (by omega), show (1000 * (flr P t x y w).2 + (flr P t x y w).1) % 1000 = (flr P t x y w).1 by omega, nadd, nmul, show (100 : Int32) = nI 100 from rfl, nmul, show (10 : Int32) = nI 10 from rfl, nmul, nadd, nadd, nadd]
    rw [show nI n + 1 = nI (n + 1) from nadd n 1, show nI w + 1 = nI (w + 1) from nadd w 1]
    have hs0 : st0 P t y x n w = n + 1 := by simp [st0, hf]
    rw [hs0]
    cases c with
    | none =>
      have h1 : st1 P t y x none w = some (x, y, w, flr P t x y w) := by simp [st1, hf, lower]
      rw [if_pos (show bN P t none < 0 from (by show (-1 : Int32) < 0; decide)), Option.bind_some, h1]
      refine ⟨rfl, fun d hd => ?_⟩
      cases hd
      exact ⟨by show x ≤ 9; omega, by show y ≤ 9; omega, by show w ≤ 1; omega, hfl.1⟩
    | some d =>
      obtain ⟨d1, d2, d3, d4⟩ := hI d rfl
      have hneg : ¬ bN P t (some d) < 0 := by
        show ¬ nI _ < nI 0
        rw [nlt (by omega) (by omega)]; omega
      rw [if_neg hneg]
      have hq : bN P t (some d) / nI 1000 = nI (d.2.2.2.1 + tl P t) := by
        show nI _ / nI 1000 = _
        rw [ndiv (by omega) (by omega)]
        congr 1
        omega
      rw [hq]
      by_cases hl : (flr P t x y w).1 < d.2.2.2.1
      · have h1 : st1 P t y x (some d) w = some (x, y, w, flr P t x y w) := by simp [st1, hf, lower, hl]
        rw [if_neg (by rw [nle (by omega) (by omega)]; omega), Option.bind_some, Option.bind_some, h1]
        refine ⟨rfl, fun d' hd => ?_⟩
        cases hd
        exact ⟨by show x ≤ 9; omega, by show y ≤ 9; omega, by show w ≤ 1; omega, hfl.1⟩
      · have h1 : st1 P t y x (some d) w = some d := by simp [st1, hf, lower, hl]
        rw [if_pos (by rw [nle (by omega) (by omega)]; omega), Option.bind_some, Option.bind_some, h1]
        exact ⟨rfl, hI⟩
  · have hf' : fits P t x y w = false := by simpa using hf
    have h1 : st1 P t y x c w = c := by simp [st1, hf']
    have hs0 : st0 P t y x n w = n := by simp [st0, hf']
    rw [if_neg hf, if_pos rfl, h1, hs0, show nI w + 1 = nI (w + 1) from nadd w 1]
    exact ⟨rfl, hI⟩
theorem best_end (hW : WF P) (hC : CR u 0 P) {t x y : Nat} {v : Int32} {n : Nat} (ht : t < P.1 4) :
    gL_best_31 (nI t) (nI y) (nI x) (v, nI (ways P t), up u 168 0 (nI n)) = some (.inl (v, nI (ways P t), up u 168 0 (nI n))) := by
  have hCU := cU hW hC (nI n)
  have hw2 := @ways_le P t
  simp only [gL_best_31]
  rw [c_t0 hW hCU ht, Option.bind_some, c_t1 hW hCU ht, Option.bind_some, ways_n hW ht, Option.bind_some, if_pos (by rw [nle (by omega) (by omega)]; omega)]
theorem c_best (hW : WF P) (hC : CR u 0 P) {t : Nat} (ht : t < P.1 4) (h0 : u.1 168 0 = 0) :
    fL_best (nI t) u = some (bN P t (best P t), up u 168 0 (nI (cnt P t))) ∧ okD (best P t) := by
  have hWd := hW.1
  have hLd := hW.2.1
  have hw2 := @ways_le P t
  have key : lp (gL_best_5 (nI t)) FU (bN P t none, nI 0, up u 168 0 (nI 0)) = some (bN P t (nest P t (stM P t) (none, 0)).1, nI (P.1 1), up u 168 0 (nI (nest P t (stM P t) (none, 0)).2)) ∧ okD (nest P t (stM P t) (none, 0)).1 := by
    refine lp_fog (fun s y => fo (fun s x => fo (stM P t y x) s (ways P t)) s (P.1 0)) (fun s y => (bN P t s.1, nI y, up u 168 0 (nI s.2))) (fun s => okD s.1) (P.1 1) (by omega) (fun s y hy hI => ?_) (fun s hI => ?_) (s := (none, 0)) (fun d hd => by cases hd)
    · have k2 := lp_fog (step := gL_best_18 (nI t) (nI y)) (fun s x => fo (stM P t y x) s (ways P t)) (fun s x => (bN P t s.1, nI x, up u 168 0 (nI s.2))) (fun s => okD s.1) (P.1 0) (by omega) (fun s x hx hI => ?_) (fun s hI => ?_) (s := s) hI
      · simp only [gL_best_5]
        rw [c_count1 (cU hW hC _), Option.bind_some, if_neg (by rw [nle (by omega) (by omega)]; omega), show (0 : Int32) = nI 0 from rfl, k2.1, Option.bind_some, show nI y + 1 = nI (y + 1) from nadd y 1]
        exact ⟨rfl, k2.2⟩
      · have k3 := lp_fog (step := gL_best_31 (nI t) (nI y) (nI x)) (stM P t y x) (fun s w => (bN P t s.1, nI w, up u 168 0 (nI s.2))) (fun s => okD s.1) (ways P t) (by omega) (fun s w hw hI => best_step hW hC ht hx hy hw hI) (fun s hI => best_end hW hC ht) (s := s) hI
        simp only [gL_best_18]
        rw [c_count0 (cU hW hC _), Option.bind_some, if_neg (by rw [nle (by omega) (by omega)]; omega), show (0 : Int32) = nI 0 from rfl, k3.1, Option.bind_some, show nI x + 1 = nI (x + 1) from nadd x 1]
        exact ⟨rfl, k3.2⟩
      · simp only [gL_best_18]
        rw [c_count0 (cU hW hC _), Option.bind_some, if_pos (by rw [nle (by omega) (by omega)]; omega)]
    · simp only [gL_best_5]
      rw [c_count1 (cU hW hC _), Option.bind_some, if_pos (by rw [nle (by omega) (by omega)]; omega)]
  rw [nest_pair] at key
  rw [up_id (show u.1 168 0 = nI 0 from h0)] at key
  simp only [fL_best]
  rw [show ((-1 : Int32), (0 : Int32), u) = (bN P t none, nI 0, u) from rfl, key.1, Option.bind_some]
  exact ⟨rfl, key.2⟩
end C82
