/-! the law's looks, in values of a box P -/
theorem lp_fog {σ α : Type} {step : α → Option (α ⊕ α)} (f : σ → Nat → σ) (E : σ → Nat → α) (I : σ → Prop) (n : Nat) (hn : n < 2000) (hs : ∀ s i, i < n → I s → step (E s i) = some (.inr (E (f s i) (i + 1))) ∧ I (f s i)) (he : ∀ s, I s → step (E s n) = some (.inl (E s n))) {s : σ} (h : I s) : lp step FU (E s 0) = some (E (fo f s n) n) ∧ I (fo f s n) := by
  have key : ∀ i, i ≤ n → I (fo f s i) := by
    intro i
    induction i with
    | zero => intro _; exact h
    | succ i ih => intro hi; exact (hs _ i (by omega) (ih (by omega))).2
  exact ⟨lp_for (fun i => E (fo f s i) i) n hn (fun i hi => (hs _ i hi (key i (by omega))).1) (he _ (key n (Nat.le_refl n))), key n (Nat.le_refl n)⟩
theorem lp_fog0 {σ α : Type} {step : α → Option (α ⊕ α)} (f : σ → Nat → σ) (E : σ → Nat → α) (n : Nat) (hn : n < 2000) (hs : ∀ s i, i < n → step (E s i) = some (.inr (E (f s i) (i + 1)))) (he : ∀ s, step (E s n) = some (.inl (E s n))) (s : σ) : lp step FU (E s 0) = some (E (fo f s n) n) :=
  (lp_fog f E (fun _ => True) n hn (fun s i hi _ => ⟨hs s i hi, trivial⟩) (fun s _ => he s) (s := s) trivial).1
theorem notw {w : Nat} (hw : w ≤ 1) : (if nI w = 0 then (some 1 : Option Int32) else some 0) = some (nI (1 - w)) := by
  rcases (show w = 0 ∨ w = 1 by omega) with rfl | rfl <;> rfl
theorem axt_not {P : Bx} {t w : Nat} (hw : w ≤ 1) : axt P t (1 - w) = ayt P t w := by
  rcases (show w = 0 ∨ w = 1 by omega) with rfl | rfl <;> rfl
section C81
variable {P : Bx} {u : S}
theorem c_wide (hW : WF P) (hC : CR u 0 P) {t w : Nat} (ht : t < P.1 4) (hw : w ≤ 1) : fL_wide (nI t) (nI w) u = some (nI (axt P t w)) := by
  rcases (show w = 0 ∨ w = 1 by omega) with rfl | rfl
  · show (fX6_tray (nI t) 0 u).bind (fun q => some q) = _
    rw [c_t0 hW hC ht]
    rfl
  · show (fX6_tray (nI t) 1 u).bind (fun q => some q) = _
    rw [c_t1 hW hC ht]
    rfl
theorem c_high (hW : WF P) (hC : CR u 0 P) {t : Nat} (ht : t < P.1 4) : fL_high (nI t) u = some (nI (tl P t)) := by
  simp only [fL_high]
  rw [c_t2 hW hC ht, c_t4 hW hC ht, Option.bind_some, Option.bind_some, nadd]
  rfl
theorem stp_n {q : Nat × Nat} {v : Nat} {z : Int32} (hq : q.1 ≤ 30) (hv : v ≤ 30) : ((if nI v ≤ nI q.1 then
((if nI v = nI q.1 then
(some (nI q.2 + 1 : Int32))
else
(some (nI q.2 : Int32))).bind fun j206 =>
some (j206 : Int32))
else
(some (1 : Int32))).bind fun j205 =>
(if nI v ≤ nI q.1 then
(some (nI q.1 : Int32))
else
(some (nI v : Int32))).bind fun j207 =>
(some (.inr (j207, j205, z)) : Option ((Int32 × Int32 × Int32) ⊕ (Int32 × Int32 × Int32)))) = some (.inr (nI (stp q v).1, nI (stp q v).2, z)) := by
  by_cases h : v ≤ q.1
  · have h1 : nI v ≤ nI q.1 := by rw [nle (by omega) (by omega)]; exact h
    rw [if_pos h1, if_pos h1]
    by_cases h2 : v = q.1
    · rw [if_pos (by rw [h2])]
      simp only [stp, if_pos h, if_pos h2, Option.bind_some]
      rw [show nI q.2 + 1 = nI (q.2 + 1) from nadd q.2 1]
    · rw [if_neg (by rw [neq (by omega) (by omega)]; exact h2)]
      simp only [stp, if_pos h, if_neg h2, Option.bind_some]
  · have h1 : ¬ nI v ≤ nI q.1 := by rw [nle (by omega) (by omega)]; exact h
    rw [if_neg h1, if_neg h1]
    simp only [stp, if_neg h, Option.bind_some]
    rfl
theorem look_in (hW : WF P) (hC : CR u 0 P) {t x y w : Nat} (ht : t < P.1 4) (hw : w ≤ 1) (hx : x < P.1 0) (hy : y + ayt P t w ≤ P.1 1) (p : Nat × Nat) (hp : p.1 ≤ 30) :
    lp (gL_look_26 (nI t) (nI y) (nI w) (nI x) u) FU (nI p.1, nI p.2, nI y) = some (nI (fsr p (fun j => tpm P x (y + j)) (ayt P t w)).1, nI (fsr p (fun j => tpm P x (y + j)) (ayt P t w)).2, nI (y + ayt P t w)) := by
  have hL := hW.2.1
  have ha := (axt_le hW ht w)
  have hs : ∀ j, (fun j => tpm P x (y + j)) j ≤ 30 := fun j => tpm_le hW
  refine lp_for (fun j => (nI (fsr p (fun j => tpm P x (y + j)) j).1, nI (fsr p (fun j => tpm P x (y + j)) j).2, nI (y + j))) (ayt P t w) (by omega) (fun j hj => ?_) ?_
  · have hq := fsr_le (p := p) (n := j) hp hs
    have hv := hs j
    simp only [gL_look_26]
    rw [notw hw, Option.bind_some, c_wide hW hC ht (by omega), axt_not hw, Option.bind_some, nadd, if_neg (by rw [nle (by omega) (by omega)]; omega), (c_seen1 hW hC hx (by omega)).1, Option.bind_some]
    rw [show nI (y + j) + 1 = nI (y + (j + 1)) from nadd (y + j) 1]
    exact stp_n hq hv
  · simp only [gL_look_26]
    rw [notw hw, Option.bind_some, c_wide hW hC ht (by omega), axt_not hw, Option.bind_some, nadd, if_pos (by rw [nle (by omega) (by omega)]; omega)]
theorem c_look (hW : WF P) (hC : CR u 0 P) {t x y w : Nat} (ht : t < P.1 4) (hw : w ≤ 1) (hx : x + axt P t w ≤ P.1 0) (hy : y + ayt P t w ≤ P.1 1) :
    fL_look (nI t) (nI x) (nI y) (nI w) u = some (nI (1000 * (flr P t x y w).2 + (flr P t x y w).1)) := by
  have hWd := hW.1
  have ha := (axt_le hW ht w)
  have hs : ∀ i j, (fun i j => tpm P (x + i) (y + j)) i j ≤ 30 := fun i j => tpm_le hW
  have key : lp (gL_look_9 (nI t) (nI x) (nI y) (nI w) u) FU (0, 0, nI x) = some (nI (fs2 (fun i j => tpm P (x + i) (y + j)) (ayt P t w) (axt P t w)).1, nI (fs2 (fun i j => tpm P (x + i) (y + j)) (ayt P t w) (axt P t w)).2, nI (x + axt P t w)) := by
    refine lp_for (fun i => (nI (fs2 (fun i j => tpm P (x + i) (y + j)) (ayt P t w) i).1, nI (fs2 (fun i j => tpm P (x + i) (y + j)) (ayt P t w) i).2, nI (x + i))) (axt P t w) (by omega) (fun i hi => ?_) ?_
    · have hq := (fs2_le (s := fun i j => tpm P (x + i) (y + j)) (a := ayt P t w) (b := i) hs).1
      simp only [gL_look_9]
      rw [c_wide hW hC ht hw, Option.bind_some, nadd, if_neg (by rw [nle (by omega) (by omega)]; omega), look_in hW hC ht hw (by omega) hy _ hq, Option.bind_some]
      rw [show nI (x + i) + 1 = nI (x + (i + 1)) from nadd (x + i) 1]
      rfl
    · simp only [gL_look_9]
      rw [c_wide hW hC ht hw, Option.bind_some, nadd, if_pos (by rw [nle (by omega) (by omega)]; omega)]
  simp only [fL_look]
  rw [key, Option.bind_some]
  have hf : flr P t x y w = fs2 (fun i j => tpm P (x + i) (y + j)) (ayt P t w) (axt P t w) := fs2_swap (fun i j => tpm P (x + i) (y + j)) (axt P t w) (ayt P t w)
  rw [hf]
  show some (1000 * nI _ + nI _) = _
  rw [show (1000 : Int32) = nI 1000 from rfl, nmul, nadd]
theorem c_canLie (hW : WF P) (hC : CR u 0 P) {t x y w : Nat} (ht : t < P.1 4) (hw : w ≤ 1) (hx : x < 1000) (hy : y < 1000) :
    fL_canLie (nI t) (nI x) (nI y) (nI w) u = some (if fits P t x y w = true then 1 else 0) := by
  have hWd := hW.1
  have hLd := hW.2.1
  have hDd := hW.2.2.1
  have hSh := hW.2.2.2.1
  have ha := (axt_le hW ht w)
  have hfl := flr_le hW (x := x) (y := y) (w := w) ht
  have htl := tl_le hW ht
  have har := area_le hW ht
  have hn0 : ∀ {z : Nat}, z < 1000 → ¬ nI z < 0 := fun {z} hz => by rw [show (0 : Int32) = nI 0 from rfl, nlt (by omega) (by omega)]; omega
  simp only [fL_canLie]
  rw [if_neg (hn0 hx), if_neg (hn0 hy), c_wide hW hC ht hw, Option.bind_some, c_count0 hC, Option.bind_some, nadd]
  by_cases h1 : P.1 0 < x + axt P t w
  · rw [if_pos (by rw [nlt (by omega) (by omega)]; exact h1)]
    have : fits P t x y w = false := by
      simp only [fits, Bool.and_eq_false_iff, decide_eq_false_iff_not]
      left; omega
    rw [this]; rfl
  rw [if_neg (by rw [nlt (by omega) (by omega)]; exact h1), notw hw, Option.bind_some, c_wide hW hC ht (by omega), axt_not hw, Option.bind_some, c_count1 hC, Option.bind_some, nadd]
  by_cases h2 : y + ayt P t w ≤ P.1 1
  · rw [if_pos (by rw [nle (by omega) (by omega)]; exact h2), c_look hW hC ht hw (by omega) h2, Option.bind_some, c_high hW hC ht, Option.bind_some, c_count2 hC, Option.bind_some]
    rw [show (1000 : Int32) = nI 1000 from rfl, nmod (by omega) (by omega), ndiv (by omega) (by omega), show (1000 * (flr P t x y w).2 + (flr P t x y w).1) % 1000 = (flr P t x y w).1 by omega, show (1000 * (flr P t x y w).2 + (flr P t x y w).1) / 1000 = (flr P t x y w).2 by omega, nadd]
    by_cases h3 : P.1 2 < (flr P t x y w).1 + tl P t
    · rw [if_pos (by rw [nlt (by omega) (by omega)]; exact h3), Option.bind_some]
      have : fits P t x y w = false := by
        simp only [fits, cok, Bool.and_eq_false_iff, decide_eq_false_iff_not]
        right; left; omega
      rw [this, gd_t (by rfl)]; rfl
    · rw [if_neg (by rw [nlt (by omega) (by omega)]; exact h3), c_count3 hC, Option.bind_some, c_t0 hW hC ht, Option.bind_some, c_t1 hW hC ht, Option.bind_some, show (100 : Int32) = nI 100 from rfl, nmul, nmul, nmul, Nat.mul_assoc]
      have hm : P.1 3 * (P.2 t 0 * P.2 t 1) ≤ 100 * 100 := Nat.mul_le_mul hSh har.2
      by_cases h4 : 100 * (flr P t x y w).2 < P.1 3 * (P.2 t 0 * P.2 t 1)
      · rw [if_pos (by rw [nlt (by omega) (by omega)]; exact h4), Option.bind_some, Option.bind_some]
        have : fits P t x y w = false := by
          simp only [fits, cok, Bool.and_eq_false_iff, decide_eq_false_iff_not]
          right; right; omega
        rw [this, gd_t (by rfl)]; rfl
      · rw [if_neg (by rw [nlt (by omega) (by omega)]; exact h4), Option.bind_some, Option.bind_some]
        have : fits P t x y w = true := by
          simp only [fits, cok, Bool.and_eq_true, decide_eq_true_eq]
          omega
        rw [this, gd_t (by rfl)]; rfl
  · rw [if_neg (by rw [nle (by omega) (by omega)]; exact h2)]
    have : fits P t x y w = false := by
      simp only [fits, Bool.and_eq_false_iff, decide_eq_false_iff_not]
      left; omega
    rw [this]; rfl
end C81
