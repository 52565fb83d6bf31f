/-! the usual order -/
def insA (bf : Nat → Nat → Bool) (t : Nat) : Nat → (Nat → Nat) → (Nat → Nat)
  | 0, o => fun k => if k = 0 then t else o k
  | j + 1, o => if bf t (o j) = true then insA bf t j (fun k => if k = j + 1 then o j else o k) else fun k => if k = j + 1 then t else o k
def usO (bf : Nat → Nat → Bool) : Nat → (Nat → Nat)
  | 0 => fun _ => 0
  | n + 1 => insA bf n n (usO bf n)
def HI (t j : Nat) (o : Nat → Nat) : Prop := j ≤ t ∧ (∀ k, k ≤ t → k ≠ j → o k < t) ∧ (∀ k l, k ≤ t → l ≤ t → k ≠ j → l ≠ j → o k = o l → k = l) ∧ ∀ i, i < t → ∃ k, k ≤ t ∧ k ≠ j ∧ o k = i
theorem HI_step {t j : Nat} {o : Nat → Nat} (h : HI t (j + 1) o) : HI t j (fun k => if k = j + 1 then o j else o k) := by
  obtain ⟨h1, h2, h3, h4⟩ := h
  refine ⟨by omega, fun k hk hkj => ?_, fun k l hk hl hkj hlj he => ?_, fun i hi => ?_⟩
  · by_cases e : k = j + 1
    · simp only [e, if_pos]
      exact h2 j (by omega) (by omega)
    · simp only [if_neg e]
      exact h2 k hk e
  · by_cases e1 : k = j + 1
    · by_cases e2 : l = j + 1
      · omega
      · simp only [if_pos e1, if_neg e2] at he
        have := h3 j l (by omega) hl (by omega) e2 he
        omega
    · by_cases e2 : l = j + 1
      · simp only [if_neg e1, if_pos e2] at he
        have := h3 k j hk (by omega) e1 (by omega) he
        omega
      · simp only [if_neg e1, if_neg e2] at he
        exact h3 k l hk hl e1 e2 he
  · obtain ⟨k, a, b, c⟩ := h4 i hi
    by_cases e : k = j
    · subst e
      exact ⟨k + 1, by omega, by omega, by simp [c]⟩
    · exact ⟨k, a, e, by simp [b, c]⟩
theorem HI_end {t j : Nat} {o : Nat → Nat} (h : HI t j o) : Pm (fun k => if k = j then t else o k) (t + 1) := by
  obtain ⟨h1, h2, h3, h4⟩ := h
  refine ⟨fun k hk => ?_, fun k l hk hl he => ?_, fun i hi => ?_⟩
  · by_cases e : k = j
    · simp only [if_pos e]
      omega
    · simp only [if_neg e]
      have := h2 k (by omega) e
      omega
  · by_cases e1 : k = j
    · by_cases e2 : l = j
      · omega
      · simp only [if_pos e1, if_neg e2] at he
        have := h2 l (by omega) e2
        omega
    · by_cases e2 : l = j
      · simp only [if_neg e1, if_pos e2] at he
        have := h2 k (by omega) e1
        omega
      · simp only [if_neg e1, if_neg e2] at he
        exact h3 k l (by omega) (by omega) e1 e2 he
  · by_cases e : i = t
    · exact ⟨j, by omega, by simp [e]⟩
    · obtain ⟨k, a, b, c⟩ := h4 i (by omega)
      exact ⟨k, by omega, by simp [b, c]⟩
theorem insA_Pm {bf : Nat → Nat → Bool} {t : Nat} : ∀ {j : Nat} {o : Nat → Nat}, HI t j o → Pm (insA bf t j o) (t + 1) := by
  intro j
  induction j with
  | zero => intro o h; exact HI_end h
  | succ j ih =>
    intro o h
    rw [insA]
    by_cases hb : bf t (o j) = true
    · rw [if_pos hb]
      exact ih (HI_step h)
    · rw [if_neg hb]
      exact HI_end h
theorem HI_start {t : Nat} {o : Nat → Nat} (h : Pm o t) : HI t t o := ⟨Nat.le_refl t, fun k hk hkt => h.1 k (by omega), fun k l hk hl a b e => h.2.1 k l (by omega) (by omega) e, fun i hi => by
  obtain ⟨k, a, b⟩ := h.2.2 i hi
  exact ⟨k, by omega, by omega, b⟩⟩
theorem usO_Pm {bf : Nat → Nat → Bool} : ∀ n, Pm (usO bf n) n := by
  intro n
  induction n with
  | zero => exact ⟨fun k hk => absurd hk (by omega), fun k l hk => absurd hk (by omega), fun i hi => absurd hi (by omega)⟩
  | succ n ih => exact insA_Pm (HI_start ih)
theorem lp_l {α β : Type} {step : α → Option (β ⊕ α)} {a : α} {b : β} {F : Nat} (h : step a = some (.inl b)) : lp step (F + 1) a = some b := by simp [lp, h]
theorem lp_r {α β : Type} {step : α → Option (β ⊕ α)} {a a' : α} {F : Nat} (h : step a = some (.inr a')) : lp step (F + 1) a = lp step F a' := by simp [lp, h]
theorem ins_run {bf : Nat → Nat → Bool} {t c : Nat} {step : Int32 × S → Option ((Int32 × S) ⊕ (Int32 × S))} {K : S → Prop} (hK : ∀ u k v, K u → K (up u c k v)) (h0 : ∀ u, K u → step (nI 0, u) = some (.inl (nI 0, u)))
    (h1 : ∀ u j s, K u → j < t → u.1 c j = nI s → s < t → step (nI (j + 1), u) = some (if bf t s = true then .inr (nI j, up u c (j + 1) (nI s)) else .inl (nI (j + 1), u))) :
    ∀ (j F : Nat) (u : S) (o : Nat → Nat), j < F → K u → (∀ k, k ≤ t → k ≠ j → u.1 c k = nI (o k)) → HI t j o → ∃ j' u', lp step F (nI j, u) = some (nI j', u') ∧ j' ≤ t ∧ K u' ∧ (∀ a, a ≠ c → u'.1 a = u.1 a) ∧ u'.2 = u.2 ∧ ∀ k, k ≤ t → (up u' c j' (nI t)).1 c k = nI (insA bf t j o k) := by
  intro j
  induction j with
  | zero =>
    intro F u o hF hk hA hH
    obtain ⟨F, rfl⟩ : ∃ F', F = F' + 1 := ⟨F - 1, by omega⟩
    refine ⟨0, u, lp_l (h0 u hk), by omega, hk, fun _ _ => rfl, rfl, fun k hkt => ?_⟩
    rw [up_at, insA]
    show _ = nI (if k = 0 then t else o k)
    by_cases e : k = 0
    · rw [if_pos ⟨rfl, e⟩, if_pos e]
    · rw [if_neg (fun q => e q.2), if_neg e]
      exact hA k hkt e
  | succ j ih =>
    intro F u o hF hk hA hH
    obtain ⟨F, rfl⟩ : ∃ F', F = F' + 1 := ⟨F - 1, by omega⟩
    have hjt := hH.1
    have hs := h1 u j (o j) hk (by omega) (hA j (by omega) (by omega)) (hH.2.1 j (by omega) (by omega))
    rw [insA]
    by_cases hb : bf t (o j) = true
    · rw [if_pos hb] at hs
      rw [if_pos hb, lp_r hs]
      have hih := ih F (up u c (j + 1) (nI (o j))) (fun k => if k = j + 1 then o j else o k) (by omega) (hK _ _ _ hk) (fun k hkt hkj => ?_) (HI_step hH)
      · obtain ⟨j', u', g1, g2, g3, g4, g5, g6⟩ := hih
        exact ⟨j', u', g1, g2, g3, fun a ha => by rw [g4 a ha, up_ne _ _ _ _ ha], g5, g6⟩
      · rw [up_at]
        by_cases e : k = j + 1
        · rw [if_pos ⟨rfl, e⟩, if_pos e]
        · rw [if_neg (fun q => e q.2), if_neg e]
          exact hA k hkt e
    · rw [if_neg hb] at hs
      rw [if_neg hb, lp_l hs]
      refine ⟨j + 1, u, rfl, hjt, hk, fun _ _ => rfl, rfl, fun k hkt => ?_⟩
      rw [up_at]
      by_cases e : k = j + 1
      · rw [if_pos ⟨rfl, e⟩, if_pos e]
      · rw [if_neg (fun q => e q.2), if_neg e]
        exact hA k hkt e
/-- t is let down before s, by the usual order, where s < t -/
def bfr (P : Bx) (t s : Nat) : Bool := decide (P.2 s 3 < P.2 t 3) || (P.2 t 3 == P.2 s 3 && decide (P.2 s 0 * P.2 s 1 < P.2 t 0 * P.2 t 1))
theorem isBefore_eq {u : S} {b : Nat} {P : Bx} {t s : Nat} (hW : WF P) (hC : CR u b P) (ht : t < P.1 4) (hs : s < P.1 4) : fX3_isBefore (12 * b + t) (12 * b + s) u = some (b01 (bfr P t s)) := by
  have wt := (hW.2.2.2.2.2.1 t ht).2.2.2.1
  have ws := (hW.2.2.2.2.2.1 s hs).2.2.2.1
  have a1 := area_le hW ht
  have a2 := area_le hW hs
  simp only [fX3_isBefore, (hC.2 t ht).1 3 (show 3 < 7 by omega), (hC.2 s hs).1 3 (show 3 < 7 by omega), area_eq hC ht, area_eq hC hs, Option.bind_some]
  by_cases h1 : P.2 s 3 < P.2 t 3
  · rw [if_pos (by rw [nlt (by omega) (by omega)]; exact h1)]
    simp [bfr, h1, b01]
  · rw [if_neg (by rw [nlt (by omega) (by omega)]; exact h1)]
    by_cases h2 : P.2 t 3 = P.2 s 3
    · rw [if_pos (by rw [h2])]
      by_cases h3 : P.2 s 0 * P.2 s 1 < P.2 t 0 * P.2 t 1
      · rw [if_neg (by rw [nle (by omega) (by omega)]; omega)]
        simp [bfr, h2, h3, b01]
      · rw [if_pos (by rw [nle (by omega) (by omega)]; omega)]
        simp [bfr, h2, h3, b01]
    · rw [if_neg (by rw [neq (by omega) (by omega)]; exact h2)]
      simp [bfr, h1, h2, b01]
theorem isAhead_eq {w : S} {P : Bx} {t s : Nat} (hW : WF P) (hM : MR w 0 P) (ht : t < P.1 4) (hst : s < t) : fX7_isAhead (nI t) (nI s) w = some (b01 (bfr P t s)) := by
  have hn := hW.2.2.2.2.1
  have hs : s < P.1 4 := by omega
  have wt := (hW.2.2.2.2.2.1 t ht).2.2.2.1
  have ws := (hW.2.2.2.2.2.1 s hs).2.2.2.1
  have a1 := area_le hW ht
  have a2 := area_le hW hs
  simp only [fX7_isAhead, hM.of hn (v1 := nI t) rfl (show (3 : Int32) = nI 3 from rfl) ht (show 3 < 10 by omega), hM.of hn (v1 := nI s) rfl (show (3 : Int32) = nI 3 from rfl) hs (show 3 < 10 by omega), hM.of hn (v1 := nI t) rfl (show (0 : Int32) = nI 0 from rfl) ht (show 0 < 10 by omega), hM.of hn (v1 := nI s) rfl (show (0 : Int32) = nI 0 from rfl) hs (show 0 < 10 by omega), hM.of hn (v1 := nI t) rfl (show (1 : Int32) = nI 1 from rfl) ht (show 1 < 10 by omega), hM.of hn (v1 := nI s) rfl (show (1 : Int32) = nI 1 from rfl) hs (show 1 < 10 by omega), Option.bind_some, nmul]
  by_cases h2 : P.2 t 3 = P.2 s 3
  · rw [if_pos (by rw [h2])]
    by_cases h4 : P.2 t 0 * P.2 t 1 = P.2 s 0 * P.2 s 1
    · rw [if_pos (by rw [h4]), if_pos (by rw [nle (by omega) (by omega)]; omega)]
      simp [bfr, h2, h4, b01]
    · rw [if_neg (by rw [neq (by omega) (by omega)]; exact h4)]
      by_cases h3 : P.2 s 0 * P.2 s 1 < P.2 t 0 * P.2 t 1
      · rw [if_neg (by rw [nle (by omega) (by omega)]; omega)]
        simp [bfr, h2, h3, b01]
      · rw [if_pos (by rw [nle (by omega) (by omega)]; omega)]
        simp [bfr, h2, h3, b01]
  · rw [if_neg (by rw [neq (by omega) (by omega)]; exact h2)]
    by_cases h1 : P.2 s 3 < P.2 t 3
    · rw [if_neg (by rw [nle (by omega) (by omega)]; omega)]
      simp [bfr, h1, b01]
    · rw [if_pos (by rw [nle (by omega) (by omega)]; omega)]
      simp [bfr, h1, h2, b01]
theorem usual_x {u : S} {P : Bx} (hW : WF P) (hC : CR u 9 P) : ∃ u', lp gX3_packUsually_10 FU (0, u) = some (nI (P.1 4), u') ∧ CR u' 9 P ∧ (∀ j, j ≠ 163 → u'.1 j = u.1 j) ∧ u'.2 = u.2 ∧ ∀ k, k < P.1 4 → u'.1 163 k = nI (usO (bfr P) (P.1 4) k) := by
  have hn := hW.2.2.2.2.1
  obtain ⟨e, h1, u', rfl, h2, h3, h4, h5⟩ := lp_go (step := gX3_packUsually_10) (a := (nI 0, u)) (fun i a => ∃ u', a = (nI i, u') ∧ CR u' 9 P ∧ (∀ j, j ≠ 163 → u'.1 j = u.1 j) ∧ u'.2 = u.2 ∧ ∀ k, k < i → u'.1 163 k = nI (usO (bfr P) i k)) (fun a => ∃ u', a = (nI (P.1 4), u') ∧ CR u' 9 P ∧ (∀ j, j ≠ 163 → u'.1 j = u.1 j) ∧ u'.2 = u.2 ∧ ∀ k, k < P.1 4 → u'.1 163 k = nI (usO (bfr P) (P.1 4) k)) (P.1 4) ⟨u, rfl, hC, fun _ _ => rfl, rfl, fun k hk => absurd hk (by omega)⟩ (by omega)
    (fun i a hi ⟨u', e, k1, k2, k3, k4⟩ => by
      subst e
      left
      have hK : ∀ (s : S) k v, CR s 9 P → CR (up s 163 k v) 9 P := fun s k v h => CR_of hn h (fun j hj => up_ne _ _ _ _ (by unfold inB at hj; omega))
      obtain ⟨j', u2, g1, g2, g3, g4, g5, g6⟩ := ins_run (bf := bfr P) (t := i) (c := 163) (step := gX3_packUsually_23 (nI i)) (K := fun s => CR s 9 P) hK (fun s _ => by
          simp only [gX3_packUsually_23]
          rw [if_pos (by decide)]) (fun s j z hk hj hz hzt => by
          simp only [gX3_packUsually_23]
          rw [show nI (j + 1) - 1 = nI j from nsub (a := j + 1) (b := 1) (by omega), if_neg (by rw [show (0 : Int32) = nI 0 from rfl, nle (by omega) (by omega)]; omega), gd_t (inb_n (by omega) (by omega)), gd_t (inb_n (by omega) (by omega)), ncl (show j < 2147483648 by omega), show (163 + 0 : Nat) = 163 from rfl, hz, gd_t (inb_n (by omega) (by omega)), ncl (show i < 2147483648 by omega), ncl (show z < 2147483648 by omega), isBefore_eq hW hk (by omega) (by omega), Option.bind_some]
          by_cases hb : bfr P i z = true
          · rw [hb, if_neg (show ¬ b01 true = 0 by decide), if_pos rfl, gd_t (inb_n (by omega) (by omega)), gd_t (inb_n (by omega) (by omega)), nm_k, ncl (by omega), npred]
          · rw [Bool.not_eq_true] at hb
            rw [hb, if_pos (show b01 false = 0 from rfl), if_neg (by decide)]) i FU u' (usO (bfr P) i) (by unfold FU; omega) k1 (fun k hk hki => k4 k (by omega)) (HI_start (usO_Pm i))
      have e4 : u'.1 (132 + 9) 4 = nI (P.1 4) := k1.1 4 (by omega)
      simp only [gX3_packUsually_10, e4]
      rw [if_neg (by rw [nle (by omega) (by omega)]; omega), g1, Option.bind_some, gd_t (inb_n (by omega) (by omega)), nm_k, ncl (by omega), show nI i + 1 = nI (i + 1) from nadd i 1]
      exact ⟨_, rfl, _, rfl, hK _ _ _ g3, fun j hj => by rw [up_ne _ _ _ _ hj, g4 j hj, k2 j hj], by show u2.2 = u.2; rw [g5, k3], fun k hk => g6 k (by omega)⟩)
    (fun a ⟨u', e, k1, k2, k3, k4⟩ => by
      subst e
      have e4 : u'.1 (132 + 9) 4 = nI (P.1 4) := k1.1 4 (by omega)
      simp only [gX3_packUsually_10, e4]
      rw [if_pos (by rw [nle (by omega) (by omega)]; omega)]
      exact ⟨_, rfl, u', rfl, k1, k2, k3, k4⟩)
  exact ⟨u', h1, h2, h3, h4, h5⟩
theorem usual_m {w : S} {P : Bx} (hW : WF P) (hM : MR w 0 P) : ∃ w', fX7_ordersUsually w = some w' ∧ MR w' 0 P ∧ (∀ j, j ≠ 4 → w'.1 j = w.1 j) ∧ w'.2 = w.2 ∧ ∀ k, k < P.1 4 → w'.1 4 k = nI (usO (bfr P) (P.1 4) k) := by
  have hn := hW.2.2.2.2.1
  obtain ⟨e, h1, u', rfl, h2, h3, h4, h5⟩ := lp_go (step := gX7_ordersUsually_2) (a := (nI 0, w)) (fun i a => ∃ u', a = (nI i, u') ∧ MR u' 0 P ∧ (∀ j, j ≠ 4 → u'.1 j = w.1 j) ∧ u'.2 = w.2 ∧ ∀ k, k < i → u'.1 4 k = nI (usO (bfr P) i k)) (fun a => ∃ u', a = (nI (P.1 4), u') ∧ MR u' 0 P ∧ (∀ j, j ≠ 4 → u'.1 j = w.1 j) ∧ u'.2 = w.2 ∧ ∀ k, k < P.1 4 → u'.1 4 k = nI (usO (bfr P) (P.1 4) k)) (P.1 4) ⟨w, rfl, hM, fun _ _ => rfl, rfl, fun k hk => absurd hk (by omega)⟩ (by omega)
    (fun i a hi ⟨u', e, k1, k2, k3, k4⟩ => by
      subst e
      left
      have hK : ∀ (s : S) k v, MR s 0 P → MR (up s 4 k v) 0 P := fun s k v h => MR_of hn h (fun _ _ => by rw [up_ne _ _ _ _ (by omega)])
      obtain ⟨j', u2, g1, g2, g3, g4, g5, g6⟩ := ins_run (bf := bfr P) (t := i) (c := 4) (step := gX7_ordersUsually_12 (nI i)) (K := fun s => MR s 0 P) hK (fun s _ => by
          simp only [gX7_ordersUsually_12]
          rw [if_pos (by decide)]) (fun s j z hk hj hz hzt => by
          simp only [gX7_ordersUsually_12]
          rw [show nI (j + 1) - 1 = nI j from nsub (a := j + 1) (b := 1) (by omega), if_neg (by rw [show (0 : Int32) = nI 0 from rfl, nle (by omega) (by omega)]; omega), gd_t (inb_n (by omega) (by omega)), ncl (show j < 2147483648 by omega), hz, isAhead_eq hW hk (by omega) (by omega), Option.bind_some]
          by_cases hb : bfr P i z = true
          · rw [hb, if_neg (show ¬ b01 true = 0 by decide), if_pos rfl, gd_t (inb_n (by omega) (by omega)), gd_t (inb_n (by omega) (by omega)), nm_k, ncl (by omega), npred]
          · rw [Bool.not_eq_true] at hb
            rw [hb, if_pos (show b01 false = 0 from rfl), if_neg (by decide)]) i FU u' (usO (bfr P) i) (by unfold FU; omega) k1 (fun k hk hki => k4 k (by omega)) (HI_start (usO_Pm i))
      simp only [gX7_ordersUsually_2, k1.n, Option.bind_some]
      rw [if_neg (by rw [nle (by omega) (by omega)]; omega), g1, Option.bind_some, gd_t (inb_n (by omega) (by omega)), nm_k, ncl (by omega), show nI i + 1 = nI (i + 1) from nadd i 1]
      exact ⟨_, rfl, _, rfl, hK _ _ _ g3, fun j hj => by rw [up_ne _ _ _ _ hj, g4 j hj, k2 j hj], by show u2.2 = w.2; rw [g5, k3], fun k hk => g6 k (by omega)⟩)
    (fun a ⟨u', e, k1, k2, k3, k4⟩ => by
      subst e
      simp only [gX7_ordersUsually_2, k1.n, Option.bind_some]
      rw [if_pos (by rw [nle (by omega) (by omega)]; omega)]
      exact ⟨_, rfl, u', rfl, k1, k2, k3, k4⟩)
  refine ⟨u', ?_, h2, h3, h4, h5⟩
  simp only [fX7_ordersUsually]
  rw [show ((0 : Int32), w) = (nI 0, w) from rfl, h1, Option.bind_some]
