/-! lists in order of a key -/
def HS (M : Nat → Prop) (key : Nat → Nat) (v c j : Nat) (o : Nat → Nat) : Prop := j ≤ c ∧ (∀ k, k ≤ c → k ≠ j → M (o k)) ∧ (∀ k l, k ≤ c → l ≤ c → k ≠ j → l ≠ j → o k = o l → k = l) ∧ (∀ i, M i → ∃ k, k ≤ c ∧ k ≠ j ∧ o k = i) ∧ (∀ k l, k < l → l ≤ c → k ≠ j → l ≠ j → key (o k) ≤ key (o l)) ∧ ∀ k, j < k → k ≤ c → key v ≤ key (o k)
def LSt (M : Nat → Prop) (key : Nat → Nat) (c : Nat) (o : Nat → Nat) : Prop := (∀ k, k < c → M (o k)) ∧ (∀ k l, k < c → l < c → o k = o l → k = l) ∧ (∀ i, M i → ∃ k, k < c ∧ o k = i) ∧ ∀ k l, k < l → l < c → key (o k) ≤ key (o l)
theorem HS_start {M : Nat → Prop} {key : Nat → Nat} {v c : Nat} {o : Nat → Nat} (h : LSt M key c o) : HS M key v c c o := ⟨Nat.le_refl c, fun k hk hkc => h.1 k (by omega), fun k l hk hl a b e => h.2.1 k l (by omega) (by omega) e, fun i hi => by
  obtain ⟨k, a, b⟩ := h.2.2.1 i hi
  exact ⟨k, by omega, by omega, b⟩, fun k l hkl hl a b => h.2.2.2 k l hkl (by omega), fun k a b => absurd a (by omega)⟩
theorem HS_step {M : Nat → Prop} {key : Nat → Nat} {v c j : Nat} {o : Nat → Nat} (h : HS M key v c (j + 1) o) (hv : key v < key (o j)) : HS M key v c j (fun k => if k = j + 1 then o j else o k) := by
  obtain ⟨h1, h2, h3, h4, h5, h6⟩ := h
  refine ⟨by omega, fun k hk hkj => ?_, fun k l hk hl hkj hlj he => ?_, fun i hi => ?_, fun k l hkl hl hkj hlj => ?_, fun k hk hkc => ?_⟩
  · by_cases e : k = j + 1
    · simp only [e, if_pos]
      exact h2 j (by omega) (by omega)
    · simp only [if_neg e]
      exact h2 k hk e
  · by_cases e1 : k = j + 1
    · by_cases e2 : l = j + 1
      · omega
      · simp only [if_pos e1, if_neg e2] at he
        have := h3 j l (by omega) hl (by omega) e2 he
        omega
    · by_cases e2 : l = j + 1
      · simp only [if_neg e1, if_pos e2] at he
        have := h3 k j hk (by omega) e1 (by omega) he
        omega
      · simp only [if_neg e1, if_neg e2] at he
        exact h3 k l hk hl e1 e2 he
  · obtain ⟨k, a, b, c⟩ := h4 i hi
    by_cases e : k = j
    · subst e
      exact ⟨k + 1, by omega, by omega, by simp [c]⟩
    · exact ⟨k, a, e, by simp [b, c]⟩
  · by_cases e1 : k = j + 1
    · have e2 : ¬ l = j + 1 := by omega
      simp only [if_pos e1, if_neg e2]
      exact h5 j l (by omega) hl (by omega) e2
    · by_cases e2 : l = j + 1
      · simp only [if_neg e1, if_pos e2]
        exact h5 k j (by omega) (by omega) e1 (by omega)
      · simp only [if_neg e1, if_neg e2]
        exact h5 k l hkl hl e1 e2
  · by_cases e : k = j + 1
    · simp only [if_pos e]
      omega
    · simp only [if_neg e]
      exact h6 k (by omega) hkc
theorem HS_end {M : Nat → Prop} {key : Nat → Nat} {v c j : Nat} {o : Nat → Nat} (h : HS M key v c j o) (hv : ¬ M v) (hj : ∀ i, j = i + 1 → key (o i) ≤ key v) : LSt (fun i => M i ∨ i = v) key (c + 1) (fun k => if k = j then v else o k) := by
  obtain ⟨h1, h2, h3, h4, h5, h6⟩ := h
  refine ⟨fun k hk => ?_, fun k l hk hl he => ?_, fun i hi => ?_, fun k l hkl hl => ?_⟩
  · by_cases e : k = j
    · simp only [if_pos e]
      exact Or.inr trivial
    · simp only [if_neg e]
      exact Or.inl (h2 k (by omega) e)
  · by_cases e1 : k = j
    · by_cases e2 : l = j
      · omega
      · simp only [if_pos e1, if_neg e2] at he
        exact absurd (he ▸ h2 l (by omega) e2) hv
    · by_cases e2 : l = j
      · simp only [if_neg e1, if_pos e2] at he
        exact absurd (he ▸ h2 k (by omega) e1) hv
      · simp only [if_neg e1, if_neg e2] at he
        exact h3 k l (by omega) (by omega) e1 e2 he
  · rcases hi with hi | hi
    · obtain ⟨k, a, b, c⟩ := h4 i hi
      exact ⟨k, by omega, by simp [b, c]⟩
    · exact ⟨j, by omega, by simp [hi]⟩
  · by_cases e1 : k = j
    · have e2 : ¬ l = j := by omega
      simp only [if_pos e1, if_neg e2]
      exact h6 l (by omega) (by omega)
    · by_cases e2 : l = j
      · simp only [if_neg e1, if_pos e2]
        obtain ⟨i, hi⟩ : ∃ i, j = i + 1 := ⟨j - 1, by omega⟩
        have := hj i hi
        by_cases e3 : k = i
        · rw [e3]; exact this
        · exact Nat.le_trans (h5 k i (by omega) (by omega) e1 (by omega)) this
      · simp only [if_neg e1, if_neg e2]
        exact h5 k l hkl (by omega) e1 e2
theorem insA_S {M : Nat → Prop} {key : Nat → Nat} {v c : Nat} (hv : ¬ M v) : ∀ {j : Nat} {o : Nat → Nat}, HS M key v c j o → LSt (fun i => M i ∨ i = v) key (c + 1) (insA (fun a b => decide (key a < key b)) v j o) := by
  intro j
  induction j with
  | zero => intro o h; exact HS_end h hv (fun i hi => absurd hi (by omega))
  | succ j ih =>
    intro o h
    rw [insA]
    by_cases hb : key v < key (o j)
    · rw [if_pos (by simpa using hb)]
      exact ih (HS_step h hb)
    · rw [if_neg (by simpa using hb)]
      refine HS_end h hv (fun i hi => ?_)
      have : i = j := by omega
      subst this
      omega
theorem ins_run2 {bf : Nat → Nat → Bool} {v c cell : Nat} {step : Int32 × S → Option ((Int32 × S) ⊕ (Int32 × S))} {K : S → Prop} {V : Nat → Prop} (hK : ∀ u k x, K u → K (up u cell k x)) (h0 : ∀ u, K u → step (nI 0, u) = some (.inl (nI 0, u)))
    (h1 : ∀ u j s, K u → j < c → u.1 cell j = nI s → V s → step (nI (j + 1), u) = some (if bf v s = true then .inr (nI j, up u cell (j + 1) (nI s)) else .inl (nI (j + 1), u))) :
    ∀ (j F : Nat) (u : S) (o : Nat → Nat), j < F → j ≤ c → K u → (∀ k, k ≤ c → k ≠ j → u.1 cell k = nI (o k)) → (∀ k, k ≤ c → k ≠ j → V (o k)) → ∃ j' u', lp step F (nI j, u) = some (nI j', u') ∧ j' ≤ c ∧ K u' ∧ (∀ a, a ≠ cell → u'.1 a = u.1 a) ∧ u'.2 = u.2 ∧ ∀ k, k ≤ c → (up u' cell j' (nI v)).1 cell k = nI (insA bf v j o k) := by
  intro j
  induction j with
  | zero =>
    intro F u o hF hjc hk hA hV
    obtain ⟨F, rfl⟩ : ∃ F', F = F' + 1 := ⟨F - 1, by omega⟩
    refine ⟨0, u, lp_l (h0 u hk), by omega, hk, fun _ _ => rfl, rfl, fun k hkt => ?_⟩
    rw [up_at, insA]
    show _ = nI (if k = 0 then v else o k)
    by_cases e : k = 0
    · rw [if_pos ⟨rfl, e⟩, if_pos e]
    · rw [if_neg (fun q => e q.2), if_neg e]
      exact hA k hkt e
  | succ j ih =>
    intro F u o hF hjc hk hA hV
    obtain ⟨F, rfl⟩ : ∃ F', F = F' + 1 := ⟨F - 1, by omega⟩
    have hq := h1 u j (o j) hk (by omega) (hA j (by omega) (by omega)) (hV j (by omega) (by omega))
    rw [insA]
    by_cases hb : bf v (o j) = true
    · rw [if_pos hb] at hq
      rw [if_pos hb, lp_r hq]
      have hih := ih F (up u cell (j + 1) (nI (o j))) (fun k => if k = j + 1 then o j else o k) (by omega) (by omega) (hK _ _ _ hk) (fun k hkt hkj => ?_) (fun k hkt hkj => ?_)
      · obtain ⟨j', u', g1, g2, g3, g4, g5, g6⟩ := hih
        exact ⟨j', u', g1, g2, g3, fun a ha => by rw [g4 a ha, up_ne _ _ _ _ ha], g5, g6⟩
      · rw [up_at]
        by_cases e : k = j + 1
        · rw [if_pos ⟨rfl, e⟩, if_pos e]
        · rw [if_neg (fun q => e q.2), if_neg e]
          exact hA k hkt e
      · by_cases e : k = j + 1
        · simp only [if_pos e]
          exact hV j (by omega) (by omega)
        · simp only [if_neg e]
          exact hV k hkt e
    · rw [if_neg hb] at hq
      rw [if_neg hb, lp_l hq]
      refine ⟨j + 1, u, rfl, hjc, hk, fun _ _ => rfl, rfl, fun k hkt => ?_⟩
      rw [up_at]
      show _ = nI (if k = j + 1 then v else o k)
      by_cases e : k = j + 1
      · rw [if_pos ⟨rfl, e⟩, if_pos e]
      · rw [if_neg (fun q => e q.2), if_neg e]
        exact hA k hkt e
/-- the lifted trays, lowest first -/
theorem lifted_eq {w : S} {Q : Bx} {m : Nat} (hW : WF Q) (hM : MR w 0 Q) (hm : m < 4096) : ∃ l w', lp (gX7_gets_11 (nI m)) FU (0, 0, w) = some (nI (fb_ct (fun i => m.testBit i) (Q.1 4)), nI (Q.1 4), w') ∧ LSt (fun i => i < Q.1 4 ∧ m.testBit i = true) (fun i => Q.2 i 9) (fb_ct (fun i => m.testBit i) (Q.1 4)) l ∧ (∀ k, k < fb_ct (fun i => m.testBit i) (Q.1 4) → w'.1 7 k = nI (l k)) ∧ MR w' 0 Q ∧ (∀ j, j ≠ 7 → w'.1 j = w.1 j) ∧ w'.2 = w.2 := by
  have hn := hW.2.2.2.2.1
  have hgo := lp_go (step := gX7_gets_11 (nI m)) (a := (nI 0, nI 0, w)) (fun i a => ∃ l w', a = (nI (fb_ct (fun i => m.testBit i) i), nI i, w') ∧ LSt (fun x => x < i ∧ m.testBit x = true) (fun i => Q.2 i 9) (fb_ct (fun i => m.testBit i) i) l ∧ (∀ k, k < fb_ct (fun i => m.testBit i) i → w'.1 7 k = nI (l k)) ∧ MR w' 0 Q ∧ (∀ j, j ≠ 7 → w'.1 j = w.1 j) ∧ w'.2 = w.2) (fun a => ∃ l w', a = (nI (fb_ct (fun i => m.testBit i) (Q.1 4)), nI (Q.1 4), w') ∧ LSt (fun x => x < Q.1 4 ∧ m.testBit x = true) (fun i => Q.2 i 9) (fb_ct (fun i => m.testBit i) (Q.1 4)) l ∧ (∀ k, k < fb_ct (fun i => m.testBit i) (Q.1 4) → w'.1 7 k = nI (l k)) ∧ MR w' 0 Q ∧ (∀ j, j ≠ 7 → w'.1 j = w.1 j) ∧ w'.2 = w.2) (Q.1 4) ⟨idO, w, rfl, ⟨fun k hk => absurd hk (by simp [fb_ct]), fun k l hk => absurd hk (by simp [fb_ct]), fun i hi => absurd hi.1 (by omega), fun k l _ hl => absurd hl (by simp [fb_ct])⟩, fun k hk => absurd hk (by simp [fb_ct]), hM, fun _ _ => rfl, rfl⟩ (by omega) (fun i a hi hI => ?_) (fun a hI => ?_)
  · obtain ⟨e, h1, l, w', rfl, h2, h3, h4, h5, h6⟩ := hgo
    exact ⟨l, w', h1, h2, h3, h4, h5, h6⟩
  · obtain ⟨l, w', rfl, k1, k2, k3, k4, k5⟩ := hI
    left
    have hcl : fb_ct (fun i => m.testBit i) i ≤ i := fb_ct_le _ _
    simp only [gX7_gets_11, k3.n, Option.bind_some]
    rw [if_neg (by rw [nle (by omega) (by omega)]; omega), show nI i + 1 = nI (i + 1) from nadd i 1]
    by_cases hb : m.testBit i = true
    · have hc : fb_ct (fun i => m.testBit i) (i + 1) = fb_ct (fun i => m.testBit i) i + 1 := by rw [fb_ct_succ, if_pos hb]
      have hs := k1
      have hr := ins_run2 (bf := fun a b => decide (Q.2 a 9 < Q.2 b 9)) (v := i) (c := fb_ct (fun i => m.testBit i) i) (cell := 7) (step := gX7_gets_33 (nI i)) (K := fun s => MR s 0 Q) (V := fun x => x < Q.1 4) (fun s k x h => MR_of hn h (fun _ _ => by rw [up_ne _ _ _ _ (by omega)])) (fun s _ => by
          simp only [gX7_gets_33]
          rw [if_pos (by decide)]) (fun s j z hk hj hz hzt => by
          have sz := hW.small hzt
          have si := hW.small hi
          have e1 : tp Q z = Q.2 z 9 + tl Q z := rfl
          simp only [gX7_gets_33]
          rw [show nI (j + 1) - 1 = nI j from nsub (a := j + 1) (b := 1) (by omega), if_neg (by rw [show (0 : Int32) = nI 0 from rfl, nle (by omega) (by omega)]; omega), gd_t (inb_n (by omega) (by omega)), ncl (show j < 2147483648 by omega), hz, hk.of hn (v1 := nI z) rfl (show (9 : Int32) = nI 9 from rfl) hzt (by omega), hk.of hn (v1 := nI i) rfl (show (9 : Int32) = nI 9 from rfl) hi (by omega), Option.bind_some, Option.bind_some]
          by_cases hlt : Q.2 i 9 < Q.2 z 9
          · rw [if_neg (by rw [nle (by omega) (by omega)]; omega), if_pos (by simpa using hlt), gd_t (inb_n (by omega) (by omega)), gd_t (inb_n (by omega) (by omega)), nm_k, ncl (by omega), npred]
          · rw [if_pos (by rw [nle (by omega) (by omega)]; omega), if_neg (by simpa using hlt)]) (fb_ct (fun i => m.testBit i) i) FU w' l (by unfold FU; omega) (Nat.le_refl _) k3 (fun k hk hkc => k2 k (by omega)) (fun k hk hkc => by have := (k1.1 k (by omega)).1; omega)
      obtain ⟨j', w2, g1, g2, g3, g4, g5, g6⟩ := hr
      rw [if_pos ((shr_bit m hm i (by omega)).mpr hb), g1, Option.bind_some, gd_t (inb_n (by omega) (by omega)), nm_k, ncl (by omega), show nI (fb_ct (fun i => m.testBit i) i) + 1 = nI (fb_ct (fun i => m.testBit i) i + 1) from nadd _ 1]
      refine ⟨_, rfl, insA (fun a b => decide (Q.2 a 9 < Q.2 b 9)) i (fb_ct (fun i => m.testBit i) i) l, _, by rw [hc], ?_, fun k hk => ?_, MR_of hn g3 (fun _ _ => by rw [up_ne _ _ _ _ (by omega)]), fun j hj => by rw [up_ne _ _ _ _ hj, g4 j hj, k4 j hj], by show w2.2 = w.2; rw [g5, k5]⟩
      · have := insA_S (M := fun x => x < i ∧ m.testBit x = true) (key := fun i => Q.2 i 9) (v := i) (c := fb_ct (fun i => m.testBit i) i) (fun q => by omega) (HS_start k1)
        rw [hc]
        have e : (fun x => x < i + 1 ∧ m.testBit x = true) = fun x => (x < i ∧ m.testBit x = true) ∨ x = i := by
          funext x
          apply propext
          constructor
          · rintro ⟨a, b⟩
            by_cases hxi : x = i
            · exact Or.inr hxi
            · exact Or.inl ⟨by omega, b⟩
          · rintro (⟨a, b⟩ | rfl)
            · exact ⟨by omega, b⟩
            · exact ⟨by omega, hb⟩
        rw [e]
        exact this
      · rw [hc] at hk
        exact g6 k (by omega)
    · have hc : fb_ct (fun i => m.testBit i) (i + 1) = fb_ct (fun i => m.testBit i) i := by rw [fb_ct_succ, if_neg hb, Nat.add_zero]
      rw [if_neg (fun q => hb ((shr_bit m hm i (by omega)).mp q))]
      refine ⟨_, rfl, l, w', by rw [hc], ?_, by rw [hc]; exact k2, k3, k4, k5⟩
      have e : (fun x => x < i + 1 ∧ m.testBit x = true) = fun x => x < i ∧ m.testBit x = true := by
        funext x
        apply propext
        constructor
        · rintro ⟨a, b⟩
          have : x ≠ i := fun q => hb (q ▸ b)
          exact ⟨by omega, b⟩
        · rintro ⟨a, b⟩
          exact ⟨by omega, b⟩
      rw [e, hc]
      exact k1
  · obtain ⟨l, w', rfl, k1, k2, k3, k4, k5⟩ := hI
    simp only [gX7_gets_11, k3.n, Option.bind_some]
    rw [if_pos (by rw [nle (by omega) (by omega)]; omega)]
    exact ⟨_, rfl, l, w', rfl, k1, k2, k3, k4, k5⟩
