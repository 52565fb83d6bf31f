theorem stops_all : ∀ n, n < 6 → stopsIn 120 idO n = true := by decide +kernel
theorem fill_run {step : Int32 × S → Option ((Int32 × S) ⊕ (Int32 × S))} {c n : Nat} {val : Nat → Int32} {K : S → Prop} (hn : n < 2000) (hK : ∀ u k v, K u → K (up u c k v)) (hs : ∀ i u, i < n → K u → step (nI i, u) = some (.inr (nI (i + 1), up u c i (val i)))) (he : ∀ u, K u → step (nI n, u) = some (.inl (nI n, u))) {u : S} (h : K u) : ∃ u', lp step FU (nI 0, u) = some (nI n, u') ∧ K u' ∧ (∀ k, k < n → u'.1 c k = val k) ∧ (∀ j, j ≠ c → u'.1 j = u.1 j) ∧ u'.2 = u.2 := by
  obtain ⟨b, h1, w', rfl, h2⟩ := lp_go (step := step) (a := (nI 0, u)) (fun i a => ∃ u', a = (nI i, u') ∧ K u' ∧ (∀ k, k < i → u'.1 c k = val k) ∧ (∀ j, j ≠ c → u'.1 j = u.1 j) ∧ u'.2 = u.2) (fun b => ∃ u', b = (nI n, u') ∧ K u' ∧ (∀ k, k < n → u'.1 c k = val k) ∧ (∀ j, j ≠ c → u'.1 j = u.1 j) ∧ u'.2 = u.2) n ⟨u, rfl, h, fun k hk => absurd hk (by omega), fun _ _ => rfl, rfl⟩ hn
    (fun i a hi ⟨w', e, k1, k2, k3, k4⟩ => by
      subst e
      refine Or.inl ⟨_, hs i _ hi k1, _, rfl, hK _ _ _ k1, fun k hk => ?_, fun j hj => by rw [up_ne _ _ _ _ hj, k3 j hj], k4⟩
      rw [up_at]
      by_cases hki : k = i
      · rw [if_pos ⟨rfl, hki⟩, hki]
      · rw [if_neg (fun q => hki q.2)]
        exact k2 k (by omega))
    (fun a ⟨w', e, k1⟩ => by
      subst e
      exact ⟨_, he _ k1.1, w', rfl, k1⟩)
  exact ⟨w', h1, h2⟩
/-- figures f are better than figures g -/
def btr (f g : Nat → Int32) : Bool := if f 0 = g 0 then (if f 1 = g 1 then (if f 2 = g 2 then (if f 3 = g 3 then false else !decide (g 3 ≤ f 3)) else !decide (g 2 ≤ f 2)) else !decide (g 1 ≤ f 1)) else !decide (g 0 ≤ f 0)
theorem btr_run {f g : Nat → Int32} {step : Int32 → Option ((Int32 ⊕ Int32) ⊕ Int32)} (hs : ∀ k, k < 4 → step (nI k) = some (if f k = g k then .inr (nI (k + 1)) else if g k ≤ f k then .inl (.inl 0) else .inl (.inl 1))) (he : step (nI 4) = some (.inl (.inr (nI 4)))) : (lp step FU 0).bind (Sum.elim (fun x => some x) fun _ => some 0) = some (b01 (btr f g)) := by
  have leaf : ∀ (k F : Nat), k < 4 → ¬ f k = g k → (lp step (F + 1) (nI k)).bind (Sum.elim (fun x => some x) fun _ => some 0) = some (b01 (!decide (g k ≤ f k))) := fun k F hk hne => by
    have := hs k hk
    rw [if_neg hne] at this
    by_cases hle : g k ≤ f k
    · rw [if_pos hle] at this
      rw [lp_l this]
      simp [hle, b01]
    · rw [if_neg hle] at this
      rw [lp_l this]
      simp [hle, b01]
  have nextk : ∀ (k F : Nat), k < 4 → f k = g k → lp step (F + 1) (nI k) = lp step F (nI (k + 1)) := fun k F hk he => by
    have := hs k hk
    rw [if_pos he] at this
    exact lp_r this
  unfold btr
  by_cases h0 : f 0 = g 0
  · rw [if_pos h0, show lp step FU 0 = lp step (1999 + 1) (nI 0) from rfl, nextk 0 1999 (by omega) h0]
    by_cases h1 : f 1 = g 1
    · rw [if_pos h1, nextk 1 1998 (by omega) h1]
      by_cases h2 : f 2 = g 2
      · rw [if_pos h2, nextk 2 1997 (by omega) h2]
        by_cases h3 : f 3 = g 3
        · rw [if_pos h3, nextk 3 1996 (by omega) h3, lp_l (F := 1995) he]
          rfl
        · rw [if_neg h3]
          exact leaf 3 1996 (by omega) h3
      · rw [if_neg h2]
        exact leaf 2 1997 (by omega) h2
    · rw [if_neg h1]
      exact leaf 1 1998 (by omega) h1
  · rw [if_neg h0]
    exact leaf 0 1999 (by omega) h0
theorem tried_eq {u : S} {f g : Nat → Int32} (h1 : ∀ k, k < 4 → u.1 166 k = f k) (h2 : ∀ k, k < 4 → u.1 164 k = g k) : fX3_isTriedBetter u = some (b01 (btr f g)) := by
  refine btr_run (step := gX3_isTriedBetter_2 u) (fun k hk => ?_) ?_
  · simp only [gX3_isTriedBetter_2]
    rw [show (4 : Int32) = nI 4 from rfl, if_neg (by rw [nle (by omega) (by omega)]; omega), gd_t (inb_n (by omega) (by omega)), gd_t (inb_n (by omega) (by omega)), gd_t (inb_n (by omega) (by omega)), gd_t (inb_n (by omega) (by omega)), ncl (by omega), show (163 + 3 : Nat) = 166 from rfl, show (163 + 1 : Nat) = 164 from rfl, h1 k hk, h2 k hk, show nI k + 1 = nI (k + 1) from nadd k 1]
    by_cases ha : f k = g k
    · rw [if_pos ha, if_pos ha]
    · rw [if_neg ha, if_neg ha]
      by_cases hb : g k ≤ f k
      · rw [if_pos hb, if_pos hb]
      · rw [if_neg hb, if_neg hb]
  · simp only [gX3_isTriedBetter_2]
    rw [if_pos (by decide)]
theorem better_eq {w : S} {Q : Bx} {g : Nat → Int32} (hW : WF Q) (hM : MR w 0 Q) (h2 : ∀ k, k < 4 → w.1 6 k = g k) : fX7_isBetter w = some (b01 (btr (fig Q) g)) := by
  refine btr_run (step := gX7_isBetter_2 w) (fun k hk => ?_) ?_
  · simp only [gX7_isBetter_2, comesTo_eq hW hM rfl hk, Option.bind_some]
    rw [show (4 : Int32) = nI 4 from rfl, if_neg (by rw [nle (by omega) (by omega)]; omega), gd_t (inb_n (by omega) (by omega)), gd_t (inb_n (by omega) (by omega)), ncl (by omega), h2 k hk, show nI k + 1 = nI (k + 1) from nadd k 1]
    by_cases ha : fig Q k = g k
    · rw [if_pos ha, if_pos ha]
    · rw [if_neg ha, if_neg ha]
      by_cases hb : g k ≤ fig Q k
      · rw [if_pos hb, if_pos hb]
      · rw [if_neg hb, if_neg hb]
  · simp only [gX7_isBetter_2]
    rw [if_pos (by decide)]
/-- the best of the orders that come from o on -/
noncomputable def brs (P : Bx) : Nat → (Nat → Nat) → (Nat → Nat) → (Nat → Int32) → Bool → (Nat → Nat) × (Nat → Int32)
  | 0, _, bo, bf, _ => (bo, bf)
  | r + 1, o, bo, bf, first => match nxt o (P.1 4) with
    | none => if (first || btr (fig (pkf P o (P.1 4))) bf) = true then (o, fig (pkf P o (P.1 4))) else (bo, bf)
    | some q => if (first || btr (fig (pkf P o (P.1 4))) bf) = true then brs P r q.2 o (fig (pkf P o (P.1 4))) false else brs P r q.2 bo bf false
theorem brs_ok {P : Bx} : ∀ (r : Nat) (o bo : Nat → Nat) (bf : Nat → Int32) (first : Bool), 0 < r → Pm o (P.1 4) → (first = true ∨ (Pm bo (P.1 4) ∧ bf = fig (pkf P bo (P.1 4)))) → Pm (brs P r o bo bf first).1 (P.1 4) ∧ (brs P r o bo bf first).2 = fig (pkf P (brs P r o bo bf first).1 (P.1 4)) := by
  intro r
  induction r with
  | zero => intro o bo bf first h; omega
  | succ r ih =>
    intro o bo bf first _ ho hb
    rw [brs]
    have hb' : ¬ (first || btr (fig (pkf P o (P.1 4))) bf) = true → Pm bo (P.1 4) ∧ bf = fig (pkf P bo (P.1 4)) := fun q => by
      rcases hb with hb | hb
      · rw [hb] at q; simp at q
      · exact hb
    have hstop : ∀ (o bo : Nat → Nat) (bf : Nat → Int32) (f : Bool), Pm o (P.1 4) → Pm bo (P.1 4) ∧ bf = fig (pkf P bo (P.1 4)) → Pm (brs P r o bo bf f).1 (P.1 4) ∧ (brs P r o bo bf f).2 = fig (pkf P (brs P r o bo bf f).1 (P.1 4)) := fun o bo bf f h1 h2 => by
      by_cases hr : 0 < r
      · exact ih o bo bf f hr h1 (Or.inr h2)
      · have : r = 0 := by omega
        subst this
        exact h2
    rcases hq : nxt o (P.1 4) with _ | q
    · simp only []
      by_cases hc : (first || btr (fig (pkf P o (P.1 4))) bf) = true
      · rw [if_pos hc]
        exact ⟨ho, rfl⟩
      · rw [if_neg hc]
        exact hb' hc
    · simp only []
      obtain ⟨n1, n2, n3⟩ := nxt_ok ho (show nxt o (P.1 4) = some (q.1, q.2) from hq)
      by_cases hc : (first || btr (fig (pkf P o (P.1 4))) bf) = true
      · rw [if_pos hc]
        exact hstop _ _ _ _ n2 ⟨ho, rfl⟩
      · rw [if_neg hc]
        exact hstop _ _ _ _ n2 (hb' hc)
theorem cpA_ne {u : S} {a b n j : Nat} (h : j ≠ b) : (cpA u a b n).1 j = u.1 j := by
  funext k
  simp only [cpA]
  rw [if_neg (fun q => h q.1)]
theorem cpA_at {u : S} {a b n k : Nat} (h : k < n) : (cpA u a b n).1 b k = u.1 a k := by
  simp only [cpA]
  rw [if_pos ⟨trivial, h⟩]
/-- what the class's best packing touches -/
def fX (u u' : S) : Prop := (∀ j, ¬ inB 9 j → j ≠ 155 → j ≠ 157 → ¬ (163 ≤ j ∧ j ≤ 166) → u'.1 j = u.1 j) ∧ u'.2 = u.2
theorem fX.trans {a b c : S} (h1 : fX a b) (h2 : fX b c) : fX a c := ⟨fun j x y z t => (h2.1 j x y z t).trans (h1.1 j x y z t), h2.2.trans h1.2⟩
theorem best_x {P : Bx} (hW : WF P) : ∀ (r c F : Nat) (u : S) (o bo : Nat → Nat) (bf : Nat → Int32) (R : Bx) (p : Nat), r + c = 120 → r < F → stopsIn r o (P.1 4) = true → CR u 9 R → cmpt R P o p → p ≤ P.1 4 → HoldsO u 165 (P.1 4) o → Pm o (P.1 4) → (0 < c → HoldsO u 163 (P.1 4) bo ∧ ∀ k, k < 4 → u.1 164 k = bf k) →
    ∃ x y u', lp gX3_packByBest_38 F (nI p, nI c, u) = some (x, y, u') ∧ (∃ R', CR u' 9 R' ∧ R'.1 = P.1 ∧ ∀ i k, i < P.1 4 → k < 5 → R'.2 i k = P.2 i k) ∧ HoldsO u' 163 (P.1 4) (brs P r o bo bf (c == 0)).1 ∧ (∀ k, k < 4 → u'.1 164 k = (brs P r o bo bf (c == 0)).2 k) ∧ fX u u' := by
  have hn := hW.2.2.2.2.1
  intro r
  induction r with
  | zero => intro c F u o bo bf R p _ _ h; cases h
  | succ r ih =>
    intro c F u o bo bf R p hc hF hst hC hcm hp hO hPm hB
    obtain ⟨F, rfl⟩ : ∃ F', F = F' + 1 := ⟨F - 1, by omega⟩
    obtain ⟨u1, a1, a2, a3, a4⟩ := ldf_eq (v := 2) hW hPm hC hcm hp (Or.inr rfl) hO
    obtain ⟨i1, i2, i3, i4⟩ := pkf_inv hW hPm (Nat.le_refl (P.1 4))
    obtain ⟨u2, b1, b2, b3, b4⟩ := fX3_measure_eq (v := 3) i1 a2 (Or.inr rfl)
    have hC2 : CR u2 9 (pkf P o (P.1 4)) := CR_of i1.2.2.2.2.1 a2 (fun j hj => b3 j (by unfold inB at hj; omega))
    have hO2 : HoldsO u2 165 (P.1 4) o := fun k hk => by rw [b3 165 (by omega), a3 165 (by omega) (by omega) (by omega)]; exact hO k hk
    have hB2 : 0 < c → HoldsO u2 163 (P.1 4) bo ∧ ∀ k, k < 4 → u2.1 164 k = bf k := fun q => by
      obtain ⟨g1, g2⟩ := hB q
      exact ⟨fun k hk => by rw [b3 163 (by omega), a3 163 (by omega) (by omega) (by omega)]; exact g1 k hk, fun k hk => by rw [b3 164 (by omega), a3 164 (by omega) (by omega) (by omega)]; exact g2 k hk⟩
    have hf2 : fX u u2 := ⟨fun j x y z t => by unfold inB at x; rw [b3 j (by omega), a3 j (by omega) y z], by rw [b4, a4]⟩
    -- the state after the choice
    obtain ⟨u3, hu3, hC3, hO3, hB3, hf3⟩ : ∃ u3, gX3_packByBest_38 (nI p, nI c, u) = ((fX3_stepToNextOrder u3).bind fun q => some (.inr (q.1, nI c + 1, q.2))) ∧ CR u3 9 (pkf P o (P.1 4)) ∧ HoldsO u3 165 (P.1 4) o ∧ (HoldsO u3 163 (P.1 4) (if ((c == 0) || btr (fig (pkf P o (P.1 4))) bf) = true then o else bo) ∧ ∀ k, k < 4 → u3.1 164 k = (if ((c == 0) || btr (fig (pkf P o (P.1 4))) bf) = true then fig (pkf P o (P.1 4)) else bf) k) ∧ fX u u3 := by
      have hstart : gX3_packByBest_38 (nI p, nI c, u) = (if nI c = 0 then (nm (cpA u2 (163 + 2) (163 + 0) 12) fun u106 => nm (cpA u106 (163 + 3) (163 + 1) 4) fun u107 => (fX3_stepToNextOrder u107).bind fun q108 => some (.inr (q108.1, nI c + 1, q108.2))) else ((fX3_isTriedBetter u2).bind fun q109 => if q109 = 0 then ((fX3_stepToNextOrder u2).bind fun q110 => some (.inr (q110.1, nI c + 1, q110.2))) else (nm (cpA u2 (163 + 2) (163 + 0) 12) fun u111 => nm (cpA u111 (163 + 3) (163 + 1) 4) fun u112 => (fX3_stepToNextOrder u112).bind fun q113 => some (.inr (q113.1, nI c + 1, q113.2))))) := by
        simp only [gX3_packByBest_38]
        rw [if_neg (by rw [show (120 : Int32) = nI 120 from rfl, nle (by omega) (by omega)]; omega), if_neg (by rw [show (0 : Int32) = nI 0 from rfl, nlt (by omega) (by omega)]; omega), a1, Option.bind_some, b1, Option.bind_some]
      obtain ⟨z, hz⟩ : ∃ z, z = cpA (cpA u2 165 163 12) 166 164 4 := ⟨_, rfl⟩
      have zC : CR z 9 (pkf P o (P.1 4)) := CR_of i1.2.2.2.2.1 hC2 (fun j hj => by unfold inB at hj; rw [hz, cpA_ne (by omega), cpA_ne (by omega)])
      have zO : HoldsO z 165 (P.1 4) o := fun k hk => by rw [hz, cpA_ne (by omega), cpA_ne (by omega)]; exact hO2 k hk
      have z1 : HoldsO z 163 (P.1 4) o := fun k hk => by rw [hz, cpA_ne (by omega), cpA_at (by omega)]; exact hO2 k hk
      have z2 : ∀ k, k < 4 → z.1 164 k = fig (pkf P o (P.1 4)) k := fun k hk => by rw [hz, cpA_at hk, cpA_ne (by omega)]; exact b2 k hk
      have zf : fX u z := hf2.trans ⟨fun j x y w t => by rw [hz, cpA_ne (by omega), cpA_ne (by omega)], by rw [hz]; rfl⟩
      by_cases hc0 : c = 0
      · subst hc0
        refine ⟨z, ?_, zC, zO, ?_, zf⟩
        · rw [hstart, if_pos (show nI 0 = 0 from rfl), nm_k, nm_k, hz]
        · rw [if_pos (by simp), if_pos (by simp)]
          exact ⟨z1, z2⟩
      · obtain ⟨g1, g2⟩ := hB2 (by omega)
        have hcb : (c == 0) = false := by simpa using hc0
        rw [hstart, if_neg (by rw [show (0 : Int32) = nI 0 from rfl, neq (by omega) (by omega)]; exact hc0), tried_eq (fun k hk => b2 k hk) g2, Option.bind_some, hcb]
        by_cases hbt : btr (fig (pkf P o (P.1 4))) bf = true
        · refine ⟨z, ?_, zC, zO, ?_, zf⟩
          · rw [hbt, if_neg (show ¬ b01 true = 0 by decide), nm_k, nm_k, hz]
          · rw [if_pos (by simp [hbt]), if_pos (by simp [hbt])]
            exact ⟨z1, z2⟩
        · refine ⟨u2, ?_, hC2, hO2, ?_, hf2⟩
          · rw [Bool.not_eq_true] at hbt
            rw [hbt, if_pos (show b01 false = 0 from rfl)]
          · rw [if_neg (by simp [hbt]), if_neg (by simp [hbt])]
            exact ⟨g1, g2⟩
    have h43 : u3.1 (132 + 9) 4 = nI (P.1 4) := by rw [← i2]; exact hC3.1 4 (by omega)
    rw [stopsIn] at hst
    rcases step_x hn hPm.1 hO3 h43 with ⟨n1, n2⟩ | ⟨p', o', u4, n1, n2, n3, n4, n5⟩
    · rw [n2, Option.bind_some] at hu3
      have hend : gX3_packByBest_38 (-9, nI c + 1, u3) = some (.inl (-9, nI c + 1, u3)) := by
        simp only [gX3_packByBest_38]
        split
        · rfl
        · rw [if_pos (by decide)]
      obtain ⟨F, rfl⟩ : ∃ F', F = F' + 1 := ⟨F - 1, by omega⟩
      refine ⟨-9, nI c + 1, u3, ?_, ⟨_, hC3, i2, fun i k _ hk => i3 i k hk⟩, ?_, ?_, hf3⟩
      · rw [lp_r hu3, lp_l hend]
      · rw [brs, n1]
        simp only []
        by_cases hq : ((c == 0) || btr (fig (pkf P o (P.1 4))) bf) = true
        · rw [if_pos hq] at hB3 ⊢
          exact hB3.1
        · rw [if_neg hq] at hB3 ⊢
          exact hB3.1
      · rw [brs, n1]
        simp only []
        by_cases hq : ((c == 0) || btr (fig (pkf P o (P.1 4))) bf) = true
        · rw [if_pos hq, if_pos hq] at hB3
          rw [if_pos hq]
          exact hB3.2
        · rw [if_neg hq, if_neg hq] at hB3
          rw [if_neg hq]
          exact hB3.2
    · rw [n2, Option.bind_some, show nI c + 1 = nI (c + 1) from nadd c 1] at hu3
      rw [n1] at hst
      obtain ⟨m1, m2, m3⟩ := nxt_ok hPm n1
      have hC4 : CR u4 9 (pkf P o (P.1 4)) := CR_of i1.2.2.2.2.1 hC3 (fun j hj => n4 j (by unfold inB at hj; omega))
      have hf4 : fX u u4 := hf3.trans ⟨fun j x y w t => n4 j (by omega), n5⟩
      have hlp := lp_r (F := F) hu3
      rw [hlp, brs, n1]
      simp only []
      by_cases hq : ((c == 0) || btr (fig (pkf P o (P.1 4))) bf) = true
      · rw [if_pos hq, if_pos hq] at hB3
        rw [if_pos hq]
        obtain ⟨x, y, u', l1, l2, l3, l4, l5⟩ := ih (c + 1) F u4 o' o (fig (pkf P o (P.1 4))) _ p' (by omega) (by omega) hst hC4 (cmpt_next hW hPm (by omega) m3) (by omega) n3 m2 (fun _ => ⟨fun k hk => by rw [n4 163 (by omega)]; exact hB3.1 k hk, fun k hk => by rw [n4 164 (by omega)]; exact hB3.2 k hk⟩)
        rw [show ((c + 1) == 0) = false from rfl] at l3 l4
        exact ⟨x, y, u', l1, l2, l3, l4, hf4.trans l5⟩
      · rw [if_neg hq, if_neg hq] at hB3
        rw [if_neg hq]
        obtain ⟨x, y, u', l1, l2, l3, l4, l5⟩ := ih (c + 1) F u4 o' bo bf _ p' (by omega) (by omega) hst hC4 (cmpt_next hW hPm (by omega) m3) (by omega) n3 m2 (fun _ => ⟨fun k hk => by rw [n4 163 (by omega)]; exact hB3.1 k hk, fun k hk => by rw [n4 164 (by omega)]; exact hB3.2 k hk⟩)
        rw [show ((c + 1) == 0) = false from rfl] at l3 l4
        exact ⟨x, y, u', l1, l2, l3, l4, hf4.trans l5⟩
