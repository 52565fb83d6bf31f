theorem emp_eq {P R : Bx} (h1 : R.1 = P.1) (h2 : ∀ i k, k < 5 → R.2 i k = P.2 i k) : emp R = emp P := by
  apply Prod.ext
  · exact h1
  · funext i k
    show (if 5 ≤ k then 0 else R.2 i k) = if 5 ≤ k then 0 else P.2 i k
    split
    · rfl
    · exact h2 i k (by omega)
theorem pkf_eq {P R : Bx} (h1 : R.1 = P.1) (h2 : ∀ i k, k < 5 → R.2 i k = P.2 i k) (o : Nat → Nat) (m : Nat) : pkf R o m = pkf P o m := by
  unfold pkf
  rw [emp_eq h1 h2]
/-- what the reference's best packing leaves as it was -/
def fQ (w w' : S) : Prop := (∀ k, 125 ≤ k → w'.1 1 k = w.1 1 k) ∧ (∀ j, j ≠ 0 → j ≠ 1 → j ≠ 2 → j ≠ 4 → j ≠ 5 → j ≠ 6 → w'.1 j = w.1 j) ∧ (∀ k, k ≠ 3 → k ≠ 4 → k ≠ 11 → k ≠ 12 → k ≠ 13 → k ≠ 14 → k ≠ 15 → w'.1 0 k = w.1 0 k) ∧ w'.2 = w.2
theorem fQ.refl (w : S) : fQ w w := ⟨fun _ _ => rfl, fun _ _ _ _ _ _ _ => rfl, fun _ _ _ _ _ _ _ _ => rfl, rfl⟩
theorem fQ.trans {a b c : S} (h1 : fQ a b) (h2 : fQ b c) : fQ a c := ⟨fun k hk => (h2.1 k hk).trans (h1.1 k hk), fun j x y z p q r => (h2.2.1 j x y z p q r).trans (h1.2.1 j x y z p q r), fun k q1 q2 q3 q4 q5 q6 q7 => (h2.2.2.1 k q1 q2 q3 q4 q5 q6 q7).trans (h1.2.2.1 k q1 q2 q3 q4 q5 q6 q7), h2.2.2.2.trans h1.2.2.2⟩
theorem fK.fq {a b : S} (h : fK a b) : fQ a b := ⟨h.1, fun j x y z _ _ _ => h.2.1 j x y z, h.2.2.1, h.2.2.2⟩
theorem one_fq {a b : S} (h : ∀ j, j ≠ 4 → j ≠ 5 → j ≠ 6 → b.1 j = a.1 j) (h2 : b.2 = a.2) : fQ a b := ⟨fun k _ => by rw [h 1 (by omega) (by omega) (by omega)], fun j _ _ _ x y z => h j x y z, fun k _ _ _ _ _ _ _ => by rw [h 0 (by omega) (by omega) (by omega)], h2⟩
theorem fQ.mm {w w' : S} (h : fQ w w') : MM w w' := ⟨fun k a _ => h.1 k a, h.2.1 3 (by omega) (by omega) (by omega) (by omega) (by omega) (by omega), h.2.2.1 1 (by omega) (by omega) (by omega) (by omega) (by omega) (by omega) (by omega), h.2.2.1 6 (by omega) (by omega) (by omega) (by omega) (by omega) (by omega) (by omega), h.2.2.1 7 (by omega) (by omega) (by omega) (by omega) (by omega) (by omega) (by omega)⟩
theorem MR.tr {w w' : S} {Q : Bx} (hn : Q.1 4 ≤ 12) (h : MR w 0 Q) (he : w'.1 1 = w.1 1) : fX7_trays w' = some (nI (Q.1 4)) := by
  have : MR w' 0 Q := MR_of hn h (fun k _ => by rw [he])
  exact this.n
theorem best_m {P : Bx} (hW : WF P) : ∀ (r F : Nat) (w : S) (o bo : Nat → Nat) (bf : Nat → Int32) (first : Bool) (R : Bx), r < F → stopsIn r o (P.1 4) = true → WF R → MR w 0 R → R.1 = P.1 → (∀ i k, k < 5 → R.2 i k = P.2 i k) → HoldsO w 4 (P.1 4) o → Pm o (P.1 4) → (first = false → HoldsO w 5 (P.1 4) bo ∧ ∀ k, k < 4 → w.1 6 k = bf k) →
    ∃ x y w', lp gX7_ordersBest_27 F (b01 first, 1, w) = some (x, y, w') ∧ (∃ R', WF R' ∧ MR w' 0 R' ∧ R'.1 = P.1 ∧ ∀ i k, k < 5 → R'.2 i k = P.2 i k) ∧ HoldsO w' 5 (P.1 4) (brs P r o bo bf first).1 ∧ fQ w w' := by
  have hn := hW.2.2.2.2.1
  intro r
  induction r with
  | zero => intro F w o bo bf first R _ h; cases h
  | succ r ih =>
    intro F w o bo bf first R hF hst hWR hM hR1 hR2 hO hPm hB
    obtain ⟨F, rfl⟩ : ∃ F', F = F' + 1 := ⟨F - 1, by omega⟩
    have hn4 : R.1 4 = P.1 4 := by rw [hR1]
    obtain ⟨w2, a1, a2, a3⟩ := m_packs hWR hM (o := o) (by rw [hn4]; exact hPm) (fun k hk => hO k (by rw [← hn4]; exact hk))
    rw [hn4, pkf_eq hR1 hR2] at a2
    obtain ⟨i1, i2, i3, i4⟩ := pkf_inv hW hPm (Nat.le_refl (P.1 4))
    have hnQ : (pkf P o (P.1 4)).1 4 = P.1 4 := by rw [i2]
    have hO2 : HoldsO w2 4 (P.1 4) o := fun k hk => by rw [a3.2.1 4 (by omega) (by omega) (by omega)]; exact hO k hk
    have hB2 : first = false → HoldsO w2 5 (P.1 4) bo ∧ ∀ k, k < 4 → w2.1 6 k = bf k := fun q => by
      obtain ⟨g1, g2⟩ := hB q
      exact ⟨fun k hk => by rw [a3.2.1 5 (by omega) (by omega) (by omega)]; exact g1 k hk, fun k hk => by rw [a3.2.1 6 (by omega) (by omega) (by omega)]; exact g2 k hk⟩
    -- the state after the choice
    obtain ⟨w3, hw3, hM3, hO3, hB3, hf3⟩ : ∃ w3, gX7_ordersBest_27 (b01 first, 1, w) = ((fX7_ordersNext w3).bind fun q => some (.inr (0, q.1, q.2))) ∧ MR w3 0 (pkf P o (P.1 4)) ∧ HoldsO w3 4 (P.1 4) o ∧ (HoldsO w3 5 (P.1 4) (if (first || btr (fig (pkf P o (P.1 4))) bf) = true then o else bo) ∧ ∀ k, k < 4 → w3.1 6 k = (if (first || btr (fig (pkf P o (P.1 4))) bf) = true then fig (pkf P o (P.1 4)) else bf) k) ∧ fQ w w3 := by
      have hstart : gX7_ordersBest_27 (b01 first, 1, w) = (if b01 first = 0 then ((fX7_isBetter w2).bind fun q112 => if q112 = 0 then ((fX7_ordersNext w2).bind fun q113 => some (.inr (0, q113.1, q113.2))) else ((lp (gX7_ordersBest_48) FU (0, w2)).bind fun e114 => (lp (gX7_ordersBest_72) FU (0, e114.2)).bind fun e117 => (fX7_ordersNext e117.2).bind fun q120 => some (.inr (0, q120.1, q120.2)))) else ((lp (gX7_ordersBest_48) FU (0, w2)).bind fun e105 => (lp (gX7_ordersBest_72) FU (0, e105.2)).bind fun e108 => (fX7_ordersNext e108.2).bind fun q111 => some (.inr (0, q111.1, q111.2)))) := by
        simp only [gX7_ordersBest_27]
        rw [if_neg (show ¬ (1 : Int32) = 0 by decide), a1, Option.bind_some]
      obtain ⟨z1, c1, c2, c3, c4, c5⟩ := fill_run (step := gX7_ordersBest_48) (c := 6) (n := 4) (val := fig (pkf P o (P.1 4))) (K := fun s => MR s 0 (pkf P o (P.1 4)) ∧ HoldsO s 4 (P.1 4) o) (by omega) (fun s k v h => ⟨MR_of i1.2.2.2.2.1 h.1 (fun _ _ => by rw [up_ne _ _ _ _ (by omega)]), fun k hk => by rw [up_ne _ _ _ _ (by omega)]; exact h.2 k hk⟩) (fun i s hi h => by
          simp only [gX7_ordersBest_48, comesTo_eq i1 h.1 rfl hi, Option.bind_some, nm_k]
          rw [show (4 : Int32) = nI 4 from rfl, if_neg (by rw [nle (by omega) (by omega)]; omega), gd_t (inb_n (by omega) (by omega)), ncl (by omega), show nI i + 1 = nI (i + 1) from nadd i 1]) (fun s h => by
          simp only [gX7_ordersBest_48]
          rw [if_pos (by decide)]) (u := w2) ⟨a2, hO2⟩
      obtain ⟨z2, d1, d2, d3, d4, d5⟩ := fill_run (step := gX7_ordersBest_72) (c := 5) (n := P.1 4) (val := fun k => nI (o k)) (K := fun s => MR s 0 (pkf P o (P.1 4)) ∧ HoldsO s 4 (P.1 4) o) (by omega) (fun s k v h => ⟨MR_of i1.2.2.2.2.1 h.1 (fun _ _ => by rw [up_ne _ _ _ _ (by omega)]), fun k hk => by rw [up_ne _ _ _ _ (by omega)]; exact h.2 k hk⟩) (fun i s hi h => by
          simp only [gX7_ordersBest_72, h.1.n, Option.bind_some, nm_k]
          rw [hnQ, if_neg (by rw [nle (by omega) (by omega)]; omega), gd_t (inb_n (by omega) (by omega)), gd_t (inb_n (by omega) (by omega)), ncl (by omega), h.2 i hi, show nI i + 1 = nI (i + 1) from nadd i 1]) (fun s h => by
          simp only [gX7_ordersBest_72, h.1.n, Option.bind_some]
          rw [hnQ, if_pos (by rw [nle (by omega) (by omega)]; omega)]) (u := z1) c2
      have hzf : fQ w z2 := a3.fq.trans ((one_fq (fun j _ _ x => c4 j x) c5).trans (one_fq (fun j _ x _ => d4 j x) d5))
      have hz6 : ∀ k, k < 4 → z2.1 6 k = fig (pkf P o (P.1 4)) k := fun k hk => by rw [d4 6 (by omega)]; exact c3 k hk
      have hcopy : ((lp (gX7_ordersBest_48) FU (0, w2)).bind fun e105 => (lp (gX7_ordersBest_72) FU (0, e105.2)).bind fun e108 => (fX7_ordersNext e108.2).bind fun q111 => (some (.inr ((0 : Int32), q111.1, q111.2)) : Option ((Int32 × Int32 × S) ⊕ (Int32 × Int32 × S)))) = ((fX7_ordersNext z2).bind fun q => some (.inr (0, q.1, q.2))) := by
        rw [show ((0 : Int32), w2) = (nI 0, w2) from rfl, c1, Option.bind_some, show ((0 : Int32), (nI 4, z1).2) = (nI 0, z1) from rfl, d1, Option.bind_some]
      rcases hfst : first with _ | _
      · obtain ⟨g1, g2⟩ := hB2 hfst
        rw [hfst] at hstart
        rw [hstart, if_pos (show b01 false = 0 from rfl), better_eq i1 a2 g2, Option.bind_some]
        by_cases hbt : btr (fig (pkf P o (P.1 4))) bf = true
        · refine ⟨z2, ?_, d2.1, d2.2, ?_, hzf⟩
          · rw [hbt, if_neg (show ¬ b01 true = 0 by decide)]
            exact hcopy
          · rw [if_pos (by simp [hbt]), if_pos (by simp [hbt])]
            exact ⟨d3, hz6⟩
        · refine ⟨w2, ?_, a2, hO2, ?_, a3.fq⟩
          · rw [Bool.not_eq_true] at hbt
            rw [hbt, if_pos (show b01 false = 0 from rfl)]
          · rw [if_neg (by simp [hbt]), if_neg (by simp [hbt])]
            exact ⟨g1, g2⟩
      · rw [hfst] at hstart
        refine ⟨z2, ?_, d2.1, d2.2, ?_, hzf⟩
        · rw [hstart, if_neg (show ¬ b01 true = 0 by decide)]
          exact hcopy
        · rw [if_pos (by simp), if_pos (by simp)]
          exact ⟨d3, hz6⟩
    rw [stopsIn] at hst
    have h4 : ∀ w' : S, (∀ j, j ≠ 4 → w'.1 j = w3.1 j) → fX7_trays w' = some (nI (P.1 4)) := fun w' hw => by
      rw [hM3.tr i1.2.2.2.2.1 (hw 1 (by omega)), hnQ]
    rcases step_m hn hPm.1 hO3 h4 with ⟨n1, n2⟩ | ⟨p', o', w4, n1, n2, n3, n4, n5⟩
    · rw [n2, Option.bind_some] at hw3
      have hend : gX7_ordersBest_27 (0, 0, w3) = some (.inl (0, 0, w3)) := by
        simp only [gX7_ordersBest_27]
        rw [if_pos trivial]
      obtain ⟨F, rfl⟩ : ∃ F', F = F' + 1 := ⟨F - 1, by omega⟩
      refine ⟨0, 0, w3, ?_, ⟨_, i1, hM3, i2, fun i k hk => i3 i k hk⟩, ?_, hf3⟩
      · rw [lp_r hw3, lp_l hend]
      · rw [brs, n1]
        simp only []
        by_cases hq : (first || btr (fig (pkf P o (P.1 4))) bf) = true
        · rw [if_pos hq] at hB3 ⊢
          exact hB3.1
        · rw [if_neg hq] at hB3 ⊢
          exact hB3.1
    · rw [n2, Option.bind_some] at hw3
      rw [n1] at hst
      obtain ⟨m1, m2, m3⟩ := nxt_ok hPm n1
      have hM4 : MR w4 0 (pkf P o (P.1 4)) := MR_of i1.2.2.2.2.1 hM3 (fun k _ => by rw [n4 1 (by omega)])
      have hf4 : fQ w w4 := hf3.trans (one_fq (fun j x _ _ => n4 j x) n5)
      have hlp := lp_r (F := F) hw3
      rw [hlp, brs, n1]
      simp only []
      by_cases hq : (first || btr (fig (pkf P o (P.1 4))) bf) = true
      · rw [if_pos hq, if_pos hq] at hB3
        rw [if_pos hq]
        obtain ⟨x, y, u', l1, l2, l3, l5⟩ := ih F w4 o' o (fig (pkf P o (P.1 4))) false _ (by omega) hst i1 hM4 i2 i3 n3 m2 (fun _ => ⟨fun k hk => by rw [n4 5 (by omega)]; exact hB3.1 k hk, fun k hk => by rw [n4 6 (by omega)]; exact hB3.2 k hk⟩)
        exact ⟨x, y, u', l1, l2, l3, hf4.trans l5⟩
      · rw [if_neg hq, if_neg hq] at hB3
        rw [if_neg hq]
        obtain ⟨x, y, u', l1, l2, l3, l5⟩ := ih F w4 o' bo bf false _ (by omega) hst i1 hM4 i2 i3 n3 m2 (fun _ => ⟨fun k hk => by rw [n4 5 (by omega)]; exact hB3.1 k hk, fun k hk => by rw [n4 6 (by omega)]; exact hB3.2 k hk⟩)
        exact ⟨x, y, u', l1, l2, l3, hf4.trans l5⟩
/-- the best order of P's trays -/
noncomputable def bsO (P : Bx) : Nat → Nat := (brs P 120 idO idO (fun _ => 0) true).1
theorem idO_Pm (n : Nat) : Pm idO n := ⟨fun k hk => hk, fun k l _ _ h => h, fun i hi => ⟨i, hi, rfl⟩⟩
theorem bsO_Pm (P : Bx) : Pm (bsO P) (P.1 4) := (brs_ok 120 idO idO _ true (by omega) (idO_Pm _) (Or.inl rfl)).1
theorem packByBest_eq {u : S} {P : Bx} (hW : WF P) (h5 : P.1 4 ≤ 5) (hC : CR u 0 P) : ∃ u', fX3_packByBest 0 u = some u' ∧ CR u' 9 (pkf P (bsO P) (P.1 4)) ∧ (∀ k, k < P.1 4 → u'.1 163 k = nI (bsO P k)) ∧ (∀ k, k < 4 → u'.1 164 k = fig (pkf P (bsO P) (P.1 4)) k) ∧ fX u u' := by
  have hn := hW.2.2.2.2.1
  obtain ⟨u1, a1, a2, a3, a4⟩ := copyFrom_CR (a := 9) (b := 0) (by omega) (by omega) (by omega) hW hC
  obtain ⟨u2, b1, b2, b3, b4, b5⟩ := fill_run (step := gX3_packByBest_10) (c := 165) (n := P.1 4) (val := fun k => nI (idO k)) (K := fun s => CR s 9 P) (by omega) (fun s k v h => CR_of hn h (fun j hj => up_ne _ _ _ _ (by unfold inB at hj; omega))) (fun i s hi h => by
      simp only [gX3_packByBest_10, h.1 4 (show 4 < 5 by omega), nm_k]
      rw [if_neg (by rw [nle (by omega) (by omega)]; omega), gd_t (inb_n (by omega) (by omega)), ncl (by omega), show nI i + 1 = nI (i + 1) from nadd i 1]
      rfl) (fun s h => by
      simp only [gX3_packByBest_10, h.1 4 (show 4 < 5 by omega)]
      rw [if_pos (by rw [nle (by omega) (by omega)]; omega)]) (u := u1) a2
  obtain ⟨x, y, u3, c1, ⟨R', c2, c3, c4⟩, c5, c6, c7⟩ := best_x hW 120 0 FU u2 idO idO (fun _ => 0) P 0 (by omega) (by unfold FU; omega) (stops_all _ (by omega)) b2 (cmpt_0 rfl (fun _ _ _ _ => rfl)) (Nat.zero_le _) b3 (idO_Pm _) (fun q => absurd q (by omega))
  rw [show ((0 : Nat) == 0) = true from rfl] at c5 c6
  have hok := brs_ok (P := P) 120 idO idO (fun _ => 0) true (by omega) (idO_Pm _) (Or.inl rfl)
  rw [hok.2] at c6
  have c5' : HoldsO u3 163 (P.1 4) (bsO P) := c5
  have c6' : ∀ k, k < 4 → u3.1 164 k = fig (pkf P (bsO P) (P.1 4)) k := c6
  obtain ⟨u4, d1, d2, d3, d4⟩ := ldf_eq (v := 0) (p := 0) hW (bsO_Pm P) c2 (cmpt_0 c3 c4) (Nat.zero_le _) (Or.inl rfl) (fun k hk => c5' k hk)
  refine ⟨u4, ?_, d2, fun k hk => by rw [d3 163 (by omega) (by omega) (by omega)]; exact c5' k hk, fun k hk => by rw [d3 164 (by omega) (by omega) (by omega)]; exact c6' k hk, fun j p q r s => ?_, by rw [d4, c7.2, b5, a4]⟩
  · simp only [fX3_packByBest, a1, Option.bind_some]
    rw [show ((0 : Int32), u1) = (nI 0, u1) from rfl, b1, Option.bind_some, show ((0 : Int32), (0 : Int32), (nI (P.1 4), u2).2) = (nI 0, nI 0, u2) from rfl, c1, Option.bind_some, show (0 : Int32) = nI 0 from rfl, d1, Option.bind_some]
  · have p' := p
    unfold inB at p'
    rw [d3 j (by omega) q r, c7.1 j p q r s, b4 j (by omega), a3 j p]
theorem ordersBest_eq {w : S} {P : Bx} (hW : WF P) (h5 : P.1 4 ≤ 5) (hM : MR w 0 P) : ∃ w', fX7_ordersBest w = some w' ∧ (∃ R', WF R' ∧ MR w' 0 R' ∧ R'.1 = P.1 ∧ ∀ i k, k < 5 → R'.2 i k = P.2 i k) ∧ HoldsO w' 4 (P.1 4) (bsO P) ∧ fQ w w' := by
  have hn := hW.2.2.2.2.1
  obtain ⟨w1, a1, a2, a3, a4, a5⟩ := fill_run (step := gX7_ordersBest_2) (c := 4) (n := P.1 4) (val := fun k => nI (idO k)) (K := fun s => MR s 0 P) (by omega) (fun s k v h => MR_of hn h (fun _ _ => by rw [up_ne _ _ _ _ (by omega)])) (fun i s hi h => by
      simp only [gX7_ordersBest_2, h.n, Option.bind_some, nm_k]
      rw [if_neg (by rw [nle (by omega) (by omega)]; omega), gd_t (inb_n (by omega) (by omega)), ncl (by omega), show nI i + 1 = nI (i + 1) from nadd i 1]
      rfl) (fun s h => by
      simp only [gX7_ordersBest_2, h.n, Option.bind_some]
      rw [if_pos (by rw [nle (by omega) (by omega)]; omega)]) (u := w) hM
  obtain ⟨x, y, w2, b1, ⟨R', b2, b3, b4, b5⟩, b6, b7⟩ := best_m hW 120 FU w1 idO idO (fun _ => 0) true P (by unfold FU; omega) (stops_all _ (by omega)) hW a2 rfl (fun _ _ _ => rfl) a3 (idO_Pm _) (fun q => by cases q)
  have b6' : HoldsO w2 5 (P.1 4) (bsO P) := b6
  have hn4 : R'.1 4 = P.1 4 := by rw [b4]
  obtain ⟨w3, c1, c2, c3, c4, c5⟩ := fill_run (step := gX7_ordersBest_110) (c := 4) (n := P.1 4) (val := fun k => nI (bsO P k)) (K := fun s => MR s 0 R' ∧ HoldsO s 5 (P.1 4) (bsO P)) (by omega) (fun s k v h => ⟨MR_of b2.2.2.2.2.1 h.1 (fun _ _ => by rw [up_ne _ _ _ _ (by omega)]), fun k hk => by rw [up_ne _ _ _ _ (by omega)]; exact h.2 k hk⟩) (fun i s hi h => by
      simp only [gX7_ordersBest_110, h.1.n, Option.bind_some, nm_k]
      rw [hn4, if_neg (by rw [nle (by omega) (by omega)]; omega), gd_t (inb_n (by omega) (by omega)), gd_t (inb_n (by omega) (by omega)), ncl (by omega), h.2 i hi, show nI i + 1 = nI (i + 1) from nadd i 1]) (fun s h => by
      simp only [gX7_ordersBest_110, h.1.n, Option.bind_some]
      rw [hn4, if_pos (by rw [nle (by omega) (by omega)]; omega)]) (u := w2) ⟨b3, b6'⟩
  refine ⟨w3, ?_, ⟨R', b2, c2.1, b4, b5⟩, c3, (one_fq (fun j x _ _ => a4 j x) a5).trans (b7.trans (one_fq (fun j x _ _ => c4 j x) c5))⟩
  simp only [fX7_ordersBest]
  rw [show ((0 : Int32), w) = (nI 0, w) from rfl, a1, Option.bind_some, show ((1 : Int32), (1 : Int32), (nI (P.1 4), w1).2) = (b01 true, 1, w1) from rfl, b1, Option.bind_some, show ((0 : Int32), (x, y, w2).2.2) = (nI 0, w2) from rfl, c1, Option.bind_some]
/-- the reference packs by the best order -/
theorem m_packBest {w : S} {P : Bx} (hW : WF P) (h5 : P.1 4 ≤ 5) (hM : MR w 0 P) : ∃ w1 w', fX7_ordersBest w = some w1 ∧ fX7_packs w1 = some w' ∧ MR w' 0 (pkf P (bsO P) (P.1 4)) ∧ HoldsO w' 4 (P.1 4) (bsO P) ∧ fQ w w' := by
  obtain ⟨w1, a1, ⟨R', a2, a3, a4, a5⟩, a6, a7⟩ := ordersBest_eq hW h5 hM
  have hn4 : R'.1 4 = P.1 4 := by rw [a4]
  obtain ⟨w2, b1, b2, b3⟩ := m_packs a2 a3 (o := bsO P) (by rw [hn4]; exact bsO_Pm P) (fun k hk => a6 k (by rw [← hn4]; exact hk))
  rw [hn4, pkf_eq a4 a5] at b2
  exact ⟨w1, w2, a1, b1, b2, fun k hk => by rw [b3.2.1 4 (by omega) (by omega) (by omega)]; exact a6 k hk, a7.trans b3.fq⟩
theorem fX.sx {u u' : S} (h : fX u u') : SX u u' := frame_sx (fun j h1 h2 h3 h4 => h.1 j h1 h2 h3 (by omega))
theorem sim_packBest : Sim_packBest Rl := by
  intro u w ⟨P, hR⟩
  have hW := hR.1
  have hn := hW.2.2.2.2.1
  have e4 : u.1 (132 + 0) 4 = nI (P.1 4) := hR.2.1.1 4 (by omega)
  simp only [fX6_packBest, fX7_packBest, hR.2.2.1.n, Option.bind_some, e4]
  by_cases h5 : P.1 4 ≤ 5
  · have q5 : nI (P.1 4) ≤ 5 := by rw [show (5 : Int32) = nI 5 from rfl, nle (by omega) (by omega)]; exact h5
    obtain ⟨i1, i2, i3, i4⟩ := pkf_inv hW (bsO_Pm P) (Nat.le_refl (P.1 4))
    obtain ⟨u1, a1, a2, a3, a4, a5⟩ := packByBest_eq hW h5 hR.2.1
    obtain ⟨u2, w1, b1, b2, b3, b4⟩ := takeOver (hR.scr a5.sx (SM.refl w)) i1 (pkf_Z6 hW (bsO_Pm P) (Nat.le_refl _)) i2 a2 (a4 0 (by omega))
    obtain ⟨w2, w3, c1, c2, c3, c4, c5⟩ := m_packBest hW h5 b3
    refine ⟨fig (pkf P (bsO P) (P.1 4)) 0, u2, w3, ?_, ?_, _, b4 w3 c3 c5.mm⟩
    · rw [if_pos q5, a1, Option.bind_some, b1, Option.bind_some]
    · rw [if_pos q5, b2, Option.bind_some, c1, Option.bind_some, c2, Option.bind_some, comesTo_eq i1 c3 (v := 0) (k := 0) rfl (by omega), Option.bind_some]
  · have q5 : ¬ nI (P.1 4) ≤ 5 := by rw [show (5 : Int32) = nI 5 from rfl, nle (by omega) (by omega)]; exact h5
    rw [if_neg q5, if_neg q5]
    exact ⟨_, u, w, rfl, rfl, P, hR⟩
