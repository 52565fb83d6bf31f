/-- a state whose trays come, by σ, from P's -/
theorem WF_map {P Q : Bx} (hP : WF P) (σ : Nat → Nat) (h0 : ∀ k, k ≠ 4 → Q.1 k = P.1 k) (hn : Q.1 4 ≤ 12) (h : ∀ i, i < Q.1 4 → Q.2 i = P.2 (σ i)) (hin : ∀ i, i < Q.1 4 → σ i < P.1 4) (hinj : ∀ i j, i < Q.1 4 → j < Q.1 4 → σ i = σ j → i = j) : WF Q := by
  obtain ⟨p0, p1, p2, p3, p4, p5, p6⟩ := hP
  refine ⟨by rw [h0 0 (by omega)]; exact p0, by rw [h0 1 (by omega)]; exact p1, by rw [h0 2 (by omega)]; exact p2, by rw [h0 3 (by omega)]; exact p3, hn, fun i hi => ?_, fun i j hi hj hij g1 g2 hm => ?_⟩
  · have h1 := p5 (σ i) (hin i hi)
    unfold WT at h1 ⊢
    simp only [ax, ay, axt, ayt, tp, tl, h i hi, h0 0 (show 0 ≠ 4 by omega), h0 1 (show 1 ≠ 4 by omega), h0 2 (show 2 ≠ 4 by omega)] at h1 ⊢
    exact h1
  · have h1 := p6 (σ i) (σ j) (hin i hi) (hin j hj) (fun q => hij (hinj i j hi hj q)) (by rw [← h i hi]; exact g1) (by rw [← h j hj]; exact g2)
    simp only [mt, ax, ay, axt, ayt, tp, tl, h i hi, h j hj] at hm h1 ⊢
    exact h1 hm
def adP (P : Bx) (a b c d : Nat) : Bx := (fun k => if k = 4 then P.1 4 + 1 else P.1 k, fun i k => if i = P.1 4 then (if k = 0 then a else if k = 1 then b else if k = 2 then c else if k = 3 then d else 0) else P.2 i k)
theorem adP_rs {P : Bx} {a b c d i : Nat} (hi : i < P.1 4) (h5 : P.2 i 5 = 1) : rs P i = rs (adP P a b c d) i := by
  refine rs_map (P := adP P a b c d) (Q := P) (fun x => x) (fun x hx => ?_) (fun x hx => ?_) (fun _ _ _ _ h => h) (fun j hj g => ?_) hi h5
  · have e : (adP P a b c d).2 x = P.2 x := by
      funext k
      simp only [adP]
      rw [if_neg (by omega)]
    exact ⟨by rw [e], fun _ k _ => by rw [e]⟩
  · simp only [adP]
    simp
    omega
  · refine ⟨j, ?_, rfl⟩
    simp only [adP] at hj g
    simp at hj
    by_cases hjn : j = P.1 4
    · rw [if_pos hjn] at g
      simp at g
    · omega
theorem sim_add : Sim_add Rl := by
  intro u w a b c d ⟨P, hR⟩
  have hn := hR.1.2.2.2.2.1
  have n10 : ¬ (1 : Int32) = 0 := by decide
  rcases witn (v := a) (A := 1) (B := 10) (a := 1) (b := 10) rfl rfl (by omega) (by omega) with h | ⟨a, rfl, ha1, ha2, h⟩
  · exact ⟨-1, u, w, by simp only [fX6_add, (h u w).1, Option.bind_some]; rfl, by simp only [fX7_add, (h u w).2, Option.bind_some]; rfl, P, hR⟩
  rcases witn (v := b) (A := 1) (B := 10) (a := 1) (b := 10) rfl rfl (by omega) (by omega) with g | ⟨b, rfl, hb1, hb2, g⟩
  · exact ⟨-1, u, w, by simp only [fX6_add, (h u w).1, (g u w).1, Option.bind_some]; rfl, by simp only [fX7_add, (h u w).2, (g u w).2, Option.bind_some]; rfl, P, hR⟩
  rcases witn (v := c) (A := 1) (B := 9) (a := 1) (b := 9) rfl rfl (by omega) (by omega) with k | ⟨c, rfl, hc1, hc2, k⟩
  · exact ⟨-1, u, w, by simp only [fX6_add, (h u w).1, (g u w).1, (k u w).1, Option.bind_some]; rfl, by simp only [fX7_add, (h u w).2, (g u w).2, (k u w).2, Option.bind_some]; rfl, P, hR⟩
  rcases witn (v := d) (A := 0) (B := 9) (a := 0) (b := 9) rfl rfl (by omega) (by omega) with q | ⟨d, rfl, -, hd2, q⟩
  · exact ⟨-1, u, w, by simp only [fX6_add, (h u w).1, (g u w).1, (k u w).1, (q u w).1, Option.bind_some]; rfl, by simp only [fX7_add, (h u w).2, (g u w).2, (k u w).2, (q u w).2, Option.bind_some]; rfl, P, hR⟩
  by_cases h12 : P.1 4 = 12
  · refine ⟨-3, u, w, ?_, ?_, P, hR⟩
    · simp only [fX6_add, (h u w).1, (g u w).1, (k u w).1, (q u w).1, Option.bind_some, hR.2.1.1 4 (show 4 < 5 by omega), h12]
      rfl
    · simp only [fX7_add, (h u w).2, (g u w).2, (k u w).2, (q u w).2, Option.bind_some, hR.2.2.1.n, h12]
      rfl
  obtain ⟨u1, w1, h1, h2, hR1, k1, k2⟩ := record_sim hR
  obtain ⟨n, hnn⟩ : ∃ n, n = P.1 4 := ⟨_, rfl⟩
  have e4 : u1.1 132 4 = nI n := by rw [hnn]; exact hR1.2.1.1 4 (by omega)
  obtain ⟨v, hv⟩ : ∃ v, v = up (up (up (up (up (up (up (up u1 (12 * 0 + n) 0 (nI a)) (12 * 0 + n) 1 (nI b)) (12 * 0 + n) 2 (nI c)) (12 * 0 + n) 3 (nI d)) (12 * 0 + n) 4 0) (12 * 0 + n) 5 0) (12 * 0 + n) 6 0) (132 + 0) 4 (nI (n + 1)) := ⟨_, rfl⟩
  obtain ⟨t, ht⟩ : ∃ t, t = up (up (up (up (up (up (lvW w1 n 10) 1 (5 + 10 * n + 0) (nI a)) 1 (5 + 10 * n + 1) (nI b)) 1 (5 + 10 * n + 2) (nI c)) 1 (5 + 10 * n + 3) (nI d)) 1 (5 + 10 * n + 4) 0) 1 4 (nI (n + 1)) := ⟨_, rfl⟩
  have hv4 : v.1 132 4 = nI (n + 1) := by rw [hv]; simp [up]
  refine ⟨nI n, v, t, ?_, ?_, adP P a b c d, hR1.mod ?_ ?_ ?_ ?_ ?_ (fun i hi h0 => by
    have hz := hR1.2.2.2.2.2 i
    have hi : i < P.1 4 + 1 := hi
    simp only [adP] at h0 ⊢
    by_cases hin : i = P.1 4
    · rw [if_pos hin]
      simp
    · rw [if_neg hin] at h0 ⊢
      exact hz (by omega) h0)⟩
  · simp only [fX6_add, (h u w).1, (g u w).1, (k u w).1, (q u w).1, Option.bind_some, hR.2.1.1 4 (show 4 < 5 by omega), ← hnn, h1, show 132 + 0 = 132 from rfl, e4]
    rw [if_neg n10, if_neg n10, if_neg n10, if_neg n10, show (12 : Int32) = nI 12 from rfl, if_pos (by rw [nlt (by omega) (by omega)]; omega), gd_t (inb_n (by omega) (by omega)), ncl (by omega)]
    simp only [fX5_become, fX5_leave, nm_k, Option.bind_some]
    have e5 : (up (up (up (up (up (up (up u1 (12 * 0 + n) 0 (nI a)) (12 * 0 + n) 1 (nI b)) (12 * 0 + n) 2 (nI c)) (12 * 0 + n) 3 (nI d)) (12 * 0 + n) 4 0) (12 * 0 + n) 5 0) (12 * 0 + n) 6 0).1 132 4 = nI n := by
      rw [up_ne _ _ _ _ (by omega), up_ne _ _ _ _ (by omega), up_ne _ _ _ _ (by omega), up_ne _ _ _ _ (by omega), up_ne _ _ _ _ (by omega), up_ne _ _ _ _ (by omega), up_ne _ _ _ _ (by omega)]
      exact e4
    rw [e5, show nI n + 1 = nI (n + 1) from nadd n 1]
    have hv' := hv
    rw [show 132 + 0 = 132 from rfl] at hv'
    rw [← hv', hv4, show nI (n + 1) - 1 = nI n from nsub (a := n + 1) (b := 1) (by omega)]
  · simp only [fX7_add, (h u w).2, (g u w).2, (k u w).2, (q u w).2, Option.bind_some, hR.2.2.1.n, ← hnn, h2]
    have e5 : fX7_trays w1 = some (nI n) := by rw [hnn]; exact hR1.2.2.1.n
    rw [if_neg n10, if_neg n10, if_neg n10, if_neg n10, show (12 : Int32) = nI 12 from rfl, if_neg (by rw [neq (by omega) (by omega)]; omega), e5, Option.bind_some, leaves_eq (i := n) rfl (by omega), Option.bind_some, sets_at (i := n) (k := 0) rfl (show (0 : Int32) = nI 0 from rfl) (by omega), Option.bind_some, sets_at (i := n) (k := 1) rfl (show (1 : Int32) = nI 1 from rfl) (by omega), Option.bind_some, sets_at (i := n) (k := 2) rfl (show (2 : Int32) = nI 2 from rfl) (by omega), Option.bind_some, sets_at (i := n) (k := 3) rfl (show (3 : Int32) = nI 3 from rfl) (by omega), Option.bind_some, sets_at (i := n) (k := 4) rfl (show (4 : Int32) = nI 4 from rfl) (by omega), Option.bind_some, gd_t (by decide), gd_t (by decide), show (4 : Int32).toNatClampNeg = 4 from rfl]
    have e6 : (up (up (up (up (up (lvW w1 n 10) 1 (5 + 10 * n + 0) (nI a)) 1 (5 + 10 * n + 1) (nI b)) 1 (5 + 10 * n + 2) (nI c)) 1 (5 + 10 * n + 3) (nI d)) 1 (5 + 10 * n + 4) 0).1 1 4 = nI n := by
      rw [up_at, if_neg (by omega), up_at, if_neg (by omega), up_at, if_neg (by omega), up_at, if_neg (by omega), up_at, if_neg (by omega)]
      show (if 1 = 1 ∧ 5 + 10 * n + 5 ≤ 4 ∧ 4 < 5 + 10 * n + 10 then 0 else w1.1 1 4) = nI n
      rw [if_neg (by omega), hR1.2.2.1.at (by omega), hnn]
    rw [e6, show nI n + 1 = nI (n + 1) from nadd n 1, nm_k, ← ht]
  · obtain ⟨p0, p1, p2, p3, p4, p5, p6⟩ := hR.1
    refine ⟨p0, p1, p2, p3, by simp [adP]; omega, fun i hi => ?_, fun i j hi hj hij g1 g2 hm => ?_⟩
    · by_cases hin : i = P.1 4
      · subst hin
        unfold WT
        simp [adP, ax, ay, axt, ayt, tp, tl]
        omega
      · have hi2 : i < P.1 4 := by
          simp [adP] at hi
          omega
        have h3 := p5 i hi2
        unfold WT at h3 ⊢
        simp [adP, ax, ay, axt, ayt, tp, tl, hin] at h3 ⊢
        exact h3
    · by_cases hin : i = P.1 4
      · simp [adP, hin] at g1
      · by_cases hjn : j = P.1 4
        · simp [adP, hjn] at g2
        · have hi2 : i < P.1 4 := by simp [adP] at hi; omega
          have hj2 : j < P.1 4 := by simp [adP] at hj; omega
          have ei : (adP P a b c d).2 i = P.2 i := by
            funext k
            simp only [adP]
            rw [if_neg hin]
          have ej : (adP P a b c d).2 j = P.2 j := by
            funext k
            simp only [adP]
            rw [if_neg hjn]
          have h3 := p6 i j hi2 hj2 hij (by rw [← ei]; exact g1) (by rw [← ej]; exact g2)
          simp only [mt, ax, ay, axt, ayt, tp, tl, ei, ej] at hm h3 ⊢
          exact h3 hm
  · refine ⟨fun k hk => ?_, fun i hi => ?_⟩
    · by_cases h4 : k = 4
      · subst h4
        simp [adP, hv4, hnn]
      · have e5 := hR1.2.1.1 k hk
        simp only [adP]
        rw [if_neg h4, hv, up_at, if_neg (by omega), up_ne _ _ _ _ (by omega), up_ne _ _ _ _ (by omega), up_ne _ _ _ _ (by omega), up_ne _ _ _ _ (by omega), up_ne _ _ _ _ (by omega), up_ne _ _ _ _ (by omega), up_ne _ _ _ _ (by omega)]
        exact e5
    · by_cases hin : i = n
      · subst hin
        refine ⟨fun k hk => ?_, fun g5 => ?_⟩
        · rw [hv, up_ne _ _ _ _ (by omega)]
          simp only [adP, ← hnn]
          rcases (show k = 0 ∨ k = 1 ∨ k = 2 ∨ k = 3 ∨ k = 4 ∨ k = 5 ∨ k = 6 by omega) with rfl | rfl | rfl | rfl | rfl | rfl | rfl <;> simp [up] <;> rfl
        · simp [adP, ← hnn] at g5
      · have hi2 : i < P.1 4 := by
          simp [adP] at hi
          omega
        have h3 := hR1.2.1.2 i hi2
        have e5 : v.1 (12 * 0 + i) = u1.1 (12 * 0 + i) := by
          rw [hv, up_ne _ _ _ _ (by omega), up_ne _ _ _ _ (by omega), up_ne _ _ _ _ (by omega), up_ne _ _ _ _ (by omega), up_ne _ _ _ _ (by omega), up_ne _ _ _ _ (by omega), up_ne _ _ _ _ (by omega), up_ne _ _ _ _ (by omega)]
        have e6 : ∀ k, (adP P a b c d).2 i k = P.2 i k := fun k => by
          simp only [adP]
          rw [if_neg (by omega)]
        have h4 : CT v 0 P i := by
          unfold CT at h3 ⊢
          rw [e5]
          exact h3
        exact CT_up h4 (fun g5 => (adP_rs hi2 (by rw [← e6]; exact g5)).symm) (e6 5) e6
  · refine ⟨fun k hk => ?_, fun i k hi hk => ?_⟩
    · rw [show 125 * 0 + k = k by omega]
      by_cases h4 : k = 4
      · subst h4
        rw [ht]
        simp [adP, up, hnn]
      · have e5 := hR1.2.2.1.at hk
        rw [ht, up_at, if_neg (by omega), up_at, if_neg (by omega), up_at, if_neg (by omega), up_at, if_neg (by omega), up_at, if_neg (by omega), up_at, if_neg (by omega)]
        show (if 1 = 1 ∧ 5 + 10 * n + 5 ≤ k ∧ k < 5 + 10 * n + 10 then 0 else w1.1 1 k) = _
        rw [if_neg (by omega), e5]
        simp [adP, h4]
    · rw [show 125 * 0 + (5 + 10 * i + k) = 5 + 10 * i + k by omega]
      have hi2 : i < P.1 4 + 1 := by simpa [adP] using hi
      have hlv : (lvW w1 n 10).1 1 (5 + 10 * i + k) = if 1 = 1 ∧ 5 + 10 * n + 5 ≤ 5 + 10 * i + k ∧ 5 + 10 * i + k < 5 + 10 * n + 10 then 0 else w1.1 1 (5 + 10 * i + k) := rfl
      by_cases hin : i = n
      · subst hin
        simp only [adP, ← hnn]
        rw [ht]
        rcases (show k = 0 ∨ k = 1 ∨ k = 2 ∨ k = 3 ∨ k = 4 ∨ 5 ≤ k by omega) with rfl | rfl | rfl | rfl | rfl | h5
        · rw [up_at, if_neg (by omega), up_at, if_neg (by omega), up_at, if_neg (by omega), up_at, if_neg (by omega), up_at, if_neg (by omega), up_at, if_pos (by omega)]
          simp
        · rw [up_at, if_neg (by omega), up_at, if_neg (by omega), up_at, if_neg (by omega), up_at, if_neg (by omega), up_at, if_pos (by omega)]
          simp
        · rw [up_at, if_neg (by omega), up_at, if_neg (by omega), up_at, if_neg (by omega), up_at, if_pos (by omega)]
          simp
        · rw [up_at, if_neg (by omega), up_at, if_neg (by omega), up_at, if_pos (by omega)]
          simp
        · rw [up_at, if_neg (by omega), up_at, if_pos (by omega)]
          simp
          rfl
        · rw [up_at, if_neg (by omega), up_at, if_neg (by omega), up_at, if_neg (by omega), up_at, if_neg (by omega), up_at, if_neg (by omega), up_at, if_neg (by omega), hlv, if_pos (by omega)]
          rw [if_pos trivial, if_neg (by omega), if_neg (by omega), if_neg (by omega), if_neg (by omega)]
          rfl
      · have e5 := hR1.2.2.1.2 i k (by omega) hk
        rw [show 125 * 0 + (5 + 10 * i + k) = 5 + 10 * i + k by omega] at e5
        rw [ht, up_at, if_neg (by omega), up_at, if_neg (by omega), up_at, if_neg (by omega), up_at, if_neg (by omega), up_at, if_neg (by omega), up_at, if_neg (by omega), hlv, if_neg (by omega), e5]
        simp only [adP]
        rw [if_neg (by omega)]
  · refine ⟨fun j g1 _ _ => ?_, ?_, ?_⟩
    · unfold inB at g1
      rw [hv, up_ne _ _ _ _ (by omega), up_ne _ _ _ _ (by omega), up_ne _ _ _ _ (by omega), up_ne _ _ _ _ (by omega), up_ne _ _ _ _ (by omega), up_ne _ _ _ _ (by omega), up_ne _ _ _ _ (by omega), up_ne _ _ _ _ (by omega)]
    · rw [hv, up_ne _ _ _ _ (by omega), up_ne _ _ _ _ (by omega), up_ne _ _ _ _ (by omega), up_ne _ _ _ _ (by omega), up_ne _ _ _ _ (by omega), up_ne _ _ _ _ (by omega), up_ne _ _ _ _ (by omega), up_ne _ _ _ _ (by omega)]
    · rw [hv, up_ne _ _ _ _ (by omega), up_ne _ _ _ _ (by omega), up_ne _ _ _ _ (by omega), up_ne _ _ _ _ (by omega), up_ne _ _ _ _ (by omega), up_ne _ _ _ _ (by omega), up_ne _ _ _ _ (by omega), up_ne _ _ _ _ (by omega)]
  · have ho : ∀ j, j ≠ 1 → t.1 j = w1.1 j := fun j hj => by
      rw [ht, up_ne _ _ _ _ hj, up_ne _ _ _ _ hj, up_ne _ _ _ _ hj, up_ne _ _ _ _ hj, up_ne _ _ _ _ hj, up_ne _ _ _ _ hj]
      funext k
      simp only [lvW]
      rw [if_neg (by omega)]
    refine ⟨fun k g1 _ => ?_, ho 3 (by omega), by rw [ho 0 (by omega)], by rw [ho 0 (by omega)], by rw [ho 0 (by omega)]⟩
    rw [ht, up_at, if_neg (by omega), up_at, if_neg (by omega), up_at, if_neg (by omega), up_at, if_neg (by omega), up_at, if_neg (by omega), up_at, if_neg (by omega)]
    show (if 1 = 1 ∧ 5 + 10 * n + 5 ≤ k ∧ k < 5 + 10 * n + 10 then 0 else w1.1 1 k) = _
    rw [if_neg (by omega)]
/-- drop -/
def drS (t i : Nat) : Nat := if i < t then i else i + 1
def drP (P : Bx) (t : Nat) : Bx := (fun k => if k = 4 then P.1 4 - 1 else P.1 k, fun i => P.2 (drS t i))
def rmS (u : S) (t m : Nat) : S := (fun j k => if (t ≤ j ∧ j < t + m) ∧ k < 14 then u.1 (j + 1) k else u.1 j k, u.2)
theorem remove_eq {u : S} {P : Bx} {t : Nat} (hW : WF P) (h : CR u 0 P) (ht : t < P.1 4) : fX0_remove 0 (nI t) u = some (up (rmS u t (P.1 4 - 1 - t)) 132 4 (nI (P.1 4 - 1))) := by
  have hn := hW.2.2.2.2.1
  have e4 : ∀ m, m ≤ 12 → (rmS u t m).1 132 4 = nI (P.1 4) := fun m hm => by
    simp only [rmS]
    rw [if_neg (by omega)]
    exact h.1 4 (by omega)
  have h0 : rmS u t 0 = u := by
    apply Prod.ext
    · funext j k
      simp only [rmS]
      rw [if_neg (by omega)]
    · rfl
  have hl := lp_for (step := gX0_remove_2 0) (fun m => (nI (t + m), rmS u t m)) (P.1 4 - 1 - t) (b := (nI (P.1 4 - 1), rmS u t (P.1 4 - 1 - t))) (by omega) (fun m hm => ?_) ?_
  · simp only [fX0_remove]
    rw [show (nI t, u) = (nI (t + 0), rmS u t 0) by rw [h0]; rfl, hl]
    simp only [Option.bind_some, nm_k, show 132 + 0 = 132 from rfl]
    rw [e4 _ (by omega), show nI (P.1 4) - 1 = nI (P.1 4 - 1) from nsub (a := P.1 4) (b := 1) (by omega)]
  · simp only [gX0_remove_2, show 132 + 0 = 132 from rfl, e4 m (by omega)]
    have hi := h.isb hW (i := t + m + 1) (by omega)
    rw [show 12 * 0 + (t + m + 1) = t + m + 1 by omega] at hi
    have ej : ∀ k, (rmS u t m).1 (t + m + 1) k = u.1 (t + m + 1) k := fun k => by
      simp only [rmS]
      rw [if_neg (by omega)]
    rw [show nI (P.1 4) - 1 = nI (P.1 4 - 1) from nsub (a := P.1 4) (b := 1) (by omega), if_neg (by rw [nle (by omega) (by omega)]; omega), show nI (t + m) + 1 = nI (t + m + 1) from nadd (t + m) 1, gd_t (inb_n (by omega) (by omega)), gd_t (inb_n (by omega) (by omega)), ncl (by omega), ncl (by omega), show 12 * 0 + (t + m) = t + m by omega, show 12 * 0 + (t + m + 1) = t + m + 1 by omega, copyT (by omega) (by rw [ej]; exact hi.1) (by rw [ej]; exact hi.2)]
    show some (Sum.inr (nI (t + m + 1), cpT (rmS u t m) (t + m) (t + m + 1))) = _
    congr 3
    apply Prod.ext
    · funext j k
      simp only [cpT, ej]
      simp only [rmS]
      by_cases h1 : j = t + m ∧ k < 14
      · rw [if_pos h1, if_pos (by omega), h1.1]
      · rw [if_neg h1]
        by_cases h2 : (t ≤ j ∧ j < t + m) ∧ k < 14
        · rw [if_pos h2, if_pos (by omega)]
        · rw [if_neg h2, if_neg (by omega)]
    · rfl
  · simp only [gX0_remove_2, show 132 + 0 = 132 from rfl, e4 _ (show P.1 4 - 1 - t ≤ 12 by omega)]
    rw [show nI (P.1 4) - 1 = nI (P.1 4 - 1) from nsub (a := P.1 4) (b := 1) (by omega), show t + (P.1 4 - 1 - t) = P.1 4 - 1 by omega, if_pos (by rw [nle (by omega) (by omega)]; omega)]
def rmW (w : S) (t m : Nat) : S := (fun j k => if j = 1 ∧ 5 + 10 * t ≤ k ∧ k < 5 + 10 * t + m then w.1 1 (k + 10) else w.1 j k, w.2)
theorem rmW_eq {w : S} {t n : Nat} (ht : t ≤ n) (hn : n ≤ 12) (h : w.1 1 4 = nI n) : lp gX7_drop_42 FU (5 + 10 * nI t, w) = some (nI (5 + 10 * n), rmW w t (10 * (n - t))) := by
  have e4 : ∀ m, fX7_trays (rmW w t m) = some (nI n) := fun m => by
    simp only [fX7_trays]
    rw [gd_t (by decide), show (4 : Int32).toNatClampNeg = 4 from rfl]
    have : (rmW w t m).1 1 4 = w.1 1 4 := by
      simp only [rmW]
      rw [if_neg (by omega)]
    rw [this, h]
  have h0 : rmW w t 0 = w := by
    apply Prod.ext
    · funext j k
      simp only [rmW]
      rw [if_neg (by omega)]
    · rfl
  have e5 : ∀ n, 5 + 10 * nI n = nI (5 + 10 * n) := fun n => by rw [show (5 : Int32) = nI 5 from rfl, show (10 : Int32) = nI 10 from rfl, nmul, nadd]
  have hl := lp_for (step := gX7_drop_42) (fun m => (nI (5 + 10 * t + m), rmW w t m)) (10 * (n - t)) (b := (nI (5 + 10 * n), rmW w t (10 * (n - t)))) (by omega) (fun m hm => ?_) ?_
  · rw [e5, show (nI (5 + 10 * t), w) = (nI (5 + 10 * t + 0), rmW w t 0) by rw [h0, Nat.add_zero], hl]
  · simp only [gX7_drop_42, e4 m, Option.bind_some, e5]
    rw [if_neg (by rw [nle (by omega) (by omega)]; omega), show nI (5 + 10 * t + m) + 10 = nI (5 + 10 * t + m + 10) from nadd _ 10, gd_t (inb_n (by omega) (by omega)), gd_t (inb_n (by omega) (by omega)), ncl (by omega), ncl (by omega), nm_k, show nI (5 + 10 * t + m) + 1 = nI (5 + 10 * t + (m + 1)) from nadd _ 1]
    have e6 : (rmW w t m).1 1 (5 + 10 * t + m + 10) = w.1 1 (5 + 10 * t + m + 10) := by
      simp only [rmW]
      rw [if_neg (by omega)]
    rw [e6]
    congr 3
    apply Prod.ext
    · funext j k
      simp only [up, rmW]
      by_cases h1 : j = 1 ∧ k = 5 + 10 * t + m
      · rw [if_pos h1, if_pos (by omega), h1.2]
      · rw [if_neg h1]
        by_cases h2 : j = 1 ∧ 5 + 10 * t ≤ k ∧ k < 5 + 10 * t + m
        · rw [if_pos h2, if_pos (by omega)]
        · rw [if_neg h2, if_neg (by omega)]
    · rfl
  · simp only [gX7_drop_42, e4, Option.bind_some, e5]
    rw [show 5 + 10 * t + 10 * (n - t) = 5 + 10 * n by omega, if_pos (by rw [nle (by omega) (by omega)]; omega)]
theorem drS_in {P : Bx} {t i : Nat} (ht : t < P.1 4) (hi : i < P.1 4 - 1) : drS t i < P.1 4 := by
  unfold drS
  split <;> omega
theorem drS_inj {t i j : Nat} (h : drS t i = drS t j) : i = j := by
  unfold drS at h
  split at h <;> split at h <;> omega
theorem sim_drop : Sim_drop Rl := by
  intro u w a ⟨P, hR⟩
  have hn := hR.1.2.2.2.2.1
  have n10 : ¬ (1 : Int32) = 0 := by decide
  rcases has_tray a hn hR.2.1 hR.2.2.1 with ⟨h, g⟩ | ⟨t, rfl, ht, h, g⟩
  · exact ⟨-1, u, w, by simp only [fX6_drop, h, Option.bind_some]; rfl, by simp only [fX7_drop, g, Option.bind_some]; rfl, P, hR⟩
  have hc5 := (hR.2.1.2 t ht).1 5 (by omega)
  have h51 := hR.1.in1 t ht
  have hisin := hR.2.2.1.isIn hR.1 (v := nI t) rfl ht
  rcases (show P.2 t 5 = 0 ∨ P.2 t 5 = 1 by omega) with h0 | h0
  · obtain ⟨u1, w1, h1, h2, hR1, k1, k2⟩ := record_sim hR
    have hrm := remove_eq hR1.1 hR1.2.1 ht
    obtain ⟨n, hnn⟩ : ∃ n, n = P.1 4 - 1 := ⟨_, rfl⟩
    obtain ⟨x, hx⟩ : ∃ x, x = up w1 1 4 (nI n) := ⟨_, rfl⟩
    have hx4 : x.1 1 4 = nI n := by rw [hx]; simp [up]
    have hlw := rmW_eq (w := x) (t := t) (n := n) (by omega) (by omega) hx4
    have hQ4 : (drP P t).1 4 = n := by simp [drP, hnn]
    have hdi : ∀ i, i < n → drS t i < P.1 4 := fun i hi => drS_in ht (by omega)
    have hd1 : ∀ i, drS t i = i ∨ (t ≤ i ∧ drS t i = i + 1) := fun i => by unfold drS; split <;> omega
    refine ⟨nI n, up (rmS u1 t (n - t)) 132 4 (nI n), rmW x t (10 * (n - t)), ?_, ?_, drP P t, hR1.mod ?_ ?_ ?_ ?_ ?_ (fun i hi h0 => hR1.2.2.2.2.2 (drS t i) (drS_in ht hi) h0)⟩
    · simp only [fX6_drop, h, Option.bind_some, ncl (show t < 2147483648 by omega), hc5, h0, h1, hrm, ← hnn]
      rw [if_neg n10, gd_t (inb_n (by omega) (by omega)), if_pos nI_0]
      simp [up]
    · simp only [fX7_drop, g, Option.bind_some, hisin, h0, h2]
      have e3 : w1.1 1 4 = nI (P.1 4) := hR1.2.2.1.at (by omega)
      rw [if_neg n10, if_pos (by decide), gd_t (by decide), gd_t (by decide), show (4 : Int32).toNatClampNeg = 4 from rfl, e3, nm_k, show nI (P.1 4) - 1 = nI n from by rw [hnn]; exact nsub (a := P.1 4) (b := 1) (by omega), ← hx, hlw]
      simp only [Option.bind_some]
      have e4 : fX7_trays (rmW x t (10 * (n - t))) = some (nI n) := by
        simp only [fX7_trays]
        rw [gd_t (by decide), show (4 : Int32).toNatClampNeg = 4 from rfl]
        have : (rmW x t (10 * (n - t))).1 1 4 = x.1 1 4 := by
          simp only [rmW]
          rw [if_neg (by omega)]
        rw [this, hx4]
      rw [e4]
      rfl
    · exact WF_map hR.1 (drS t) (fun k hk => by simp [drP, hk]) (by rw [hQ4]; omega) (fun i _ => rfl) (fun i hi => hdi i (by omega)) (fun i j _ _ => drS_inj)
    · refine ⟨fun k hk => ?_, fun i hi => ?_⟩
      · by_cases h4 : k = 4
        · subst h4
          simp [up, drP, hnn]
        · rw [up_at, if_neg (by omega)]
          show (if (t ≤ 132 + 0 ∧ 132 + 0 < t + (n - t)) ∧ k < 14 then _ else u1.1 (132 + 0) k) = _
          rw [if_neg (by omega), hR1.2.1.1 k hk]
          simp [drP, h4]
      · rw [hQ4] at hi
        have h3 := hR1.2.1.2 (drS t i) (hdi i hi)
        have e5 : ∀ k, k < 14 → (up (rmS u1 t (n - t)) 132 4 (nI n)).1 (12 * 0 + i) k = u1.1 (12 * 0 + drS t i) k := fun k hk => by
          rw [up_ne _ _ _ _ (by omega)]
          simp only [rmS]
          rcases hd1 i with h5 | ⟨h5, h6⟩
          · have : i < t := by
              unfold drS at h5
              split at h5 <;> omega
            rw [h5, if_neg (by omega)]
          · rw [h6, if_pos (by omega), show 12 * 0 + i + 1 = 12 * 0 + (i + 1) by omega]
        have hrs : (drP P t).2 i 5 = 1 → rs (drP P t) i = rs P (drS t i) := fun g5 => rs_map (P := P) (Q := drP P t) (drS t) (fun x _ => ⟨rfl, fun _ _ _ => rfl⟩) (fun x hx => hdi x (by omega)) (fun _ _ _ _ => drS_inj) (fun j hj g6 => by
          by_cases hjt : j < t
          · exact ⟨j, by omega, by unfold drS; rw [if_pos hjt]⟩
          · have : j ≠ t := fun q => by rw [q, h0] at g6; omega
            exact ⟨j - 1, by omega, by unfold drS; rw [if_neg (by omega)]; omega⟩) (by omega) g5
        refine ⟨fun k hk => by rw [e5 k (by omega)]; exact h3.1 k hk, fun g5 => ?_⟩
        rw [hrs g5, e5 7 (by omega), e5 8 (by omega), e5 9 (by omega), e5 10 (by omega), e5 11 (by omega), e5 12 (by omega), e5 13 (by omega)]
        exact h3.2 g5
    · refine ⟨fun k hk => ?_, fun i k hi hk => ?_⟩
      · rw [show 125 * 0 + k = k by omega]
        show (if 1 = 1 ∧ 5 + 10 * t ≤ k ∧ k < 5 + 10 * t + 10 * (n - t) then _ else x.1 1 k) = _
        rw [if_neg (by omega)]
        by_cases h4 : k = 4
        · subst h4
          rw [hx4]
          simp [drP, hnn]
        · rw [hx, up_at, if_neg (by omega), hR1.2.2.1.at hk]
          simp [drP, h4]
      · rw [hQ4] at hi
        rw [show 125 * 0 + (5 + 10 * i + k) = 5 + 10 * i + k by omega]
        have h3 := hR1.2.2.1.2 (drS t i) k (hdi i hi) hk
        rw [show 125 * 0 + (5 + 10 * drS t i + k) = 5 + 10 * drS t i + k by omega] at h3
        show (if 1 = 1 ∧ 5 + 10 * t ≤ 5 + 10 * i + k ∧ 5 + 10 * i + k < 5 + 10 * t + 10 * (n - t) then x.1 1 (5 + 10 * i + k + 10) else x.1 1 (5 + 10 * i + k)) = nI (P.2 (drS t i) k)
        rw [← h3]
        have hxo : ∀ z, z ≠ 4 → x.1 1 z = w1.1 1 z := fun z hz => by rw [hx, up_at, if_neg (by omega)]
        rcases hd1 i with h5 | ⟨h5, h6⟩
        · have : i < t := by
            unfold drS at h5
            split at h5 <;> omega
          rw [h5, if_neg (by omega), hxo _ (by omega)]
        · rw [h6, if_pos (by omega), hxo _ (by omega)]
          exact congrArg _ (by omega)
    · have ho : ∀ j, 132 ≠ j → ¬ j < 12 → (up (rmS u1 t (n - t)) 132 4 (nI n)).1 j = u1.1 j := fun j h1 h2 => by
        rw [up_ne _ _ _ _ (by omega)]
        funext k
        simp only [rmS]
        rw [if_neg (by omega)]
      exact ⟨fun j g1 _ _ => by unfold inB at g1; exact ho j (by omega) (by omega), by rw [ho 160 (by omega) (by omega)], by rw [ho 160 (by omega) (by omega)]⟩
    · have ho : ∀ j, j ≠ 1 → (rmW x t (10 * (n - t))).1 j = w1.1 j := fun j hj => by
        funext k
        simp only [rmW]
        rw [if_neg (by omega), hx, up_ne _ _ _ _ hj]
      refine ⟨fun k g1 _ => ?_, ho 3 (by omega), by rw [ho 0 (by omega)], by rw [ho 0 (by omega)], by rw [ho 0 (by omega)]⟩
      show (if 1 = 1 ∧ 5 + 10 * t ≤ k ∧ k < 5 + 10 * t + 10 * (n - t) then _ else x.1 1 k) = _
      rw [if_neg (by omega), hx, up_at, if_neg (by omega)]
  · refine ⟨-2, u, w, ?_, ?_, P, hR⟩
    · simp only [fX6_drop, h, Option.bind_some, ncl (show t < 2147483648 by omega), hc5, h0]
      rw [if_neg n10, gd_t (inb_n (by omega) (by omega)), if_neg (by decide)]
    · simp only [fX7_drop, g, Option.bind_some, hisin, h0]
      rw [if_neg n10, if_neg (by decide)]
