def tW (w : S) (F : Nat → Nat) : S := (fun j k => if j = 2 ∧ k < 100 then nI (F k) else w.1 j k, w.2)
theorem tW_ne {w : S} {j : Nat} {F : Nat → Nat} (h : j ≠ 2) : (tW w F).1 j = w.1 j := by
  funext k
  simp only [tW]
  rw [if_neg (by omega)]
theorem tW_at {w : S} {k : Nat} {F : Nat → Nat} (h : k < 100) : (tW w F).1 2 k = nI (F k) := by
  simp only [tW]
  rw [if_pos ⟨trivial, h⟩]
theorem tW_up {w : S} {k0 v : Nat} {F : Nat → Nat} (h : k0 < 100) : up (tW w F) 2 k0 (nI v) = tW w (fun k => if k = k0 then v else F k) := by
  apply Prod.ext
  · funext j k
    simp only [up, tW]
    by_cases h1 : j = 2 ∧ k = k0
    · rw [if_pos h1, if_pos (by omega), if_pos h1.2]
    · rw [if_neg h1]
      by_cases h2 : j = 2 ∧ k < 100
      · rw [if_pos h2, if_pos h2, if_neg (by omega)]
      · rw [if_neg h2, if_neg h2]
  · rfl
theorem tW_MR {w : S} {p : Nat} {P : Bx} {F : Nat → Nat} (hn : P.1 4 ≤ 12) (h : MR w p P) : MR (tW w F) p P := MR_of hn h (fun k _ => by rw [tW_ne (by omega)])
/-- the reference keeps a cell's height at 10 x + y -/
def tpW (P : Bx) (k : Nat) : Nat := tpm P (k / 10) (k % 10)
theorem m_tops_in {w : S} {P : Bx} {i : Nat} {F : Nat → Nat} (hW : WF P) (h : MR w 0 P) (hi : i < P.1 4) (hF : ∀ k, F k ≤ 30) : ∃ z, lp (gX7_laysTops_33 (nI i)) FU (0, tW w F) = some (z, tW w (fun k => if k < 100 then max (F k) (tpf P (k / 10) (k % 10) i) else F k)) := by
  have hn := hW.2.2.2.2.1
  by_cases h5 : P.2 i 5 = 1
  · have hl := lp_for (step := gX7_laysTops_33 (nI i)) (fun m => (nI m, tW w (fun k => if k < m then max (F k) (tpf P (k / 10) (k % 10) i) else F k))) 100 (b := (nI 100, tW w (fun k => if k < 100 then max (F k) (tpf P (k / 10) (k % 10) i) else F k))) (by omega) (fun m hm => ?_) ?_
    · refine ⟨nI 100, ?_⟩
      rw [← hl]
      congr 2
    · obtain ⟨G, hG⟩ : ∃ G, G = (fun k => if k < m then max (F k) (tpf P (k / 10) (k % 10) i) else F k) := ⟨_, rfl⟩
      have hMG := tW_MR (F := G) hn h
      have wt := (hW.2.2.2.2.2.1 i hi).2.2.2.2.2.2.2.2 h5
      have w2 := hW.2.2.1
      have hfm := hF m
      have eg : G m = F m := by
        rw [hG]
        show (if _ then _ else _) = _
        rw [if_neg (by omega)]
      simp only [← hG, gX7_laysTops_33]
      rw [show (100 : Int32) = nI 100 from rfl, if_neg (by rw [nle (by omega) (by omega)]; omega), hMG.isIn1 hW rfl hi h5, Option.bind_some, if_neg (by decide), m_covers hW hMG rfl hi (show nI m / 10 = nI (m / 10) from ndiv (b := 10) (by omega) (by omega)) (show nI m % 10 = nI (m % 10) from nmod (b := 10) (by omega) (by omega)) (by omega) (by omega), Option.bind_some, m_top hn hMG rfl hi, gd_t (inb_n (by omega) (by omega)), gd_t (inb_n (by omega) (by omega)), nm_k, ncl (by omega), tW_at (by omega), eg, show nI m + 1 = nI (m + 1) from nadd m 1]
      have fin : ∀ v, v = max (F m) (tpf P (m / 10) (m % 10) i) → (some (Sum.inr (nI (m + 1), up (tW w G) 2 m (nI v))) : Option ((Int32 × S) ⊕ (Int32 × S))) = some (Sum.inr (nI (m + 1), tW w (fun k => if k < m + 1 then max (F k) (tpf P (k / 10) (k % 10) i) else F k))) := fun v hv => by
        rw [tW_up (by omega)]
        congr 3
        refine congrArg (tW w) (funext fun k => ?_)
        rw [hG]
        by_cases hk : k = m
        · subst hk
          rw [if_pos rfl, if_pos (by omega), hv]
        · rw [if_neg hk]
          by_cases h2 : k < m
          · rw [if_pos (by omega)]
            show (if _ then _ else _) = _
            rw [if_pos h2]
          · rw [if_neg (by omega)]
            show (if _ then _ else _) = _
            rw [if_neg h2]
      by_cases hc : cvr P i (m / 10) (m % 10) = true
      · have e : tpf P (m / 10) (m % 10) i = tp P i := by
          unfold tpf
          rw [if_pos (by simp [cv_cvr, h5, hc])]
        rw [if_pos hc, if_neg (by decide), Option.bind_some, gd_t (inb_n (by omega) (by omega))]
        by_cases hlt : tp P i ≤ F m
        · rw [if_pos (by rw [nle (by omega) (by omega)]; exact hlt)]
          exact fin _ (by rw [e, Nat.max_eq_left hlt])
        · rw [if_neg (by rw [nle (by omega) (by omega)]; exact hlt), Option.bind_some, gd_t (inb_n (by omega) (by omega)), nm_k]
          exact fin _ (by rw [e, Nat.max_eq_right (by omega)])
      · have e : tpf P (m / 10) (m % 10) i = 0 := by
          unfold tpf
          rw [if_neg (by simp [cv_cvr, hc])]
        rw [if_neg hc, if_pos rfl]
        exact fin _ (by rw [e, Nat.max_eq_left (by omega)])
    · simp only [gX7_laysTops_33]
      rw [if_pos (by decide)]
  · have hM := tW_MR (F := F) hn h
    refine ⟨0, ?_⟩
    have e : (fun k => if k < 100 then max (F k) (tpf P (k / 10) (k % 10) i) else F k) = F := by
      funext k
      have : tpf P (k / 10) (k % 10) i = 0 := by
        unfold tpf
        rw [if_neg (by simp [cv_cvr, h5])]
      rw [this, Nat.max_eq_left (by omega)]
      split <;> rfl
    rw [e]
    have hl := lp_for (step := gX7_laysTops_33 (nI i)) (fun _ => ((0 : Int32), tW w F)) 0 (b := (0, tW w F)) (by omega) (fun m hm => absurd hm (by omega)) ?_
    · exact hl
    · simp only [gX7_laysTops_33]
      rw [if_neg (by decide), hM.isIn0 hW rfl hi h5, Option.bind_some, if_pos rfl]
theorem laysTops_eq {w : S} {P : Bx} (hW : WF P) (h : MR w 0 P) : fX7_laysTops w = some (tW w (tpW P)) := by
  have hn := hW.2.2.2.2.1
  have hz := lp_for (step := gX7_laysTops_2) (fun m => (nI m, ((fun j k => if j = 2 ∧ k < m then 0 else w.1 j k, w.2) : S))) 100 (b := (nI 100, tW w (fun _ => 0))) (by omega) (fun m hm => ?_) ?_
  · have hl := lp_for (step := gX7_laysTops_23) (fun i => (nI i, tW w (fun k => mxf (tpf P (k / 10) (k % 10)) i))) (P.1 4) (b := (nI (P.1 4), tW w (tpW P))) (by omega) (fun i hi => ?_) ?_
    · simp only [fX7_laysTops]
      have e0 : ((fun j k => if j = 2 ∧ k < 0 then 0 else w.1 j k, w.2) : S) = w := by
        apply Prod.ext
        · funext j k
          show (if _ then _ else _) = _
          rw [if_neg (by omega)]
        · rfl
      rw [e0] at hz
      rw [show ((0 : Int32), w) = (nI 0, w) from rfl, hz, Option.bind_some]
      rw [show ((0 : Int32), tW w (fun _ => 0)) = (nI 0, tW w (fun k => mxf (tpf P (k / 10) (k % 10)) 0)) from rfl, hl, Option.bind_some]
    · have hM := tW_MR (F := fun k => mxf (tpf P (k / 10) (k % 10)) i) hn h
      obtain ⟨z, hz⟩ := m_tops_in (F := fun k => mxf (tpf P (k / 10) (k % 10)) i) hW h hi (fun k => mxt_le hW (by omega))
      simp only [gX7_laysTops_23, hM.n, Option.bind_some]
      rw [if_neg (by rw [nle (by omega) (by omega)]; omega), hz, Option.bind_some, show nI i + 1 = nI (i + 1) from nadd i 1]
      refine congrArg (fun v : S => some (Sum.inr (nI (i + 1), v))) ?_
      apply Prod.ext
      · funext j k
        simp only [tW]
        by_cases h2 : j = 2 ∧ k < 100
        · rw [if_pos h2, if_pos h2, if_pos h2.2]
          rfl
        · rw [if_neg h2, if_neg h2]
      · rfl
    · have hM := tW_MR (F := fun k => mxf (tpf P (k / 10) (k % 10)) (P.1 4)) hn h
      simp only [gX7_laysTops_23, hM.n, Option.bind_some]
      rw [if_pos (by rw [nle (by omega) (by omega)]; omega)]
      rfl
  · simp only [gX7_laysTops_2]
    rw [show (100 : Int32) = nI 100 from rfl, if_neg (by rw [nle (by omega) (by omega)]; omega), gd_t (inb_n (by omega) (by omega)), nm_k, ncl (by omega), show nI m + 1 = nI (m + 1) from nadd m 1]
    congr 3
    apply Prod.ext
    · funext j k
      simp only [up]
      by_cases h1 : j = 2 ∧ k = m
      · rw [if_pos h1, if_pos (by omega)]
      · rw [if_neg h1]
        by_cases h2 : j = 2 ∧ k < m
        · rw [if_pos h2, if_pos (by omega)]
        · rw [if_neg h2, if_neg (by omega)]
    · rfl
  · simp only [gX7_laysTops_2]
    rw [if_pos (by decide)]
    rfl
def ms (w : S) (p : Nat × Nat) : S := (fun j k => if j = 0 ∧ k = 3 then nI p.1 else if j = 0 ∧ k = 4 then nI p.2 else w.1 j k, w.2)
theorem ms_ne {w : S} {j : Nat} {p : Nat × Nat} (h : j ≠ 0) : (ms w p).1 j = w.1 j := by
  funext k
  simp only [ms]
  rw [if_neg (by omega), if_neg (by omega)]
theorem ms_3 {w : S} {p : Nat × Nat} : (ms w p).1 0 3 = nI p.1 := by simp [ms]
theorem ms_4 {w : S} {p : Nat × Nat} : (ms w p).1 0 4 = nI p.2 := by simp [ms]
theorem ms_k {w : S} {k : Nat} {p : Nat × Nat} (h1 : k ≠ 3) (h2 : k ≠ 4) : (ms w p).1 0 k = w.1 0 k := by simp [ms, h1, h2]
theorem ms_up4 {w : S} {c : Nat} {p : Nat × Nat} : up (ms w p) 0 4 (nI c) = ms w (p.1, c) := by
  apply Prod.ext
  · funext j k
    simp only [up, ms]
    by_cases h1 : j = 0 ∧ k = 4
    · rw [if_pos h1, if_neg (by omega), if_pos h1]
    · rw [if_neg h1, if_neg h1]
      by_cases h2 : j = 0 ∧ k = 3
      · rw [if_pos h2, if_pos h2]
      · rw [if_neg h2, if_neg h2, if_neg h1]
  · rfl
theorem ms_up3 {w : S} {c : Nat} {p : Nat × Nat} : up (ms w p) 0 3 (nI c) = ms w (c, p.2) := by
  apply Prod.ext
  · funext j k
    simp only [up, ms]
    by_cases h2 : j = 0 ∧ k = 3
    · rw [if_pos h2, if_pos h2]
    · rw [if_neg h2, if_neg h2, if_neg h2]
  · rfl
theorem ms_0 {w : S} : up (up w 0 3 0) 0 4 0 = ms w (0, 0) := by
  apply Prod.ext
  · funext j k
    simp only [up, ms]
    by_cases h1 : j = 0 ∧ k = 4
    · rw [if_pos h1, if_neg (by omega), if_pos h1]
      rfl
    · rw [if_neg h1]
      by_cases h2 : j = 0 ∧ k = 3
      · rw [if_pos h2, if_pos h2]
        rfl
      · rw [if_neg h2, if_neg h2, if_neg h1]
  · rfl
theorem ms_MR {w : S} {p : Nat} {P : Bx} {q : Nat × Nat} (hn : P.1 4 ≤ 12) (h : MR w p P) : MR (ms w q) p P := MR_of hn h (fun k _ => by rw [ms_ne (by omega)])
theorem looks_in {w : S} {t x y tw : Nat} {P : Bx} (hW : WF P) (hM : MR w 0 P) (ht : t < P.1 4) (htw : tw ≤ 1) (hT : ∀ k, k < 100 → w.1 2 k = nI (tpW P k)) (hx : x < 10) (hy : y + ayt P t tw ≤ 10) (p : Nat × Nat) (hp : p.1 ≤ 30) :
    lp (gX7_looksAt_31 (nI t) (nI y) (nI tw) (nI x)) FU (nI y, ms w p) = some (nI (y + ayt P t tw), ms w (fsr p (fun j => tpm P x (y + j)) (ayt P t tw))) := by
  have hn := hW.2.2.2.2.1
  refine lp_for (step := gX7_looksAt_31 (nI t) (nI y) (nI tw) (nI x)) (fun m => (nI (y + m), ms w (fsr p (fun j => tpm P x (y + j)) m))) (ayt P t tw) (by omega) (fun m hm => ?_) ?_
  · obtain ⟨q, hq⟩ : ∃ q, q = fsr p (fun j => tpm P x (y + j)) m := ⟨_, rfl⟩
    have hq30 : q.1 ≤ 30 := by rw [hq]; exact fsr_le hp (fun i => tpm_le hW)
    have ei : (10 * nI x) + nI (y + m) = nI (10 * x + (y + m)) := by rw [show (10 : Int32) = nI 10 from rfl, nmul, nadd]
    have et : (ms w q).1 2 (10 * x + (y + m)) = nI (tpm P x (y + m)) := by
      rw [ms_ne (by omega), hT _ (by omega)]
      unfold tpW
      rw [show (10 * x + (y + m)) % 10 = y + m by omega, show (10 * x + (y + m)) / 10 = x by omega]
    have htm : tpm P x (y + m) ≤ 30 := tpm_le hW
    have es : fsr p (fun j => tpm P x (y + j)) (m + 1) = stp q (tpm P x (y + m)) := by rw [hq]; rfl
    simp only [← hq, gX7_looksAt_31, ei, (m_along2 hn (ms_MR (q := q) hn hM) (v := nI t) rfl ht htw).2, Option.bind_some, nadd y]
    rw [if_neg (by rw [nle (by omega) (by omega)]; omega), gd_t (inb_n (by omega) (by omega)), ncl (by omega), et, show nI (y + m) + 1 = nI (y + (m + 1)) from nadd _ 1, es]
    unfold stp
    by_cases h1 : tpm P x (y + m) ≤ q.1
    · simp only [ms_3, ms_4, nm_k, ms_up4, ms_up3]
      rw [if_pos (by rw [nle (by omega) (by omega)]; omega), if_pos (by rw [nle (by omega) (by omega)]; omega), if_pos h1]
      by_cases h2 : tpm P x (y + m) = q.1
      · rw [if_pos (by rw [h2]), if_pos h2, show nI q.2 + 1 = nI (q.2 + 1) from nadd _ 1, ms_up4]
      · rw [if_neg (by rw [neq (by omega) (by omega)]; exact h2), if_neg h2, show nI q.2 + 0 = nI (q.2 + 0) from nadd _ 0, ms_up4]
        rfl
    · rw [ms_3, if_neg (by rw [nle (by omega) (by omega)]; omega), nm_k, show (0 : Int32) = nI 0 from rfl, ms_up4, ms_3, if_neg (by rw [nle (by omega) (by omega)]; omega), nm_k, ms_up3, ms_3, if_pos rfl, nm_k, ms_4, show nI 0 + 1 = nI (0 + 1) from nadd _ 1, ms_up4, if_neg h1]
  · obtain ⟨q, hq⟩ : ∃ q, q = fsr p (fun j => tpm P x (y + j)) (ayt P t tw) := ⟨_, rfl⟩
    simp only [← hq, gX7_looksAt_31, (m_along2 hn (ms_MR (q := q) hn hM) (v := nI t) rfl ht htw).2, Option.bind_some, nadd y]
    rw [if_pos (by rw [nle (by omega) (by omega)]; omega)]
theorem looksAt_eq {w : S} {t x y tw : Nat} {P : Bx} (hW : WF P) (hM : MR w 0 P) (ht : t < P.1 4) (htw : tw ≤ 1) (hT : ∀ k, k < 100 → w.1 2 k = nI (tpW P k)) (hx : x + axt P t tw ≤ 10) (hy : y + ayt P t tw ≤ 10) :
    fX7_looksAt (nI t) (nI x) (nI y) (nI tw) w = some (ms w (flr P t x y tw)) := by
  have hn := hW.2.2.2.2.1
  have hl := lp_for (step := gX7_looksAt_13 (nI t) (nI x) (nI y) (nI tw)) (fun m => (nI (x + m), ms w (fs2 (fun i j => tpm P (x + i) (y + j)) (ayt P t tw) m))) (axt P t tw) (b := (nI (x + axt P t tw), ms w (fs2 (fun i j => tpm P (x + i) (y + j)) (ayt P t tw) (axt P t tw)))) (by omega) (fun m hm => ?_) ?_
  · simp only [fX7_looksAt, nm_k, ms_0]
    rw [show (nI x, ms w (0, 0)) = (nI (x + 0), ms w (fs2 (fun i j => tpm P (x + i) (y + j)) (ayt P t tw) 0)) from rfl, hl, Option.bind_some]
    unfold flr
    rw [fs2_swap (fun i j => tpm P (x + i) (y + j))]
  · simp only [gX7_looksAt_13, (m_along2 hn (ms_MR (q := fs2 (fun i j => tpm P (x + i) (y + j)) (ayt P t tw) m) hn hM) (v := nI t) rfl ht htw).1, Option.bind_some, nadd x]
    rw [if_neg (by rw [nle (by omega) (by omega)]; omega), looks_in hW hM ht htw hT (by omega) hy _ (fs2_le (fun j i => tpm_le hW)).1, Option.bind_some, show nI (x + m) + 1 = nI (x + (m + 1)) from nadd _ 1]
    rfl
  · simp only [gX7_looksAt_13, (m_along2 hn (ms_MR (q := fs2 (fun i j => tpm P (x + i) (y + j)) (ayt P t tw) (axt P t tw)) hn hM) (v := nI t) rfl ht htw).1, Option.bind_some, nadd x]
    rw [if_pos (by rw [nle (by omega) (by omega)]; omega)]
/-- whether tray t, lying there inside the box, stands firmly -/
def cok (P : Bx) (t x y w : Nat) : Bool := decide ((flr P t x y w).1 + tl P t ≤ P.1 2) && decide (P.1 3 * (P.2 t 0 * P.2 t 1) ≤ 100 * (flr P t x y w).2)
theorem can_eq {w : S} {t x y tw : Nat} {P : Bx} (hW : WF P) (hM : MR w 0 P) (ht : t < P.1 4) (htw : tw ≤ 1) (hT : ∀ k, k < 100 → w.1 2 k = nI (tpW P k)) (hx : x + axt P t tw ≤ 10) (hy : y + ayt P t tw ≤ 10) :
    fX7_can (nI t) (nI x) (nI y) (nI tw) w = some (b01 (cok P t x y tw), ms w (flr P t x y tw)) := by
  have hn := hW.2.2.2.2.1
  have w2 := hW.2.2.1
  have w3 := hW.2.2.2.1
  have wt := hW.2.2.2.2.2.1 t ht
  have hMs := ms_MR (q := flr P t x y tw) hn hM
  have hf := flr_le hW ht (x := x) (y := y) (w := tw)
  have har := area_le hW ht
  have hm : P.1 3 * (P.2 t 0 * P.2 t 1) ≤ 100 * 100 := Nat.mul_le_mul w3 har.2
  have htl : tl P t ≤ 10 := by
    unfold WT at wt
    unfold tl
    omega
  simp only [fX7_can, looksAt_eq hW hM ht htw hT hx hy, Option.bind_some, m_high hn hMs (v := nI t) rfl ht, hMs.of hn (v1 := nI t) rfl (show (0 : Int32) = nI 0 from rfl) ht (show 0 < 10 by omega), hMs.of hn (v1 := nI t) rfl (show (1 : Int32) = nI 1 from rfl) ht (show 1 < 10 by omega), ms_3, ms_4]
  rw [gd_t (by decide), gd_t (by decide), show (2 : Int32).toNatClampNeg = 2 from rfl, show (3 : Int32).toNatClampNeg = 3 from rfl, hMs.at (show 2 < 5 by omega), hMs.at (show 3 < 5 by omega), nadd, show (100 : Int32) = nI 100 from rfl, nmul, nmul, nmul, Nat.mul_assoc (P.1 3)]
  by_cases h1 : (flr P t x y tw).1 + tl P t ≤ P.1 2
  · rw [if_neg (by rw [nlt (by omega) (by omega)]; omega)]
    by_cases h2 : P.1 3 * (P.2 t 0 * P.2 t 1) ≤ 100 * (flr P t x y tw).2
    · rw [if_neg (by rw [nlt (by omega) (by omega)]; omega)]
      simp [cok, h1, h2, b01]
    · rw [if_pos (by rw [nlt (by omega) (by omega)]; omega)]
      simp [cok, h2, b01]
  · rw [if_pos (by rw [nlt (by omega) (by omega)]; omega)]
    simp [cok, h1, b01]
