/-! a tray is got: those lifted for it fall again -/
theorem lo_iff {P : Bx} {i j : Nat} : lo P i j = true ↔ P.2 i 5 = 1 ∧ P.2 j 5 = 1 ∧ mt P i j = true ∧ tp P j ≤ P.2 i 9 := by
  simp only [lo, Bool.and_eq_true, decide_eq_true_eq, beq_iff_eq]
  exact ⟨fun h => ⟨h.1.1.1, h.1.1.2, h.1.2, h.2⟩, fun h => ⟨⟨⟨h.1, h.2.1⟩, h.2.2.1⟩, h.2.2.2⟩⟩
theorem RE_floor {P : Bx} {A : Nat → Bool} {t i : Nat} (h : RE P A t i) : P.2 i 5 = 1 ∧ tp P t ≤ P.2 i 9 := by
  refine h (fun i => P.2 i 5 = 1 ∧ tp P t ≤ P.2 i 9) (fun i _ hl _ => ?_) (fun i j _ _ hj hl _ => ?_)
  · have := lo_iff.mp hl
    exact ⟨this.1, this.2.2.2⟩
  · have := lo_iff.mp hl
    have e : tp P j = P.2 j 9 + tl P j := rfl
    exact ⟨this.1, by omega⟩
theorem ab_pc {P : Bx} {t : Nat} (hn : P.1 4 ≤ 12) : fb_ct (fun i => (ab P t).testBit i) (P.1 4) = pc (ab P t) := by
  obtain ⟨r, hr⟩ : ∃ r, 12 = P.1 4 + r := ⟨12 - P.1 4, by omega⟩
  have hz : fb_ct (fun k => (ab P t).testBit (P.1 4 + k)) r = 0 := fb_ct_zero.mpr (fun k _ => by
    rw [Bool.eq_false_iff]
    intro q
    have := RE.lt ((am_bit hn).mp q)
    omega)
  show _ = fb_ct (fun i => (ab P t).testBit i) 12
  rw [hr, fb_ct_split, hz, Nat.add_zero]
/-- Q with t out, and the first k of the lifted trays out -/
def qz (Q : Bx) (t : Nat) (l : Nat → Nat) (k : Nat) : Bx := (Q.1, fun a j => if a = t ∧ 5 ≤ j then 0 else if j = 5 ∧ anyb k (fun i => l i == a) = true then 0 else Q.2 a j)
def GI (Q : Bx) (t c : Nat) (l : Nat → Nat) (k : Nat) (R : Bx) : Prop :=
  WF R ∧ R.1 = Q.1 ∧ (∀ a j, j < 5 → R.2 a j = Q.2 a j) ∧ (∀ a, a ≠ t → R.2 a 6 = Q.2 a 6 ∧ R.2 a 7 = Q.2 a 7 ∧ R.2 a 8 = Q.2 a 8) ∧ (∀ a, R.2 a 5 = 1 ↔ Q.2 a 5 = 1 ∧ a ≠ t ∧ ∀ j, k ≤ j → j < c → l j ≠ a) ∧ (∀ a, a ≠ t → R.2 a 9 ≤ Q.2 a 9) ∧ (∀ a b, a < Q.1 4 → b < Q.1 4 → R.2 a 5 = 1 → R.2 b 5 = 1 → lo Q a b = true → tp R b ≤ R.2 a 9) ∧ ∀ j, 5 ≤ j → R.2 t j = 0
theorem GI.eax {Q R : Bx} {t c k : Nat} {l : Nat → Nat} (h : GI Q t c l k R) (a w : Nat) : axt R a w = axt Q a w ∧ ayt R a w = ayt Q a w := by
  unfold axt ayt
  rw [h.2.2.1 a 0 (by omega), h.2.2.1 a 1 (by omega)]
  exact ⟨rfl, rfl⟩
theorem GI.etl {Q R : Bx} {t c k : Nat} {l : Nat → Nat} (h : GI Q t c l k R) (a : Nat) : tl R a = tl Q a := by
  unfold tl
  rw [h.2.2.1 a 2 (by omega), h.2.2.1 a 4 (by omega)]
theorem GI.etp {Q R : Bx} {t c k : Nat} {l : Nat → Nat} (h : GI Q t c l k R) {a : Nat} (ha : a ≠ t) : tp R a ≤ tp Q a := by
  have := h.2.2.2.2.2.1 a ha
  have e1 : tp R a = R.2 a 9 + tl R a := rfl
  have e2 : tp Q a = Q.2 a 9 + tl Q a := rfl
  rw [h.etl a] at e1
  omega
theorem GI.exy {Q R : Bx} {t c k : Nat} {l : Nat → Nat} (h : GI Q t c l k R) {a : Nat} (ha : a ≠ t) : R.2 a 7 = Q.2 a 7 ∧ R.2 a 8 = Q.2 a 8 ∧ ax R a = ax Q a ∧ ay R a = ay Q a := by
  obtain ⟨h6, h7, h8⟩ := h.2.2.2.1 a ha
  unfold ax ay
  rw [h6, (h.eax a _).1, (h.eax a _).2]
  exact ⟨h7, h8, rfl, rfl⟩
theorem GI.emt {Q R : Bx} {t c k : Nat} {l : Nat → Nat} (h : GI Q t c l k R) {a b : Nat} (ha : a ≠ t) (hb : b ≠ t) : mt R a b = mt Q a b := by
  obtain ⟨a1, a2, a3, a4⟩ := h.exy ha
  obtain ⟨b1, b2, b3, b4⟩ := h.exy hb
  unfold mt
  rw [a1, a2, a3, a4, b1, b2, b3, b4]
theorem GI.ene {Q R : Bx} {t c k : Nat} {l : Nat → Nat} (h : GI Q t c l k R) {a : Nat} (ha : R.2 a 5 = 1) : a ≠ t := ((h.2.2.2.2.1 a).mp ha).2.1
/-- what is in already doesn't lie on the next one -/
theorem GI_low {Q R : Bx} {t c k : Nat} {l : Nat → Nat} (hW : WF Q) (hl : LSt (fun i => i < Q.1 4 ∧ (ab Q t).testBit i = true) (fun i => Q.2 i 9) c l) (hk : k < c) (hG : GI Q t c l k R) {j : Nat} (hj : j < Q.1 4) (h5 : R.2 j 5 = 1) : ¬ lo Q j (l k) = true := by
  intro h
  have hn := hW.2.2.2.2.1
  obtain ⟨hm, hb⟩ := hl.1 k hk
  have hre : RE Q (fun _ => true) t j := RE.step hj hm ((am_bit hn).mp hb) h rfl
  obtain ⟨i, hi, rfl⟩ := hl.2.2.1 j ⟨hj, (am_bit hn).mpr hre⟩
  have hg := (hG.2.2.2.2.1 (l i)).mp h5
  have hik : i < k := Nat.lt_of_not_le (fun q => hg.2.2 i q hi rfl)
  have h1 : Q.2 (l i) 9 ≤ Q.2 (l k) 9 := hl.2.2.2 i k hik hk
  have h2 := (lo_iff.mp h).2.2.2
  have e : tp Q (l k) = Q.2 (l k) 9 + tl Q (l k) := rfl
  have h3 := (hW.small hm).2.2.2.2.2.2
  omega
theorem GI_0 {Q : Bx} {t c : Nat} {l : Nat → Nat} (hW : WF Q) (hc : ∀ k, k < c → Q.2 (l k) 5 = 1) : GI Q t c l 0 (qz Q t l c) := by
  have e5 : ∀ a, (qz Q t l c).2 a 5 = 1 ↔ Q.2 a 5 = 1 ∧ a ≠ t ∧ ∀ j, 0 ≤ j → j < c → l j ≠ a := fun a => by
    show (if a = t ∧ 5 ≤ 5 then 0 else if 5 = 5 ∧ anyb c (fun i => l i == a) = true then 0 else Q.2 a 5) = 1 ↔ _
    by_cases hat : a = t
    · rw [if_pos ⟨hat, by omega⟩]
      exact ⟨fun q => absurd q (by omega), fun q => absurd hat q.2.1⟩
    · rw [if_neg (fun q => hat q.1)]
      by_cases hb : anyb c (fun i => l i == a) = true
      · rw [if_pos ⟨rfl, hb⟩]
        obtain ⟨j, hj, e⟩ := anyb_iff.mp hb
        exact ⟨fun q => absurd q (by omega), fun q => absurd (by simpa using e) (q.2.2 j (by omega) hj)⟩
      · rw [if_neg (fun q => hb q.2)]
        exact ⟨fun q => ⟨q, hat, fun j _ hj e => hb (anyb_iff.mpr ⟨j, hj, by simpa using e⟩)⟩, fun q => q.1⟩
  have ek : ∀ a j, j < 5 → (qz Q t l c).2 a j = Q.2 a j := fun a j hj => by
    show (if a = t ∧ 5 ≤ j then 0 else if j = 5 ∧ anyb c (fun i => l i == a) = true then 0 else Q.2 a j) = _
    rw [if_neg (by omega), if_neg (by omega)]
  have eh : ∀ a j, a ≠ t → j ≠ 5 → (qz Q t l c).2 a j = Q.2 a j := fun a j ha hj => by
    show (if a = t ∧ 5 ≤ j then 0 else if j = 5 ∧ anyb c (fun i => l i == a) = true then 0 else Q.2 a j) = _
    rw [if_neg (fun q => ha q.1), if_neg (fun q => hj q.1)]
  have et : ∀ j, 5 ≤ j → (qz Q t l c).2 t j = 0 := fun j hj => by
    show (if t = t ∧ 5 ≤ j then 0 else if j = 5 ∧ anyb c (fun i => l i == t) = true then 0 else Q.2 t j) = _
    rw [if_pos ⟨rfl, hj⟩]
  have etl : ∀ a, tl (qz Q t l c) a = tl Q a := fun a => by unfold tl; rw [ek a 2 (by omega), ek a 4 (by omega)]
  have ea : ∀ a, a ≠ t → ax (qz Q t l c) a = ax Q a ∧ ay (qz Q t l c) a = ay Q a := fun a ha => by
    unfold ax ay axt ayt
    rw [eh a 6 ha (by omega), ek a 0 (by omega), ek a 1 (by omega)]
    exact ⟨rfl, rfl⟩
  have etp : ∀ a, a ≠ t → tp (qz Q t l c) a = tp Q a := fun a ha => by unfold tp; rw [etl, eh a 9 ha (by omega)]
  refine ⟨⟨hW.1, hW.2.1, hW.2.2.1, hW.2.2.2.1, hW.2.2.2.2.1, fun i hi => ?_, fun i j hi hj hij g1 g2 hm => ?_⟩, rfl, ek, fun a ha => ⟨eh a 6 ha (by omega), eh a 7 ha (by omega), eh a 8 ha (by omega)⟩, e5, fun a ha => by rw [eh a 9 ha (by omega)]; exact Nat.le_refl _, fun a b ha hb g1 g2 h => ?_, et⟩
  · have wi := hW.2.2.2.2.2.1 i hi
    have k0 := ek i 0 (by omega)
    have k1 := ek i 1 (by omega)
    have k2 := ek i 2 (by omega)
    have k3 := ek i 3 (by omega)
    have k4 := ek i 4 (by omega)
    unfold WT at wi ⊢
    rw [k0, k1, k2, k3, k4]
    by_cases hit : i = t
    · subst hit
      rw [et 5 (by omega), et 6 (by omega), et 7 (by omega), et 8 (by omega), et 9 (by omega)]
      exact ⟨wi.1, wi.2.1, wi.2.2.1, wi.2.2.2.1, wi.2.2.2.2.1, by omega, by omega, by omega, fun q => absurd q (by omega)⟩
    · rw [eh i 6 hit (by omega), eh i 7 hit (by omega), eh i 8 hit (by omega), eh i 9 hit (by omega), (ea i hit).1, (ea i hit).2, etp i hit]
      refine ⟨wi.1, wi.2.1, wi.2.2.1, wi.2.2.2.1, wi.2.2.2.2.1, ?_, wi.2.2.2.2.2.2.1, wi.2.2.2.2.2.2.2.1, fun q => wi.2.2.2.2.2.2.2.2 ((e5 i).mp q).1⟩
      show (if i = t ∧ 5 ≤ 5 then 0 else if 5 = 5 ∧ anyb c (fun k => l k == i) = true then 0 else Q.2 i 5) ≤ 1
      have := wi.2.2.2.2.2.1
      split
      · omega
      · split <;> omega
  · have a1 := (e5 i).mp g1
    have b1 := (e5 j).mp g2
    rw [etp i a1.2.1, etp j b1.2.1, eh i 9 a1.2.1 (by omega), eh j 9 b1.2.1 (by omega)]
    refine hW.2.2.2.2.2.2 i j hi hj hij a1.1 b1.1 ?_
    unfold mt at hm ⊢
    rw [(ea i a1.2.1).1, (ea i a1.2.1).2, (ea j b1.2.1).1, (ea j b1.2.1).2, eh i 7 a1.2.1 (by omega), eh i 8 a1.2.1 (by omega), eh j 7 b1.2.1 (by omega), eh j 8 b1.2.1 (by omega)] at hm
    exact hm
  · have a1 := (e5 a).mp g1
    have b1 := (e5 b).mp g2
    rw [etp b b1.2.1, eh a 9 a1.2.1 (by omega)]
    exact (lo_iff.mp h).2.2.2
/-- one more falls -/
theorem GI_step {Q R : Bx} {t c k : Nat} {l : Nat → Nat} (hW : WF Q) (hl : LSt (fun i => i < Q.1 4 ∧ (ab Q t).testBit i = true) (fun i => Q.2 i 9) c l) (hk : k < c) (hG : GI Q t c l k R) : Q.2 (l k) 6 ≤ 1 ∧ Q.2 (l k) 7 + axt R (l k) (Q.2 (l k) 6) ≤ R.1 0 ∧ Q.2 (l k) 8 + ayt R (l k) (Q.2 (l k) 6) ≤ R.1 1 ∧ GI Q t c l (k + 1) (plc R (l k) (Q.2 (l k) 7) (Q.2 (l k) 8) (Q.2 (l k) 6)) := by
  have hn := hW.2.2.2.2.1
  obtain ⟨ha, hb⟩ := hl.1 k hk
  have hre : RE Q (fun _ => true) t (l k) := (am_bit hn).mp hb
  obtain ⟨a5, af⟩ := RE_floor hre
  obtain ⟨a, hae⟩ : ∃ a, a = l k := ⟨_, rfl⟩
  have hlow := fun {j} => GI_low (j := j) hW hl hk hG
  rw [← hae] at ha hre a5 af hlow ⊢
  have wa := hW.2.2.2.2.2.1 a ha
  have wa6 := wa.2.2.2.2.2.2.1
  obtain ⟨i1, i2, i3⟩ := wa.2.2.2.2.2.2.2.2 a5
  have e1 : R.1 = Q.1 := hG.2.1
  have hat : a ≠ t := fun q => by
    rw [q] at af
    have e : tp Q t = Q.2 t 9 + tl Q t := rfl
    have := (tl_le hW (t := t) (by omega)).1
    omega
  have hout : ¬ R.2 a 5 = 1 := fun q => ((hG.2.2.2.2.1 a).mp q).2.2 k (Nat.le_refl _) hk hae.symm
  have hx : Q.2 a 7 + axt R a (Q.2 a 6) ≤ R.1 0 := by rw [(hG.eax a _).1, e1]; exact i1
  have hy : Q.2 a 8 + ayt R a (Q.2 a 6) ≤ R.1 1 := by rw [(hG.eax a _).2, e1]; exact i2
  -- what it meets lies below it
  have hund : ∀ j, j < Q.1 4 → R.2 j 5 = 1 → mt Q j a = true → tp Q j ≤ Q.2 a 9 := fun j hj j5 hm => by
    have hg := (hG.2.2.2.2.1 j).mp j5
    have hja : j ≠ a := fun q => hout (q ▸ j5)
    rcases hW.2.2.2.2.2.2 j a hj ha hja hg.1 a5 hm with h1 | h1
    · exact absurd (lo_iff.mpr ⟨hg.1, a5, hm, h1⟩) (hlow hj j5)
    · exact h1
  have hfl : (flr R a (Q.2 a 7) (Q.2 a 8) (Q.2 a 6)).1 ≤ Q.2 a 9 := by
    have hax := axt_le hG.1 (i := a) (by rw [e1]; exact ha) (Q.2 a 6)
    obtain ⟨i, j, hi, hj, he⟩ := fs2_at (s := fun j i => tpm R (Q.2 a 7 + i) (Q.2 a 8 + j)) (a := axt R a (Q.2 a 6)) (b := ayt R a (Q.2 a 6)) (by omega) (by omega)
    have he : (flr R a (Q.2 a 7) (Q.2 a 8) (Q.2 a 6)).1 = tpm R (Q.2 a 7 + i) (Q.2 a 8 + j) := he
    rw [he]
    refine mxf_le (fun b hbn => ?_)
    rw [e1] at hbn
    unfold tpf
    by_cases hc : cv R b (Q.2 a 7 + i) (Q.2 a 8 + j) = true
    · rw [if_pos hc]
      have b5 := cv_in hc
      have hbt := hG.ene b5
      refine Nat.le_trans (hG.etp hbt) (hund b hbn b5 ?_)
      obtain ⟨x1, x2, x3, x4⟩ := hG.exy hbt
      simp only [cv, Bool.and_eq_true, decide_eq_true_eq, beq_iff_eq, x1, x2, x3, x4] at hc
      rw [(hG.eax a _).1] at hi
      rw [(hG.eax a _).2] at hj
      simp only [mt, Bool.and_eq_true, decide_eq_true_eq]
      unfold ax ay at *
      omega
    · rw [if_neg hc]
      exact Nat.zero_le _
  have htl : tl R a = tl Q a := hG.etl a
  have etp : tp Q a = Q.2 a 9 + tl Q a := rfl
  refine ⟨wa6, hx, hy, plc_WF hG.1 (by rw [e1]; exact ha) hout wa6 hx hy (by rw [htl, e1]; omega), e1, fun b j hj => ?_, fun b hbt => ?_, fun b => ?_, fun b hbt => ?_, fun b d hb' hd g1 g2 h => ?_, fun j hj => ?_⟩
  · by_cases hba : b = a
    · rw [hba, plc_k hj]
      exact hG.2.2.1 a j hj
    · rw [plc_o hba]
      exact hG.2.2.1 b j hj
  · by_cases hba : b = a
    · rw [hba, plc_6, plc_7, plc_8]
      exact ⟨rfl, rfl, rfl⟩
    · rw [plc_o hba]
      exact hG.2.2.2.1 b hbt
  · by_cases hba : b = a
    · rw [hba, plc_5]
      refine ⟨fun _ => ⟨a5, hat, fun j h1 h2 e => ?_⟩, fun _ => rfl⟩
      have := hl.2.1 j k h2 hk (e.trans hae)
      omega
    · rw [plc_o hba, hG.2.2.2.2.1 b]
      refine ⟨fun q => ⟨q.1, q.2.1, fun j h1 h2 => q.2.2 j (by omega) h2⟩, fun q => ⟨q.1, q.2.1, fun j h1 h2 e => ?_⟩⟩
      by_cases hjk : j = k
      · exact hba (by rw [hae, ← hjk, e])
      · exact q.2.2 j (by omega) h2 e
  · by_cases hba : b = a
    · rw [hba, plc_9]
      exact hfl
    · rw [plc_o hba]
      exact hG.2.2.2.2.2.1 b hbt
  · by_cases hba : b = a
    · subst hba
      have hdb : d ≠ b := fun q => by
        rw [q, lo_self wa] at h
        cases h
      rw [plc_o hdb] at g2
      rw [plc_9, tp_c (plc_o hdb)]
      refine plc_over hG.1 (by rw [e1]; exact ha) (by rw [e1]; exact hd) hdb g2 ?_
      have hm := (lo_iff.mp h).2.2.1
      have hdt := hG.ene g2
      obtain ⟨x1, x2, x3, x4⟩ := hG.exy hdt
      have ed : ax (plc R b (Q.2 b 7) (Q.2 b 8) (Q.2 b 6)) d = ax R d ∧ ay (plc R b (Q.2 b 7) (Q.2 b 8) (Q.2 b 6)) d = ay R d := by
        unfold ax ay axt ayt
        rw [plc_o hdb]
        exact ⟨rfl, rfl⟩
      unfold mt at hm ⊢
      rw [plc_7, plc_8, plc_ax.1, plc_ax.2, ed.1, ed.2, plc_o hdb, (hG.eax b _).1, (hG.eax b _).2, x1, x2, x3, x4]
      exact hm
    · rw [plc_o hba] at g1 ⊢
      by_cases hda : d = a
      · rw [hda] at h
        exact absurd h (hlow hb' g1)
      · rw [plc_o hda] at g2
        rw [tp_c (plc_o hda)]
        exact hG.2.2.2.2.2.2.1 b d hb' hd g1 g2 h
  · rw [plc_o (fun q => hat q.symm)]
    exact hG.2.2.2.2.2.2.2 j hj
/-- at the end the order is as it was -/
theorem GI_end {Q R : Bx} {t c : Nat} {l : Nat → Nat} (hW : WF Q) (hG : GI Q t c l c R) : (∀ a, R.2 a 5 = 1 ↔ Q.2 a 5 = 1 ∧ a ≠ t) ∧ (∀ i j, i < Q.1 4 → j < Q.1 4 → i ≠ t → j ≠ t → lo R i j = lo Q i j) ∧ (Z6 Q → Z6 R) := by
  have e5 : ∀ a, R.2 a 5 = 1 ↔ Q.2 a 5 = 1 ∧ a ≠ t := fun a => by
    rw [hG.2.2.2.2.1 a]
    exact ⟨fun q => ⟨q.1, q.2.1⟩, fun q => ⟨q.1, q.2, fun j h1 h2 => absurd h1 (by omega)⟩⟩
  refine ⟨e5, fun i j hi hj hit hjt => ?_, fun hz i hi h0 => ?_⟩
  · rw [Bool.eq_iff_iff]
    constructor
    · intro h
      obtain ⟨h1, h2, h3, h4⟩ := lo_iff.mp h
      have i5 := (e5 i).mp h1
      have j5 := (e5 j).mp h2
      rw [hG.emt hit hjt] at h3
      have hij : i ≠ j := fun q => by
        rw [q] at h4
        have e : tp R j = R.2 j 9 + tl R j := rfl
        have := (tl_le hG.1 (t := j) (by rw [hG.2.1]; exact hj)).1
        omega
      rcases hW.2.2.2.2.2.2 i j hi hj hij i5.1 j5.1 h3 with g | g
      · exact lo_iff.mpr ⟨i5.1, j5.1, h3, g⟩
      · have hji := hG.2.2.2.2.2.2.1 j i hj hi h2 h1 (lo_iff.mpr ⟨j5.1, i5.1, by rw [mt_sym]; exact h3, g⟩)
        have e1 : tp R j = R.2 j 9 + tl R j := rfl
        have e2 : tp R i = R.2 i 9 + tl R i := rfl
        have := (tl_le hG.1 (t := j) (by rw [hG.2.1]; exact hj)).1
        omega
    · intro h
      obtain ⟨h1, h2, h3, h4⟩ := lo_iff.mp h
      have i5 := (e5 i).mpr ⟨h1, hit⟩
      have j5 := (e5 j).mpr ⟨h2, hjt⟩
      exact lo_iff.mpr ⟨i5, j5, by rw [hG.emt hit hjt]; exact h3, hG.2.2.2.2.2.2.1 i j hi hj i5 j5 h⟩
  · by_cases hit : i = t
    · rw [hit]
      exact hG.2.2.2.2.2.2.2 6 (by omega)
    · rw [(hG.2.2.2.1 i hit).1]
      rw [hG.2.1] at hi
      refine hz i hi ?_
      have h1 := hW.in1 i hi
      have h2 : ¬ Q.2 i 5 = 1 := fun q => by
        have := (e5 i).mpr ⟨q, hit⟩
        omega
      omega
/-- what a walk over the page may change -/
def gF (w w' : S) : Prop := (∀ k, 125 ≤ k → w'.1 1 k = w.1 1 k) ∧ (∀ j, j ≠ 0 → j ≠ 1 → j ≠ 2 → j ≠ 7 → w'.1 j = w.1 j) ∧ (∀ k, k ≠ 3 → k ≠ 4 → w'.1 0 k = w.1 0 k) ∧ w'.2 = w.2
theorem gF.refl (w : S) : gF w w := ⟨fun _ _ => rfl, fun _ _ _ _ _ => rfl, fun _ _ _ => rfl, rfl⟩
theorem gF.trans {u v w : S} (h : gF u v) (g : gF v w) : gF u w := ⟨fun k hk => (g.1 k hk).trans (h.1 k hk), fun j a b c d => (g.2.1 j a b c d).trans (h.2.1 j a b c d), fun k a b => (g.2.2.1 k a b).trans (h.2.2.1 k a b), g.2.2.2.trans h.2.2.2⟩
theorem gets_eq {w : S} {Q : Bx} {t : Nat} {v : Int32} (hW : WF Q) (hM : MR w 0 Q) (hv : v = nI t) (ht : t < Q.1 4) : ∃ Q' w', fX7_gets v w = some (nI (pc (ab Q t)), w') ∧ MR w' 0 Q' ∧ WF Q' ∧ Q'.1 = Q.1 ∧ (∀ a j, j < 5 → Q'.2 a j = Q.2 a j) ∧ (∀ a, Q'.2 a 5 = 1 ↔ Q.2 a 5 = 1 ∧ a ≠ t) ∧ (∀ i j, i < Q.1 4 → j < Q.1 4 → i ≠ t → j ≠ t → lo Q' i j = lo Q i j) ∧ (Z6 Q → Z6 Q') ∧ gF w w' := by
  subst hv
  have hn := hW.2.2.2.2.1
  have hab : fX7_above (nI t) w = some (nI (ab Q t)) := m_above hW hM rfl ht
  obtain ⟨l, w1, a1, a2, a3, a4, a5, a6⟩ := lifted_eq (m := ab Q t) hW hM ab_lt
  rw [ab_pc hn] at a1 a2 a3
  obtain ⟨c, hc⟩ : ∃ c, c = pc (ab Q t) := ⟨_, rfl⟩
  rw [← hc] at a1 a2 a3
  have hc12 : c ≤ 12 := by rw [hc]; exact pc_le _
  have hlt : ∀ k, k < c → l k < Q.1 4 := fun k hk => (a2.1 k hk).1
  have hin : ∀ k, k < c → Q.2 (l k) 5 = 1 := fun k hk => (RE_floor ((am_bit hn).mp (a2.1 k hk).2)).1
  have hf1 : gF w w1 := ⟨fun k _ => by rw [a5 1 (by omega)], fun j _ _ _ h => a5 j h, fun k _ _ => by rw [a5 0 (by omega)], a6⟩
  have hf2 : gF w1 (lvW w1 t 10) := ⟨fun k hk => by simp only [lvW]; rw [if_neg (by omega)], fun j _ h _ _ => by funext k; simp only [lvW]; rw [if_neg (by omega)], fun k _ _ => by simp only [lvW]; rw [if_neg (by omega)], rfl⟩
  have h7 : (lvW w1 t 10).1 7 = w1.1 7 := by funext k; simp only [lvW]; rw [if_neg (by omega)]
  have hM2 : MR (lvW w1 t 10) 0 (qz Q t l 0) := by
    refine ⟨fun k hk => ?_, fun i k hi hk => ?_⟩
    · simp only [lvW]
      rw [if_neg (by omega)]
      exact a4.1 k hk
    · have hi : i < Q.1 4 := hi
      show (if _ then _ else _) = nI (if i = t ∧ 5 ≤ k then 0 else if k = 5 ∧ anyb 0 (fun z => l z == i) = true then 0 else Q.2 i k)
      by_cases hit : i = t ∧ 5 ≤ k
      · rw [if_pos ⟨rfl, by omega, by omega⟩, if_pos hit]
        rfl
      · rw [if_neg (by omega), if_neg hit, if_neg (by simp [anyb])]
        exact a4.2 i k hi hk
  -- the lifted trays are out
  obtain ⟨e2, b1, w2, rfl, b3, b4, b5⟩ := lp_go (step := gX7_gets_112 (nI c)) (a := (nI 0, lvW w1 t 10)) (fun k a => ∃ s, a = (nI k, s) ∧ MR s 0 (qz Q t l k) ∧ s.1 7 = w1.1 7 ∧ gF w s) (fun a => ∃ s, a = (nI c, s) ∧ MR s 0 (qz Q t l c) ∧ s.1 7 = w1.1 7 ∧ gF w s) c ⟨_, rfl, hM2, h7, hf1.trans hf2⟩ (by omega) (fun k a hk ⟨s, e, hs, h7, hf⟩ => by
      subst e
      left
      have hlk := hlt k hk
      simp only [gX7_gets_112]
      rw [if_neg (by rw [nle (by omega) (by omega)]; omega), gd_t (inb_n (by omega) (by omega)), ncl (by omega), h7, a3 k hk, sets_at rfl (show (5 : Int32) = nI 5 from rfl) (by omega), Option.bind_some, show nI k + 1 = nI (k + 1) from nadd k 1]
      refine ⟨_, rfl, _, rfl, ⟨fun j hj => ?_, fun i j hi hj => ?_⟩, by rw [up_ne _ _ _ _ (by omega)]; exact h7, hf.trans ⟨fun j hj => ?_, fun j _ h _ _ => up_ne _ _ _ _ h, fun j _ _ => by rw [up_ne _ _ _ _ (by omega)], rfl⟩⟩
      · rw [up_at, if_neg (by omega)]
        exact hs.1 j hj
      · have hi : i < Q.1 4 := hi
        have hq := hs.2 i j hi hj
        rw [up_at]
        show _ = nI (if i = t ∧ 5 ≤ j then 0 else if j = 5 ∧ anyb (k + 1) (fun z => l z == i) = true then 0 else Q.2 i j)
        have hq : s.1 1 (125 * 0 + (5 + 10 * i + j)) = nI (if i = t ∧ 5 ≤ j then 0 else if j = 5 ∧ anyb k (fun z => l z == i) = true then 0 else Q.2 i j) := hq
        by_cases hit : i = t ∧ 5 ≤ j
        · rw [if_pos hit] at hq ⊢
          split
          · rfl
          · exact hq
        · rw [if_neg hit] at hq ⊢
          by_cases hij : j = 5 ∧ l k = i
          · rw [if_pos (by omega), if_pos ⟨hij.1, by rw [anyb_succ, hij.2]; simp⟩]
            rfl
          · rw [if_neg (by omega), hq]
            by_cases hj5 : j = 5
            · have : ¬ l k = i := fun q => hij ⟨hj5, q⟩
              have : (l k == i) = false := by simpa using this
              rw [anyb_succ, this, Bool.or_false]
            · rw [if_neg (fun q => hj5 q.1), if_neg (fun q => hj5 q.1)]
      · rw [up_at, if_neg (by omega)]) (fun a ⟨s, e, hs, h7, hf⟩ => by
      subst e
      simp only [gX7_gets_112]
      rw [if_pos (by rw [nle (by omega) (by omega)]; omega)]
      exact ⟨_, rfl, s, rfl, hs, h7, hf⟩)
  obtain ⟨e3, c1, R, w3, rfl, c3, c4, c5⟩ := lp_go (step := gX7_gets_140 (nI c)) (a := (nI 0, w2)) (fun k a => ∃ R s, a = (nI k, s) ∧ MR s 0 R ∧ GI Q t c l k R ∧ s.1 7 = w1.1 7 ∧ gF w s) (fun a => ∃ R s, a = (nI c, s) ∧ MR s 0 R ∧ GI Q t c l c R ∧ gF w s) c ⟨_, _, rfl, b3, GI_0 hW hin, b4, b5⟩ (by omega) (fun k a hk ⟨R, s, e, hs, hG, h7, hf⟩ => by
      subst e
      left
      have hlk := hlt k hk
      obtain ⟨s1, s2, s3, s4⟩ := GI_step hW a2 hk hG
      have hnR : R.1 4 ≤ 12 := by rw [hG.2.1]; exact hn
      have hlR : l k < R.1 4 := by rw [hG.2.1]; exact hlk
      have hne : l k ≠ t := fun q => by
        have hre := (RE_floor ((am_bit hn).mp (a2.1 k hk).2)).2
        rw [q] at hre
        have e : tp Q t = Q.2 t 9 + tl Q t := rfl
        have := (tl_le hW ht).1
        omega
      obtain ⟨o6, o7, o8⟩ := hG.2.2.2.1 (l k) hne
      simp only [gX7_gets_140]
      rw [if_neg (by rw [nle (by omega) (by omega)]; omega), gd_t (inb_n (by omega) (by omega)), gd_t (inb_n (by omega) (by omega)), ncl (by omega), h7, a3 k hk, hs.of hnR (v1 := nI (l k)) rfl (show (7 : Int32) = nI 7 from rfl) hlR (by omega), Option.bind_some, gd_t (inb_n (by omega) (by omega)), hs.of hnR (v1 := nI (l k)) rfl (show (8 : Int32) = nI 8 from rfl) hlR (by omega), Option.bind_some, gd_t (inb_n (by omega) (by omega)), hs.of hnR (v1 := nI (l k)) rfl (show (6 : Int32) = nI 6 from rfl) hlR (by omega), Option.bind_some, o6, o7, o8]
      obtain ⟨s', d1, d2, d3, d4, d5, d6⟩ := comes_eq hG.1 hs hlR s1 (v := nI (l k)) rfl rfl rfl rfl s2 s3
      rw [d1, Option.bind_some, show nI k + 1 = nI (k + 1) from nadd k 1]
      exact ⟨_, rfl, _, _, rfl, d2, s4, by rw [d4 7 (by omega) (by omega) (by omega)]; exact h7, hf.trans ⟨d3, fun j a b c _ => d4 j a b c, d5, d6⟩⟩) (fun a ⟨R, s, e, hs, hG, h7, hf⟩ => by
      subst e
      simp only [gX7_gets_140]
      rw [if_pos (by rw [nle (by omega) (by omega)]; omega)]
      exact ⟨_, rfl, R, s, rfl, hs, hG, hf⟩)
  obtain ⟨g1, g2, g3⟩ := GI_end hW c4
  refine ⟨R, w3, ?_, c3, c4.1, c4.2.1, c4.2.2.1, g1, g2, g3, c5⟩
  simp only [fX7_gets, hab, Option.bind_some, a1, leaves_eq (v := nI t) rfl (show t ≤ 12 by omega)]
  rw [show ((0 : Int32), lvW w1 t 10) = (nI 0, lvW w1 t 10) from rfl, b1, Option.bind_some]
  show ((lp (gX7_gets_140 (nI c)) FU (nI 0, w2)).bind fun e12 => some (nI c, e12.2)) = _
  rw [c1, Option.bind_some, hc]
