theorem nmod {a b : Nat} (ha : a < 2147483648) (hb : b < 2147483648) : nI a % nI b = nI (a % b) := by
  have hm : a % b < 2147483648 := Nat.lt_of_le_of_lt (Nat.mod_le a b) ha
  rw [← Int32.toInt_inj, Int32.toInt_mod, nI_toInt ha, nI_toInt hb, nI_toInt hm]
  exact (Int.ofNat_tmod a b).symm
theorem ndiv {a b : Nat} (ha : a < 2147483648) (hb : b < 2147483648) : nI a / nI b = nI (a / b) := by
  have hm : a / b < 2147483648 := Nat.lt_of_le_of_lt (Nat.div_le_self a b) ha
  rw [← Int32.toInt_inj, Int32.toInt_div, nI_toInt ha, nI_toInt hb, nI_toInt hm]
  rw [show ((a : Int).tdiv (b : Int)) = ((a / b : Nat) : Int) from (Int.ofNat_tdiv a b).symm]
  generalize a / b = q at hm ⊢
  rw [Int.bmod_eq_of_le (by omega) (by omega)]
/-- what a record leaves as it was, in the class and in the reference -/
def keptX (u u' : S) : Prop := ∀ j, inB 0 j ∨ scrC j ∨ j = 160 ∨ j = 161 → u'.1 j = u.1 j
def keptM (w w' : S) : Prop := (∀ k, k < 125 ∨ 1125 ≤ k → w'.1 1 k = w.1 1 k) ∧ (∀ j, j ≠ 0 → j ≠ 1 → w'.1 j = w.1 j) ∧ ∀ k, k ≠ 1 → w'.1 0 k = w.1 0 k
theorem shift_eq {w : S} : ∃ w', lp (gX7_records_11) FU (1, w) = some (nI 8, w') ∧ (∀ j, j ≠ 1 → w'.1 j = w.1 j) ∧ (∀ k, k < 125 ∨ 1000 ≤ k → w'.1 1 k = w.1 1 k) ∧ ∀ k, 125 ≤ k → k < 1000 → w'.1 1 k = w.1 1 (k + 125) := by
  have hgo := lp_go (step := gX7_records_11) (a := (nI 1, w)) (fun i a => a.1 = nI (i + 1) ∧ (∀ j, j ≠ 1 → a.2.1 j = w.1 j) ∧ (∀ k, k < 125 ∨ 125 * (i + 1) ≤ k → a.2.1 1 k = w.1 1 k) ∧ ∀ k, 125 ≤ k → k < 125 * (i + 1) → a.2.1 1 k = w.1 1 (k + 125))
    (fun b => b.1 = nI 8 ∧ (∀ j, j ≠ 1 → b.2.1 j = w.1 j) ∧ (∀ k, k < 125 ∨ 1000 ≤ k → b.2.1 1 k = w.1 1 k) ∧ ∀ k, 125 ≤ k → k < 1000 → b.2.1 1 k = w.1 1 (k + 125)) 7 ⟨rfl, fun _ _ => rfl, fun _ _ => rfl, fun k a b => by omega⟩ (by omega)
    (fun i a hi hI => ?_) (fun a hI => ?_)
  · obtain ⟨b, h1, h2, h3⟩ := hgo
    refine ⟨b.2, ?_, h3⟩
    rw [show (1 : Int32) = nI 1 from rfl, h1, ← h2]
  · obtain ⟨e, a1, a2, a3⟩ := hI
    left
    refine ⟨(nI (i + 2), cpP a.2 (i + 2) (i + 1) 125), ?_, rfl, fun j hj => by rw [cpP_ne hj]; exact a1 j hj, fun k hk => ?_, fun k hk1 hk2 => ?_⟩
    · simp only [gX7_records_11, e]
      rw [show (8 : Int32) = nI 8 from rfl, if_neg (by rw [nle (by omega) (by omega)]; omega), show nI (i + 1) + 1 = nI (i + 2) from nadd (i + 1) 1, copies_eq (by omega) (by omega) (by omega)]
      rfl
    · rw [cpP_out (by omega)]
      exact a2 k (by omega)
    · by_cases h : k < 125 * (i + 1)
      · rw [cpP_out (by omega)]
        exact a3 k hk1 h
      · rw [show k = 125 * (i + 1) + (k - 125 * (i + 1)) by omega, cpP_in (by omega), a2 _ (by omega)]
        exact congrArg _ (by omega)
  · obtain ⟨e, a1, a2, a3⟩ := hI
    exact ⟨(nI 8, a.2), by simp only [gX7_records_11, e]; rw [if_pos (by decide)], rfl, a1, fun k hk => a2 k (by omega), fun k h1 h2 => a3 k h1 (by omega)⟩
theorem record_sim {P : Bx} {u w : S} (h : RR P u w) : ∃ u' w', fX2_record 0 u = some u' ∧ fX7_records w = some w' ∧ RR P u' w' ∧ keptX u u' ∧ keptM w w' := by
  obtain ⟨hW, hC, hM, ⟨n, o, hn, ho, h0, h1, h2, hk⟩, hT, hzz⟩ := h
  have hP4 := hW.2.2.2.2.1
  by_cases h8 : n = 8
  · subst h8
    -- the class
    obtain ⟨v, hv⟩ : ∃ v, v = up (up u 158 1 (nI ((o + 1) % 8))) 158 0 (nI 7) := ⟨_, rfl⟩
    have hvo : ∀ j, j ≠ 158 → v.1 j = u.1 j := fun j hj => by rw [hv]; simp only [up_ne _ _ _ _ hj]
    have hv0 : v.1 158 0 = nI 7 := by rw [hv]; simp [up]
    have hv1 : v.1 158 1 = nI ((o + 1) % 8) := by rw [hv]; simp [up]
    have hvC : CR v 0 P := CR_of hP4 hC (fun j hj => hvo j (by unfold inB at hj; omega))
    obtain ⟨x, hx, hxC, hxo, -⟩ := copyFrom_CR (a := 1 + o) (b := 0) (by omega) (by omega) (by omega) hW hvC
    have hx158 : x.1 158 = v.1 158 := hxo 158 (by unfold inB; omega)
    obtain ⟨x', hx'⟩ : ∃ x', x' = up x 158 0 (nI 8) := ⟨_, rfl⟩
    have hx'o : ∀ j, j ≠ 158 → x'.1 j = x.1 j := fun j hj => by rw [hx']; simp only [up_ne _ _ _ _ hj]
    have hrec : fX2_record 0 u = some x' := by
      simp only [fX2_record, h0, h1]
      rw [if_pos (by decide), show nI o + 1 = nI (o + 1) from nadd o 1, show (8 : Int32) = nI 8 from rfl, nmod (by omega) (by omega)]
      simp only [nm_k]
      have e1 : (up u 158 1 (nI ((o + 1) % 8))).1 158 0 = nI 8 := by simp [up, h0]
      rw [e1, show nI 8 - 1 = nI 7 from nsub (a := 8) (b := 1) (by omega), ← hv, hv0, hv1, nadd, nmod (by omega) (by omega), gd_t (inb_n (by omega) (by omega)), ncl (by omega), show ((o + 1) % 8 + 7) % 8 = o by omega, hx]
      show nm (up x 158 0 (x.1 158 0 + 1)) (fun u8 => some u8) = _
      rw [nm_k, hx158, hv0, show nI 7 + 1 = nI 8 from nadd 7 1, ← hx']
    -- the reference
    obtain ⟨z, hz, hz1, hz2, hz3⟩ := shift_eq (w := w)
    obtain ⟨z', hz'⟩ : ∃ z', z' = up (up z 0 1 (nI 7)) 0 1 (nI 8) := ⟨_, rfl⟩
    have hz'o : ∀ j, j ≠ 0 → z'.1 j = z.1 j := fun j hj => by rw [hz']; simp only [up_ne _ _ _ _ hj]
    have hz'1 : z'.1 0 1 = nI 8 := by rw [hz']; simp [up]
    have hz'k : ∀ k, k ≠ 1 → z'.1 0 k = w.1 0 k := fun k hk => by rw [hz']; simp [up, hk, hz1]
    have hrm : fX7_records w = some (cpP z' 0 8 125) := by
      simp only [fX7_records, h2]
      rw [if_pos (by decide), hz]
      simp only [Option.bind_some, nm_k]
      have e1 : z.1 0 1 = nI 8 := by rw [hz1 0 (by omega)]; exact h2
      have e2 : (up z 0 1 (z.1 0 1 - 1)).1 0 1 + 1 = nI 8 := by simp [up, e1]; try decide
      rw [e2]
      have e3 : up (up z 0 1 (z.1 0 1 - 1)) 0 1 (nI 8) = z' := by rw [hz', e1]; rfl
      rw [e3, hz'1, show (0 : Int32) = nI 0 from rfl, copies_eq (by omega) (by omega) (by omega)]
      rfl
    refine ⟨x', cpP z' 0 8 125, hrec, hrm, ⟨hW, ?_, ?_, ?_, ?_, hzz⟩, ?_, ?_⟩
    · exact CR_of hP4 hvC (fun j hj => by rw [hx'o j (by unfold inB at hj; omega), hxo j (by unfold inB at hj ⊢; omega)])
    · refine MR_of hP4 hM (fun k hk => ?_)
      rw [cpP_out (by omega), hz'o 1 (by omega), hz2 _ (by omega)]
    · refine ⟨8, (o + 1) % 8, by omega, by omega, by rw [hx']; simp [up], ?_, by rw [cpP_ne (by omega)]; exact hz'1, fun k hk8 => ?_⟩
      · rw [hx']
        simp only [up_at]
        rw [if_neg (by omega), hx158]
        exact hv1
      · by_cases h7 : k = 7
        · subst h7
          refine ⟨P, hW, ?_, ?_, hzz⟩
          · rw [show 1 + ((o + 1) % 8 + 7) % 8 = 1 + o by omega]
            exact CR_of hP4 hxC (fun j hj => hx'o j (by unfold inB at hj; omega))
          · refine copies_MR (p := 0) (q := 8) hP4 (MR_of hP4 hM (fun k hk => ?_))
            rw [hz'o 1 (by omega), hz2 _ (by omega)]
        · obtain ⟨Q, q1, q2, q3, q4⟩ := hk (k + 1) (by omega)
          have hQ4 := q1.2.2.2.2.1
          refine ⟨Q, q1, ?_, ?_, q4⟩
          · rw [show 1 + ((o + 1) % 8 + k) % 8 = 1 + (o + (k + 1)) % 8 by omega]
            refine CR_of hQ4 q2 (fun j hj => ?_)
            rw [hx'o j (by unfold inB at hj; omega), hxo j (by unfold inB at hj ⊢; omega), hvo j (by unfold inB at hj; omega)]
          · refine copies_MRo hQ4 (by omega) ⟨fun i hi => ?_, fun i j hi hj => ?_⟩
            · rw [hz'o 1 (by omega), hz3 _ (by omega) (by omega), show 125 * (k + 1) + i + 125 = 125 * (k + 1 + 1) + i by omega]
              exact q3.1 i hi
            · rw [hz'o 1 (by omega), hz3 _ (by omega) (by omega), show 125 * (k + 1) + (5 + 10 * i + j) + 125 = 125 * (k + 1 + 1) + (5 + 10 * i + j) by omega]
              exact q3.2 i j hi hj
    · obtain ⟨len, t1, t2, t3, t4, t5⟩ := hT
      have c160 : x'.1 160 = u.1 160 := by rw [hx'o 160 (by omega), hxo 160 (by unfold inB; omega), hvo 160 (by omega)]
      have c161 : x'.1 161 = u.1 161 := by rw [hx'o 161 (by omega), hxo 161 (by unfold inB; omega), hvo 161 (by omega)]
      have c3 : (cpP z' 0 8 125).1 3 = w.1 3 := by rw [cpP_ne (by omega), hz'o 3 (by omega), hz1 3 (by omega)]
      refine ⟨len, t1, by rw [c160]; exact t2, by rw [cpP_ne (by omega), hz'k 6 (by omega)]; exact t3, fun i hi => by rw [c161, c3]; exact t4 i hi, by rw [c160, cpP_ne (by omega), hz'k 7 (by omega)]; exact t5⟩
    · intro j hj
      have h158 : j ≠ 158 := by unfold inB scrC at hj; omega
      rw [hx'o j h158, hxo j (by unfold inB scrC at hj; unfold inB; omega), hvo j h158]
    · refine ⟨fun k hk => ?_, fun j a b => ?_, fun k hk => ?_⟩
      · rw [cpP_out (by omega), hz'o 1 (by omega), hz2 _ (by omega)]
      · rw [cpP_ne b, hz'o j a, hz1 j b]
      · rw [cpP_ne (by omega), hz'k k hk]
  · -- fewer than 8
    obtain ⟨x, hx, hxC, hxo, -⟩ := copyFrom_CR (a := 1 + (o + n) % 8) (b := 0) (by omega) (by omega) (by omega) hW hC
    have hx158 : x.1 158 = u.1 158 := hxo 158 (by unfold inB; omega)
    obtain ⟨x', hx'⟩ : ∃ x', x' = up x 158 0 (nI (n + 1)) := ⟨_, rfl⟩
    have hx'o : ∀ j, j ≠ 158 → x'.1 j = x.1 j := fun j hj => by rw [hx']; simp only [up_ne _ _ _ _ hj]
    have hrec : fX2_record 0 u = some x' := by
      simp only [fX2_record, h0, h1]
      rw [show (8 : Int32) = nI 8 from rfl, if_neg (by rw [neq (by omega) (by omega)]; exact h8), nadd, nmod (by omega) (by omega), gd_t (inb_n (by omega) (by omega)), ncl (by omega), hx]
      show nm (up x 158 0 (x.1 158 0 + 1)) (fun u8 => some u8) = _
      rw [nm_k, hx158, h0, show nI n + 1 = nI (n + 1) from nadd n 1, ← hx']
    obtain ⟨z', hz'⟩ : ∃ z', z' = up w 0 1 (nI (n + 1)) := ⟨_, rfl⟩
    have hz'o : ∀ j, j ≠ 0 → z'.1 j = w.1 j := fun j hj => by rw [hz']; simp only [up_ne _ _ _ _ hj]
    have hz'1 : z'.1 0 1 = nI (n + 1) := by rw [hz']; simp [up]
    have hz'k : ∀ k, k ≠ 1 → z'.1 0 k = w.1 0 k := fun k hk => by rw [hz']; simp [up, hk]
    have hrm : fX7_records w = some (cpP z' 0 (n + 1) 125) := by
      simp only [fX7_records, h2]
      rw [show (8 : Int32) = nI 8 from rfl, if_neg (by rw [neq (by omega) (by omega)]; exact h8), show nI n + 1 = nI (n + 1) from nadd n 1]
      simp only [nm_k]
      rw [← hz', hz'1, show (0 : Int32) = nI 0 from rfl, copies_eq (by omega) (by omega) (by omega)]
      rfl
    refine ⟨x', cpP z' 0 (n + 1) 125, hrec, hrm, ⟨hW, ?_, ?_, ?_, ?_, hzz⟩, ?_, ?_⟩
    · exact CR_of hP4 hC (fun j hj => by rw [hx'o j (by unfold inB at hj; omega), hxo j (by unfold inB at hj ⊢; omega)])
    · refine MR_of hP4 hM (fun k hk => ?_)
      rw [cpP_out (by omega), hz'o 1 (by omega)]
    · refine ⟨n + 1, o, by omega, by omega, by rw [hx']; simp [up], ?_, by rw [cpP_ne (by omega)]; exact hz'1, fun k hkn => ?_⟩
      · rw [hx']
        simp only [up_at]
        rw [if_neg (by omega), hx158]
        exact h1
      · by_cases h7 : k = n
        · subst h7
          refine ⟨P, hW, CR_of hP4 hxC (fun j hj => hx'o j (by unfold inB at hj; omega)), copies_MR (p := 0) (q := k + 1) hP4 (MR_of hP4 hM (fun k hk => ?_)), hzz⟩
          rw [hz'o 1 (by omega)]
        · obtain ⟨Q, q1, q2, q3, q4⟩ := hk k (by omega)
          have hQ4 := q1.2.2.2.2.1
          refine ⟨Q, q1, CR_of hQ4 q2 (fun j hj => ?_), copies_MRo hQ4 (by omega) (MR_of hQ4 q3 (fun i hi => ?_)), q4⟩
          · rw [hx'o j (by unfold inB at hj; omega), hxo j (by unfold inB at hj ⊢; omega)]
          · rw [hz'o 1 (by omega)]
    · obtain ⟨len, t1, t2, t3, t4, t5⟩ := hT
      have c160 : x'.1 160 = u.1 160 := by rw [hx'o 160 (by omega), hxo 160 (by unfold inB; omega)]
      have c161 : x'.1 161 = u.1 161 := by rw [hx'o 161 (by omega), hxo 161 (by unfold inB; omega)]
      have c3 : (cpP z' 0 (n + 1) 125).1 3 = w.1 3 := by rw [cpP_ne (by omega), hz'o 3 (by omega)]
      refine ⟨len, t1, by rw [c160]; exact t2, by rw [cpP_ne (by omega), hz'k 6 (by omega)]; exact t3, fun i hi => by rw [c161, c3]; exact t4 i hi, by rw [c160, cpP_ne (by omega), hz'k 7 (by omega)]; exact t5⟩
    · intro j hj
      have h158 : j ≠ 158 := by unfold inB scrC at hj; omega
      rw [hx'o j h158, hxo j (by unfold inB scrC at hj; unfold inB; omega)]
    · refine ⟨fun k hk => ?_, fun j a b => ?_, fun k hk => ?_⟩
      · rw [cpP_out (by omega), hz'o 1 (by omega)]
      · rw [cpP_ne b, hz'o j a]
      · rw [cpP_ne (by omega), hz'k k hk]
/-- undo -/
theorem sim_undo : Sim_undo Rl := by
  intro u w ⟨P, hW, hC, hM, ⟨n, o, hn, ho, h0, h1, h2, hk⟩, hT⟩
  by_cases hn0 : n = 0
  · subst hn0
    refine ⟨-2, u, w, ?_, ?_, P, hW, hC, hM, ⟨0, o, hn, ho, h0, h1, h2, hk⟩, hT⟩
    · simp only [fX6_undo, h0]
      rw [if_pos (by decide)]
    · simp only [fX7_undo, h2]
      rw [if_pos (by decide)]
  · obtain ⟨Q, q1, q2, q3, q4⟩ := hk (n - 1) (by omega)
    have hQ4 := q1.2.2.2.2.1
    obtain ⟨v, hv⟩ : ∃ v, v = up u 158 0 (nI (n - 1)) := ⟨_, rfl⟩
    have hvo : ∀ j, j ≠ 158 → v.1 j = u.1 j := fun j hj => by rw [hv]; simp only [up_ne _ _ _ _ hj]
    have hv0 : v.1 158 0 = nI (n - 1) := by rw [hv]; simp [up]
    have hv1 : v.1 158 1 = nI o := by rw [hv]; simp [up, h1]
    have hvQ : CR v (1 + (o + (n - 1)) % 8) Q := CR_of hQ4 q2 (fun j hj => hvo j (by unfold inB at hj; omega))
    obtain ⟨x, hx, hxC, hxo, -⟩ := copyFrom_CR (a := 0) (b := 1 + (o + (n - 1)) % 8) (by omega) (by omega) (by omega) q1 hvQ
    have hx158 : x.1 158 = v.1 158 := hxo 158 (by unfold inB; omega)
    obtain ⟨z, hz⟩ : ∃ z, z = up (cpP w n 0 125) 0 1 (nI (n - 1)) := ⟨_, rfl⟩
    have hzo : ∀ j, j ≠ 0 → z.1 j = (cpP w n 0 125).1 j := fun j hj => by rw [hz]; simp only [up_ne _ _ _ _ hj]
    have hz1 : z.1 0 1 = nI (n - 1) := by rw [hz]; simp [up]
    have hzk : ∀ k, k ≠ 1 → z.1 0 k = w.1 0 k := fun k hk => by rw [hz]; simp [up, hk, cpP_ne]
    refine ⟨nI (n - 1), x, z, ?_, ?_, Q, q1, hxC, ?_, ?_, ?_, q4⟩
    · simp only [fX6_undo, fX2_restore, h0]
      rw [show (0 : Int32) = nI 0 from rfl, if_neg (by rw [neq (by omega) (by omega)]; exact hn0), if_neg (by rw [nle (by omega) (by omega)]; omega), nm_k, show nI n - 1 = nI (n - 1) from nsub (a := n) (b := 1) (by omega), ← hv, hv0, hv1, nadd, show (8 : Int32) = nI 8 from rfl, nmod (by omega) (by omega), gd_t (inb_n (by omega) (by omega)), ncl (by omega), hx]
      show some (x.1 158 0, x) = _
      rw [hx158, hv0]
    · simp only [fX7_undo, h2]
      rw [show (0 : Int32) = nI 0 from rfl, if_neg (by rw [neq (by omega) (by omega)]; exact hn0), copies_eq (by omega) (by omega) (by omega)]
      show nm (up (cpP w n 0 125) 0 1 ((cpP w n 0 125).1 0 1 - 1)) (fun u2 => some (u2.1 0 1, u2)) = _
      rw [nm_k, cpP_ne (by omega), h2, show nI n - 1 = nI (n - 1) from nsub (a := n) (b := 1) (by omega), ← hz, hz1]
    · refine MR_of hQ4 (copies_MR (p := n) (q := 0) hQ4 (by rw [show n - 1 + 1 = n by omega] at q3; exact q3)) (fun k hk => by rw [hzo 1 (by omega)])
    · refine ⟨n - 1, o, by omega, ho, by rw [hx158]; exact hv0, by rw [hx158]; exact hv1, hz1, fun k hkn => ?_⟩
      obtain ⟨V, v1, v2, v3, v4⟩ := hk k (by omega)
      have hV4 := v1.2.2.2.2.1
      refine ⟨V, v1, CR_of hV4 v2 (fun j hj => ?_), MR_of hV4 (copies_MRo (p := n) (q := 0) hV4 (by omega) v3) (fun i hi => by rw [hzo 1 (by omega)]), v4⟩
      rw [hxo j (by unfold inB at hj ⊢; omega), hvo j (by unfold inB at hj; omega)]
    · obtain ⟨⟨len, t1, t2, t3, t4, t5⟩, -⟩ := hT
      have c160 : x.1 160 = u.1 160 := by rw [hxo 160 (by unfold inB; omega), hvo 160 (by omega)]
      have c161 : x.1 161 = u.1 161 := by rw [hxo 161 (by unfold inB; omega), hvo 161 (by omega)]
      have c3 : z.1 3 = w.1 3 := by rw [hzo 3 (by omega), cpP_ne (by omega)]
      exact ⟨len, t1, by rw [c160]; exact t2, by rw [hzk 6 (by omega)]; exact t3, fun i hi => by rw [c161, c3]; exact t4 i hi, by rw [c160, hzk 7 (by omega)]; exact t5⟩
