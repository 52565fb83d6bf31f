def MX (u u' : S) : Prop := (∀ j, ¬ inB 0 j → ¬ scrC j → j ≠ 160 → u'.1 j = u.1 j) ∧ u'.1 160 0 = u.1 160 0 ∧ u'.1 160 1 = u.1 160 1
def MM (w w' : S) : Prop := (∀ k, 125 ≤ k → k < 1125 → w'.1 1 k = w.1 1 k) ∧ w'.1 3 = w.1 3 ∧ w'.1 0 1 = w.1 0 1 ∧ w'.1 0 6 = w.1 0 6 ∧ w'.1 0 7 = w.1 0 7
theorem MX.refl (u : S) : MX u u := ⟨fun _ _ _ _ => rfl, rfl, rfl⟩
theorem MX.trans {u v x : S} (h1 : MX u v) (h2 : MX v x) : MX u x := ⟨fun j a b c => (h2.1 j a b c).trans (h1.1 j a b c), h2.2.1.trans h1.2.1, h2.2.2.trans h1.2.2⟩
theorem MM.refl (w : S) : MM w w := ⟨fun _ _ _ => rfl, rfl, rfl, rfl, rfl⟩
theorem MM.trans {u v x : S} (h1 : MM u v) (h2 : MM v x) : MM u x := ⟨fun k a b => (h2.1 k a b).trans (h1.1 k a b), h2.2.1.trans h1.2.1, h2.2.2.1.trans h1.2.2.1, h2.2.2.2.1.trans h1.2.2.2.1, h2.2.2.2.2.trans h1.2.2.2.2⟩
theorem SX.MX {u u' : S} (h : SX u u') : MX u u' := ⟨fun j _ b c => h.1 j b c, h.2⟩
theorem SM.MM {u u' : S} (h : SM u u') : MM u u' := ⟨fun k _ b => h.1 k b, h.2⟩
theorem RR.mod {P Q : Bx} {u u' w w' : S} (h : RR P u w) (hW : WF Q) (hC : CR u' 0 Q) (hM : MR w' 0 Q) (h1 : MX u u') (h2 : MM w w') (hz : Z6 Q) : RR Q u' w' := by
  obtain ⟨-, -, -, ⟨n, o, hn, ho, a, b, c, d⟩, ⟨len, t1, t2, t3, t4, t5⟩, -⟩ := h
  have e : u'.1 158 = u.1 158 := h1.1 158 (by unfold inB; omega) (by unfold scrC; omega) (by omega)
  have e1 : u'.1 161 = u.1 161 := h1.1 161 (by unfold inB; omega) (by unfold scrC; omega) (by omega)
  refine ⟨hW, hC, hM, ⟨n, o, hn, ho, by rw [e]; exact a, by rw [e]; exact b, by rw [h2.2.2.1]; exact c, fun k hk => ?_⟩, ⟨len, t1, by rw [h1.2.1]; exact t2, by rw [h2.2.2.2.1]; exact t3, fun i hi => by rw [e1, h2.2.1]; exact t4 i hi, by rw [h1.2.2, h2.2.2.2.2]; exact t5⟩, hz⟩
  obtain ⟨V, p1, p2, p3, p4⟩ := d k hk
  have hV := p1.2.2.2.2.1
  refine ⟨V, p1, CR_of hV p2 (fun j hj => h1.1 j ?_ ?_ ?_), MR_of hV p3 (fun i hi => h2.1 _ (by omega) (by omega)), p4⟩
  · unfold inB at hj ⊢; omega
  · unfold inB at hj; unfold scrC; omega
  · unfold inB at hj; omega
theorem keptX.MX {u u' : S} (h : keptX u u') : u'.1 160 = u.1 160 := h 160 (by omega)
/-! sets of trays -/
def msk (f : Nat → Bool) : Nat → Nat
  | 0 => 0
  | n + 1 => msk f n ||| (if f n then 2 ^ n else 0)
theorem msk_bit (f : Nat → Bool) (i : Nat) : ∀ n, (msk f n).testBit i = (decide (i < n) && f i) := by
  intro n
  induction n with
  | zero => simp [msk]
  | succ n ih =>
    rw [msk, Nat.testBit_or, ih]
    by_cases hf : f n = true
    · rw [if_pos hf, Nat.testBit_two_pow]
      by_cases hi : i = n
      · subst hi
        simp [hf]
      · have : ¬ n = i := fun h => hi h.symm
        by_cases h2 : i < n
        · simp [h2, this, Nat.lt_succ_of_lt h2]
        · simp [h2, this, show ¬ i < n + 1 by omega]
    · rw [if_neg hf]
      by_cases hi : i = n
      · subst hi
        simp [hf]
      · by_cases h2 : i < n
        · simp [h2, Nat.lt_succ_of_lt h2]
        · simp [h2, show ¬ i < n + 1 by omega]
theorem lt_of_bits {m n : Nat} (h : ∀ i, m.testBit i = true → i < n) : m < 2 ^ n := by
  refine Nat.lt_pow_two_of_testBit m (fun i hi => ?_)
  by_cases hb : m.testBit i = true
  · have := h i hb
    omega
  · simpa using hb
theorem msk_lt (f : Nat → Bool) (n : Nat) : msk f n < 2 ^ n := lt_of_bits (fun i h => by
  rw [msk_bit] at h
  simp at h
  exact h.1)
theorem msk_lt12 (f : Nat → Bool) {n : Nat} (hn : n ≤ 12) : msk f n < 4096 := Nat.lt_of_lt_of_le (msk_lt f n) (Nat.pow_le_pow_right (by omega) hn)
theorem ct_split {f : Nat → Bool} {n m : Nat} (hn : n ≤ m) : fb_ct (fun i => decide (i < n) && f i) m = fb_ct f n := by
  obtain ⟨k, rfl⟩ : ∃ k, m = n + k := ⟨m - n, by omega⟩
  rw [fb_ct_split]
  have h1 : fb_ct (fun i => decide (i < n) && f i) n = fb_ct f n := fb_ct_cong (fun i hi => by simp [hi])
  have h2 : fb_ct (fun i => decide (n + i < n) && f (n + i)) k = 0 := fb_ct_zero.mpr (fun i _ => by
    have : ¬ n + i < n := by omega
    simp [this])
  rw [h1, h2, Nat.add_zero]
theorem pc_msk (f : Nat → Bool) {n : Nat} (hn : n ≤ 12) : pc (msk f n) = fb_ct f n := by
  unfold pc
  rw [fb_ct_cong (q := fun i => decide (i < n) && f i) (fun i _ => msk_bit f i n)]
  exact ct_split hn
theorem sh1 : ∀ i, i < 31 → (1 : Int32) <<< (nI i &&& 31) = nI (2 ^ i) := by decide +kernel
theorem bset {m i : Nat} (hi : i < 31) : nI m ||| ((1 : Int32) <<< (nI i &&& 31)) = nI (m ||| 2 ^ i) := by rw [sh1 i hi, fa_or]
theorem bget {m i : Nat} (hi : i < 31) : (nI m &&& ((1 : Int32) <<< (nI i &&& 31)) = 0) ↔ m.testBit i = false := by rw [sh1 i hi]; exact fa_bit hi
theorem inB_m {P : Bx} : True := trivial
/-! what the class's box tells -/
theorem inside_eq {u : S} {b : Nat} {P : Bx} (hn : P.1 4 ≤ 12) (h : CR u b P) (h5 : ∀ i, i < P.1 4 → P.2 i 5 ≤ 1) : fX0_inside b u = some (nI (msk (fun i => P.2 i 5 == 1) (P.1 4))) := by
  have hl := lp_for (step := gX0_inside_4 b u) (fun i => (nI (msk (fun i => P.2 i 5 == 1) i), nI i)) (P.1 4) (b := (nI (msk (fun i => P.2 i 5 == 1) (P.1 4)), nI (P.1 4))) (by omega) (fun i hi => ?_) ?_
  · simp only [fX0_inside]
    rw [show ((0 : Int32), (0 : Int32)) = (nI (msk (fun i => P.2 i 5 == 1) 0), nI 0) from rfl, hl]
    rfl
  · simp only [gX0_inside_4, h.1 4 (by omega)]
    rw [if_neg (by rw [nle (by omega) (by omega)]; omega), gd_t (inb_n (by omega) (by omega)), ncl (by omega), (h.2 i hi).1 5 (by omega), show nI i + 1 = nI (i + 1) from nadd i 1]
    have h51 := h5 i hi
    rcases (show P.2 i 5 = 0 ∨ P.2 i 5 = 1 by omega) with h0 | h0
    · rw [h0, if_pos nI_0]
      simp [msk, h0]
    · rw [h0, if_neg (by decide), bset (by omega)]
      simp [msk, h0]
  · simp only [gX0_inside_4, h.1 4 (by omega)]
    rw [if_pos (by rw [nle (by omega) (by omega)]; omega)]
def inC (P : Bx) : Nat := fb_ct (fun i => P.2 i 5 == 1) (P.1 4)
theorem inC_le {P : Bx} : inC P ≤ P.1 4 := fb_ct_le _ _
theorem WF.in1 {P : Bx} (h : WF P) : ∀ i, i < P.1 4 → P.2 i 5 ≤ 1 := fun i hi => (h.2.2.2.2.2.1 i hi).2.2.2.2.2.1
theorem inside_bc {u : S} {b : Nat} {P : Bx} (hW : WF P) (h : CR u b P) : ∃ m, fX0_inside b u = some (nI m) ∧ m < 4096 ∧ (∀ i, m.testBit i = (decide (i < P.1 4) && (P.2 i 5 == 1))) ∧ ∀ v : S, fJ6_bitCount_0f7a4 (nI m) v = some (nI (inC P)) :=
  ⟨_, inside_eq hW.2.2.2.2.1 h hW.in1, msk_lt12 _ hW.2.2.2.2.1, fun i => msk_bit _ i _, fun v => by rw [bc_pc _ (msk_lt12 _ hW.2.2.2.2.1), pc_msk _ hW.2.2.2.2.1]; rfl⟩
def clX (u : S) (b i : Nat) : S := (fun j k => if (12 * b ≤ j ∧ j < 12 * b + i) ∧ (k = 5 ∨ k = 6) then 0 else u.1 j k, u.2)
theorem leave_eq (u : S) (j : Nat) : fX5_leave j u = some (up (up u j 5 0) j 6 0) := rfl
theorem clear_eq {u : S} {b n : Nat} (hb : b < 11) (hn : n ≤ 12) (h4 : u.1 (132 + b) 4 = nI n) : fX0_clear b u = some (clX u b n) := by
  have h0 : clX u b 0 = u := by
    apply Prod.ext
    · funext j k
      simp only [clX]
      rw [if_neg (by omega)]
    · rfl
  have e4 : ∀ i, i ≤ 12 → (clX u b i).1 (132 + b) 4 = nI n := fun i hi => by
    simp only [clX]
    rw [if_neg (by omega)]
    exact h4
  have hl := lp_for (step := gX0_clear_2 b) (fun i => (nI i, clX u b i)) n (b := (nI n, clX u b n)) (by omega) (fun i hi => ?_) ?_
  · simp only [fX0_clear]
    rw [show ((0 : Int32), u) = (nI 0, clX u b 0) by rw [h0]; rfl, hl]
    rfl
  · simp only [gX0_clear_2, e4 i (by omega)]
    rw [if_neg (by rw [nle (by omega) (by omega)]; omega), gd_t (inb_n (by omega) (by omega)), ncl (by omega), leave_eq, show nI i + 1 = nI (i + 1) from nadd i 1]
    show some (Sum.inr (nI (i + 1), up (up (clX u b i) (12 * b + i) 5 0) (12 * b + i) 6 0)) = _
    congr 3
    apply Prod.ext
    · funext j k
      simp only [up, clX]
      by_cases h1 : j = 12 * b + i ∧ k = 6
      · rw [if_pos h1, if_pos (by omega)]
      · rw [if_neg h1]
        by_cases h2 : j = 12 * b + i ∧ k = 5
        · rw [if_pos h2, if_pos (by omega)]
        · rw [if_neg h2]
          by_cases h3 : (12 * b ≤ j ∧ j < 12 * b + i) ∧ (k = 5 ∨ k = 6)
          · rw [if_pos h3, if_pos (by omega)]
          · rw [if_neg h3, if_neg (by omega)]
    · rfl
  · simp only [gX0_clear_2, e4 n (by omega)]
    rw [if_pos (by rw [nle (by omega) (by omega)]; omega)]
/-- P with all trays out -/
def emp (P : Bx) : Bx := (P.1, fun i k => if 5 ≤ k then 0 else P.2 i k)
theorem emp_WF {P : Bx} (h : WF P) : WF (emp P) := by
  refine ⟨h.1, h.2.1, h.2.2.1, h.2.2.2.1, h.2.2.2.2.1, fun i hi => ?_, fun i j hi hj _ h5 => ?_⟩
  · have := h.2.2.2.2.2.1 i hi
    unfold WT at this ⊢
    simp only [emp]
    simp
    omega
  · simp [emp] at h5
theorem clear_CR {u : S} {b : Nat} {P : Bx} (hb : b < 11) (hn : P.1 4 ≤ 12) (h : CR u b P) : CR (clX u b (P.1 4)) b (emp P) := by
  refine ⟨fun k hk => ?_, fun i hi => ⟨fun k hk => ?_, fun h5 => ?_⟩⟩
  · simp only [clX]
    rw [if_neg (by omega)]
    exact h.1 k hk
  · have hi : i < P.1 4 := hi
    simp only [clX, emp]
    by_cases h5 : 5 ≤ k
    · rw [if_pos (by omega), if_pos h5]
      rfl
    · rw [if_neg (by omega), if_neg h5]
      exact (h.2 i hi).1 k hk
  · simp [emp] at h5
theorem clX_out {u : S} {b i j : Nat} (hi : i ≤ 12) (hj : ¬ inB b j) : (clX u b i).1 j = u.1 j := by
  funext k
  unfold inB at hj
  simp only [clX]
  rw [if_neg (by omega)]
/-! what the reference's page tells -/
theorem of_at {w : S} {v1 v2 : Int32} {i k : Nat} (h1 : v1 = nI i) (h2 : v2 = nI k) (h : 5 + 10 * i + k < 1375) : fX7_of v1 v2 w = some (w.1 1 (5 + 10 * i + k)) := by
  subst h1; subst h2
  have e : (5 + (10 * nI i)) + nI k = nI (5 + 10 * i + k) := by rw [show (5 : Int32) = nI 5 from rfl, show (10 : Int32) = nI 10 from rfl, nmul, nadd, nadd]
  simp only [fX7_of, e]
  rw [gd_t (inb_n h (by omega)), ncl (by omega)]
theorem sets_at {w : S} {v1 v2 v3 : Int32} {i k : Nat} (h1 : v1 = nI i) (h2 : v2 = nI k) (h : 5 + 10 * i + k < 1375) : fX7_sets v1 v2 v3 w = some (up w 1 (5 + 10 * i + k) v3) := by
  subst h1; subst h2
  have e : (5 + (10 * nI i)) + nI k = nI (5 + 10 * i + k) := by rw [show (5 : Int32) = nI 5 from rfl, show (10 : Int32) = nI 10 from rfl, nmul, nadd, nadd]
  simp only [fX7_sets, e]
  rw [gd_t (inb_n h (by omega)), ncl (by omega), nm_k]
theorem MR.of {w : S} {P : Bx} (hn : P.1 4 ≤ 12) (h : MR w 0 P) {v1 v2 : Int32} {i k : Nat} (h1 : v1 = nI i) (h2 : v2 = nI k) (hi : i < P.1 4) (hk : k < 10) : fX7_of v1 v2 w = some (nI (P.2 i k)) := by
  rw [of_at h1 h2 (by omega)]
  have := h.2 i k hi hk
  rw [show 125 * 0 + (5 + 10 * i + k) = 5 + 10 * i + k by omega] at this
  rw [this]
theorem MR.at {w : S} {P : Bx} (h : MR w 0 P) {k : Nat} (hk : k < 5) : w.1 1 k = nI (P.1 k) := by
  have := h.1 k hk
  rwa [show 125 * 0 + k = k by omega] at this
theorem MR.n {w : S} {P : Bx} (h : MR w 0 P) : fX7_trays w = some (nI (P.1 4)) := by
  simp only [fX7_trays]
  rw [gd_t (by decide), show (4 : Int32).toNatClampNeg = 4 from rfl, h.at (by omega)]
theorem MR.isIn {w : S} {P : Bx} (hW : WF P) (h : MR w 0 P) {v : Int32} {i : Nat} (hv : v = nI i) (hi : i < P.1 4) : fX7_isIn v w = some (if P.2 i 5 = 1 then 1 else 0) := by
  have h51 := hW.in1 i hi
  simp only [fX7_isIn]
  rw [h.of hW.2.2.2.2.1 hv (show (5 : Int32) = nI 5 from rfl) hi (by omega)]
  rcases (show P.2 i 5 = 0 ∨ P.2 i 5 = 1 by omega) with h0 | h0 <;> rw [h0] <;> rfl
def lvW (w : S) (i m : Nat) : S := (fun j k => if j = 1 ∧ 5 + 10 * i + 5 ≤ k ∧ k < 5 + 10 * i + m then 0 else w.1 j k, w.2)
theorem leaves_eq {w : S} {v : Int32} {i : Nat} (hv : v = nI i) (hi : i ≤ 12) : fX7_leaves v w = some (lvW w i 10) := by
  subst hv
  have h0 : lvW w i 5 = w := by
    apply Prod.ext
    · funext j k
      simp only [lvW]
      rw [if_neg (by omega)]
    · rfl
  have hl := lp_for (step := gX7_leaves_2 (nI i)) (fun m => (nI (5 + m), lvW w i (5 + m))) 5 (b := (nI 10, lvW w i 10)) (by omega) (fun m hm => ?_) ?_
  · simp only [fX7_leaves]
    rw [show ((5 : Int32), w) = (nI (5 + 0), lvW w i (5 + 0)) by rw [show 5 + 0 = 5 from rfl, h0]; rfl, hl]
    rfl
  · simp only [gX7_leaves_2]
    rw [show (10 : Int32) = nI 10 from rfl, if_neg (by rw [nle (by omega) (by omega)]; omega), sets_at (i := i) (k := 5 + m) rfl rfl (by omega), show nI (5 + m) + 1 = nI (5 + (m + 1)) from nadd (5 + m) 1]
    show some (Sum.inr (nI (5 + (m + 1)), up (lvW w i (5 + m)) 1 (5 + 10 * i + (5 + m)) 0)) = _
    congr 3
    apply Prod.ext
    · funext j k
      simp only [up, lvW]
      by_cases h1 : j = 1 ∧ k = 5 + 10 * i + (5 + m)
      · rw [if_pos h1, if_pos (by omega)]
      · rw [if_neg h1]
        by_cases h2 : j = 1 ∧ 5 + 10 * i + 5 ≤ k ∧ k < 5 + 10 * i + (5 + m)
        · rw [if_pos h2, if_pos (by omega)]
        · rw [if_neg h2, if_neg (by omega)]
    · rfl
  · simp only [gX7_leaves_2]
    rw [if_pos (by decide)]
def emW (w : S) (i : Nat) : S := (fun j k => if j = 1 ∧ 5 ≤ k ∧ k < 5 + 10 * i ∧ 5 ≤ (k - 5) % 10 then 0 else w.1 j k, w.2)
theorem empties_eq {w : S} {P : Bx} (hn : P.1 4 ≤ 12) (h : MR w 0 P) : fX7_empties w = some (emW w (P.1 4)) := by
  have h0 : emW w 0 = w := by
    apply Prod.ext
    · funext j k
      simp only [emW]
      rw [if_neg (by omega)]
    · rfl
  have e4 : ∀ i, fX7_trays (emW w i) = some (nI (P.1 4)) := fun i => by
    simp only [fX7_trays]
    rw [gd_t (by decide), show (4 : Int32).toNatClampNeg = 4 from rfl]
    have : (emW w i).1 1 4 = w.1 1 4 := by
      simp only [emW]
      rw [if_neg (by omega)]
    rw [this, h.at (by omega)]
  have hl := lp_for (step := gX7_empties_2) (fun i => (nI i, emW w i)) (P.1 4) (b := (nI (P.1 4), emW w (P.1 4))) (by omega) (fun i hi => ?_) ?_
  · simp only [fX7_empties]
    rw [show ((0 : Int32), w) = (nI 0, emW w 0) by rw [h0]; rfl, hl]
    rfl
  · simp only [gX7_empties_2, e4 i, Option.bind_some]
    rw [if_neg (by rw [nle (by omega) (by omega)]; omega), leaves_eq rfl (by omega), show nI i + 1 = nI (i + 1) from nadd i 1]
    show some (Sum.inr (nI (i + 1), lvW (emW w i) i 10)) = _
    congr 3
    apply Prod.ext
    · funext j k
      simp only [lvW, emW]
      by_cases h1 : j = 1 ∧ 5 + 10 * i + 5 ≤ k ∧ k < 5 + 10 * i + 10
      · rw [if_pos h1, if_pos (by omega)]
      · rw [if_neg h1]
        by_cases h2 : j = 1 ∧ 5 ≤ k ∧ k < 5 + 10 * i ∧ 5 ≤ (k - 5) % 10
        · rw [if_pos h2, if_pos (by omega)]
        · rw [if_neg h2, if_neg (by omega)]
    · rfl
  · simp only [gX7_empties_2, e4 (P.1 4), Option.bind_some]
    rw [if_pos (by rw [nle (by omega) (by omega)]; omega)]
theorem empties_MR {w : S} {P : Bx} (hn : P.1 4 ≤ 12) (h : MR w 0 P) : MR (emW w (P.1 4)) 0 (emp P) := by
  refine ⟨fun k hk => ?_, fun i k hi hk => ?_⟩
  · simp only [emW]
    rw [if_neg (by omega)]
    exact h.1 k hk
  · have hi : i < P.1 4 := hi
    have h0 := h.2 i k hi hk
    rw [show 125 * 0 + (5 + 10 * i + k) = 5 + 10 * i + k by omega] at h0 ⊢
    simp only [emW, emp]
    by_cases h5 : 5 ≤ k
    · rw [if_pos ⟨trivial, by omega, by omega, by omega⟩, if_pos h5]
      rfl
    · rw [if_neg (by omega), if_neg h5]
      exact h0
theorem inBox_eq {w : S} {P : Bx} (hW : WF P) (h : MR w 0 P) : fX7_inBox w = some (nI (inC P)) := by
  have hn := hW.2.2.2.2.1
  have hl := lp_for (step := gX7_inBox_4 w) (fun i => (nI (fb_ct (fun i => P.2 i 5 == 1) i), nI i)) (P.1 4) (b := (nI (inC P), nI (P.1 4))) (by omega) (fun i hi => ?_) ?_
  · simp only [fX7_inBox]
    rw [show ((0 : Int32), (0 : Int32)) = (nI (fb_ct (fun i => P.2 i 5 == 1) 0), nI 0) from rfl, hl]
    rfl
  · simp only [gX7_inBox_4, h.n, Option.bind_some]
    rw [if_neg (by rw [nle (by omega) (by omega)]; omega), h.of hn rfl (show (5 : Int32) = nI 5 from rfl) hi (by omega), show nI i + 1 = nI (i + 1) from nadd i 1]
    have h51 := hW.in1 i hi
    show some (Sum.inr (nI (fb_ct (fun i => P.2 i 5 == 1) i) + nI (P.2 i 5), nI (i + 1))) = _
    rw [nadd, fb_ct_succ]
    rcases (show P.2 i 5 = 0 ∨ P.2 i 5 = 1 by omega) with h0 | h0 <;> simp [h0]
  · simp only [gX7_inBox_4, h.n, Option.bind_some]
    rw [if_pos (by rw [nle (by omega) (by omega)]; omega)]
    rfl
