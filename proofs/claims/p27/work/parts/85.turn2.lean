/-! the law's turn -/
theorem and_nonneg (v : Int32) : ¬ (v &&& 2147483647) < 0 := by
  rw [Int32.lt_iff_toInt_lt]
  have h := BitVec.msb_eq_toInt (x := (v &&& 2147483647).toBitVec)
  have h2 : (v &&& 2147483647).toBitVec.msb = false := by
    rw [Int32.toBitVec_and, BitVec.msb_and]
    have : (2147483647 : Int32).toBitVec.msb = false := by decide
    rw [this, Bool.and_false]
  rw [h2] at h
  have h3 := of_decide_eq_false h.symm
  exact h3
theorem low_n (u : S) (v : Int32) {n : Nat} (h1 : 1 ≤ n) (hn : n < 1000) : ∃ x, x < n ∧ fL_low v (nI n) u = some (nI x) := by
  rcases n_or (v &&& 2147483647) with h | ⟨m, hm, h⟩
  · exact absurd h (and_nonneg v)
  · refine ⟨m % n, Nat.mod_lt _ h1, ?_⟩
    simp only [fL_low]
    rw [gd_t (by
      have : ¬ nI n = 0 := by rw [show (0 : Int32) = nI 0 from rfl, neq (by omega) (by omega)]; omega
      simpa using this), h, nmod hm (by omega)]
theorem is0w (z : Nat) : ∃ w, w ≤ 1 ∧ (if nI z = 0 then (some 1 : Option Int32) else some 0) = some (nI w) := by
  by_cases h : nI z = 0
  · exact ⟨1, by omega, by rw [if_pos h]; rfl⟩
  · exact ⟨0, by omega, by rw [if_neg h]; rfl⟩
section C85
variable {P : Bx} {u : S}
theorem room_eq (hW : WF P) (hC : CR u 0 P) {t x y w : Nat} (ht : t < P.1 4) (hw : w ≤ 1) (hx : x < 1000) (hy : y < 1000) :
    (if nI (P.1 0) < nI x + nI (axt P t w) then
(some (0 : Int32))
else
((if nI w = 0 then
(some (1 : Int32))
else
(some (0 : Int32))).bind fun j12 =>
(fL_wide (nI t) j12 u).bind fun q13 =>
(fX6_count 1 u).bind fun q14 =>
(if q14 < (nI y + q13) then
(some (0 : Int32))
else
(some (1 : Int32))).bind fun j15 =>
some (j15 : Int32))) = some (if room P t x y w then 1 else 0) := by
  have hWd := hW.1
  have hLd := hW.2.1
  have ha := axt_le hW ht w
  rw [notw hw, Option.bind_some, c_wide hW hC ht (by omega), axt_not hw, Option.bind_some, c_count1 hC, Option.bind_some, nadd, nadd]
  by_cases h1 : P.1 0 < x + axt P t w
  · rw [if_pos (by rw [nlt (by omega) (by omega)]; exact h1), if_neg (by rintro ⟨a, b⟩; omega)]
  · rw [if_neg (by rw [nlt (by omega) (by omega)]; exact h1)]
    by_cases h2 : P.1 1 < y + ayt P t w
    · rw [if_pos (by rw [nlt (by omega) (by omega)]; exact h2), if_neg (by rintro ⟨a, b⟩; omega)]
      rfl
    · rw [if_neg (by rw [nlt (by omega) (by omega)]; exact h2), if_pos ⟨by omega, by omega⟩]
      rfl
theorem c_turn (hR : RX P u) (hG : GP P) (h1 : 1 ≤ P.1 4) (g : Int32) : ∃ u' Q, fL_turn g u = some (1, u') ∧ RX Q u' ∧ GP Q ∧ Q.1 = P.1 := by
  obtain ⟨hW, hC, hz6, hH⟩ := id hR
  have hn := hW.2.2.2.2.1
  have hWd := hW.1
  have hLd := hW.2.1
  have hDd := hW.2.2.1
  obtain ⟨t, ht, e2⟩ := low_n u g h1 (by omega)
  obtain ⟨x, hx, e4⟩ := low_n u (g >>> (4 &&& 31)) (n := P.1 0) (by omega) (by omega)
  obtain ⟨y, hy, e6⟩ := low_n u (g >>> (7 &&& 31)) (n := P.1 1) (by omega) (by omega)
  obtain ⟨z, hz, e7⟩ := low_n u (g >>> (10 &&& 31)) (n := 3) (by omega) (by omega)
  obtain ⟨w, hw, e8⟩ := is0w z
  obtain ⟨z2, hz2, e34⟩ := low_n u (g >>> (12 &&& 31)) (n := 3) (by omega) (by omega)
  obtain ⟨w2, hw2, e35⟩ := is0w z2
  have h51 := hW.in1 t ht
  obtain ⟨l1, l2, l3, l4⟩ := c_letDown (x := x) (y := y) (w := w) hR ht hw (by omega) (by omega)
  simp only [fL_turn]
  rw [c_count4 hC, Option.bind_some, e2, Option.bind_some, c_count0 hC, Option.bind_some, e4, Option.bind_some, c_count1 hC, Option.bind_some, e6, Option.bind_some, show (3 : Int32) = nI 3 from rfl, e7, Option.bind_some, e8, Option.bind_some, c_wide hW hC ht hw, Option.bind_some, Option.bind_some]
  have hre := room_eq hW hC (x := x) (y := y) ht hw (by omega) (by omega)
  rw [c_count1 hC] at hre
  rw [hre, Option.bind_some, c_t5 hW hC ht, Option.bind_some]
  rcases (show P.2 t 5 = 0 ∨ P.2 t 5 = 1 by omega) with h5 | h5
  · -- out
    have hfl := flr_le hW (x := x) (y := y) (w := w) ht
    rw [h5, if_neg (show ¬ nI 0 = 1 by decide), c_canLie hW hC ht hw (by omega) (by omega), Option.bind_some]
    by_cases hr : room P t x y w
    · rw [if_pos hr, if_neg (show ¬ (1 : Int32) = 0 by decide), c_look hW hC ht hw hr.1 hr.2, Option.bind_some, Option.bind_some, show (1000 : Int32) = nI 1000 from rfl, nmod (by omega) (by omega), show (1000 * (flr P t x y w).2 + (flr P t x y w).1) % 1000 = (flr P t x y w).1 by omega]
      by_cases hf : fits P t x y w = true
      · obtain ⟨u', k1, k2⟩ := l4 hr h5 hf
        have ht' : t < (plc P t x y w).1 4 := ht
        have a7 := c_i7 k2.1 k2.2.1 ht' plc_5
        have a8 := c_i8 k2.1 k2.2.1 ht' plc_5
        have a9 := c_i9 k2.1 k2.2.1 ht' plc_5
        rw [plc_7] at a7
        rw [plc_8] at a8
        rw [plc_9] at a9
        rw [if_pos hf, k1, Option.bind_some]
        simp only [eq_false (show ¬ (1 : Int32) = 0 by decide), if_false, Option.bind_some, a7, a8, a9, if_true]
        exact ⟨u', _, rfl, k2, GP_plc hW hG ht h5 hr, rfl⟩
      · rw [Bool.not_eq_true] at hf
        obtain ⟨u', k1, k2⟩ := l3 hr h5 hf
        rw [hf, k1]
        exact ⟨u', P, rfl, k2.RX hR, hG, rfl⟩
    · have hf : fits P t x y w = false := by
        simp only [fits, Bool.and_eq_false_iff, decide_eq_false_iff_not]
        exact Or.inl hr
      rw [if_neg hr, if_pos rfl, Option.bind_some, hf, l1 hr]
      exact ⟨u, P, rfl, hR, hG, rfl⟩
  · -- in
    rw [h5, if_pos (show nI 1 = 1 from rfl), c_i9 hW hC ht h5, Option.bind_some, c_i13 hW hC ht h5, Option.bind_some, show (if nI (if ab P t = 0 then 1 else 0) = 1 then (some 1 : Option Int32) else some 0) = some (if ab P t = 0 then 1 else 0) from (by
      by_cases hz : ab P t = 0
      · rw [if_pos hz, if_pos hz]; rfl
      · rw [if_neg hz, if_neg hz]; rfl), Option.bind_some, e34, Option.bind_some, e35, Option.bind_some]
    rcases (show w2 = 0 ∨ w2 = 1 by omega) with rfl | rfl
    · by_cases hr : room P t x y w
      · rw [if_pos hr, l2 hr h5]
        refine ⟨u, P, ?_, hR, hG, rfl⟩
        by_cases hz : ab P t = 0
        · rw [if_pos hz]; rfl
        · rw [if_neg hz]; rfl
      · rw [if_neg hr, l1 hr]
        refine ⟨u, P, ?_, hR, hG, rfl⟩
        by_cases hz : ab P t = 0
        · rw [if_pos hz]; rfl
        · rw [if_neg hz]; rfl
    · obtain ⟨o1, o2⟩ := c_takeOut hR ht h5
      by_cases hz : ab P t = 0
      · obtain ⟨u', k1, k2⟩ := o2 hz
        rw [if_pos hz, k1]
        refine ⟨u', _, ?_, k2, GP_out hn hG h5 hz, rfl⟩
        show ((if nI (P.2 t 9) = nI (P.2 t 9) then some (1 : Int32) else some 0).bind fun j42 => some (j42, u')).bind _ = _
        rw [if_pos rfl]
        rfl
      · rw [if_neg hz, o1 hz]
        exact ⟨u, P, rfl, hR, hG, rfl⟩
end C85
