/-! p27: the class alone, in values of a box P -/
theorem isW1 {x a b : Nat} (u : S) (h1 : a ≤ x) (h2 : x ≤ b) (hb : b < 2147483648) : fX6_isWithin (nI x) (nI a) (nI b) u = some 1 := by
  simp only [fX6_isWithin]
  rw [if_neg (by rw [nlt (by omega) (by omega)]; omega), if_neg (by rw [nlt (by omega) (by omega)]; omega)]
theorem isW0 {x a b : Nat} (u : S) (h : x < a ∨ b < x) (hx : x < 2147483648) (ha : a < 2147483648) (hb : b < 2147483648) : fX6_isWithin (nI x) (nI a) (nI b) u = some 0 := by
  simp only [fX6_isWithin]
  by_cases h1 : x < a
  · rw [if_pos (by rw [nlt hx ha]; exact h1)]
  · rw [if_neg (by rw [nlt hx ha]; exact h1), if_pos (by rw [nlt hb hx]; omega)]
section C80
variable {P : Bx} {u : S}
theorem c_k (hC : CR u 0 P) {k : Nat} (hk : k < 5) : u.1 (132 + 0) k = nI (P.1 k) := hC.1 k hk
theorem c_count0 (hC : CR u 0 P) : fX6_count 0 u = some (nI (P.1 0)) := by
  rw [show fX6_count 0 u = some (u.1 (132 + 0) 0) from rfl, c_k hC (by omega)]
theorem c_count1 (hC : CR u 0 P) : fX6_count 1 u = some (nI (P.1 1)) := by
  rw [show fX6_count 1 u = some (u.1 (132 + 0) 1) from rfl, c_k hC (by omega)]
theorem c_count2 (hC : CR u 0 P) : fX6_count 2 u = some (nI (P.1 2)) := by
  rw [show fX6_count 2 u = some (u.1 (132 + 0) 2) from rfl, c_k hC (by omega)]
theorem c_count3 (hC : CR u 0 P) : fX6_count 3 u = some (nI (P.1 3)) := by
  rw [show fX6_count 3 u = some (u.1 (132 + 0) 3) from rfl, c_k hC (by omega)]
theorem c_count4 (hC : CR u 0 P) : fX6_count 4 u = some (nI (P.1 4)) := by
  rw [show fX6_count 4 u = some (u.1 (132 + 0) 4) from rfl, c_k hC (by omega)]
theorem c_count5 (hW : WF P) (hC : CR u 0 P) : fX6_count 5 u = some (nI (inC P)) := by
  obtain ⟨m, i1, i2, i3, i4⟩ := inside_bc hW hC
  rw [show fX6_count 5 u = (fX0_inside 0 u).bind fun q1 => (fJ6_bitCount_0f7a4 q1 u).bind fun q2 => some q2 from rfl, i1, Option.bind_some, i4, Option.bind_some]
theorem c_count6 (hW : WF P) (hC : CR u 0 P) : fX6_count 6 u = some (nI (FR P (P.1 4))) := by
  rw [show fX6_count 6 u = (fX0_freeTrays 0 u).bind fun q1 => some q1 from rfl, freeTrays_eq hW hC, Option.bind_some]
theorem c_count7 (hW : WF P) (hC : CR u 0 P) : fX6_count 7 u = some (nI (HT P)) := by
  rw [show fX6_count 7 u = (fX0_filledHeight 0 u).bind fun q1 => some q1 from rfl, height_eq hW hC, Option.bind_some]
theorem c_count8 (hW : WF P) (hC : CR u 0 P) : fX6_count 8 u = some (AR P) := by
  rw [show fX6_count 8 u = (fX0_air 0 u).bind fun q1 => some q1 from rfl, air_eq hW hC, Option.bind_some]
theorem c_count9 (hW : WF P) (hC : CR u 0 P) : fX6_count 9 u = some (nI (FS P (P.1 4))) := by
  rw [show fX6_count 9 u = (fX0_faults 0 u).bind fun q1 => some q1 from rfl, faults_eq hW hC, Option.bind_some]
theorem c_count10 (hW : WF P) (hC : CR u 0 P) : fX6_count 10 u = some (nI (LfS P (P.1 4))) := by
  rw [show fX6_count 10 u = (fX0_lifts 0 u).bind fun q1 => some q1 from rfl, lifts_eq hW hC, Option.bind_some]
/-- what tray(t, x) answers -/
noncomputable def trN (P : Bx) (i x : Nat) : Nat := if x = 7 then P.2 i 7 else if x = 8 then P.2 i 8 else if x = 9 then P.2 i 9 else if x = 10 then tp P i else if x = 11 then pc (ab P i) else if x = 12 then fl P i else if x = 13 then (if ab P i = 0 then 1 else 0) else if x = 14 then ab P i else rs P i
noncomputable def trV (P : Bx) (i x : Nat) : Int32 := if x ≤ 6 then nI (P.2 i x) else if P.2 i 5 = 1 then nI (trN P i x) else -9
theorem c_tray (hW : WF P) (hC : CR u 0 P) {i x : Nat} (hi : i < P.1 4) (hx : x ≤ 15) : fX6_tray (nI i) (nI x) u = some (trV P i x) := by
  have hn := hW.2.2.2.2.1
  have h51 := hW.in1 i hi
  have c7 := (hC.2 i hi).1
  have ge : ∀ v : Option Int32, gd (inb (nI i) 12) v = v := fun v => gd_t (inb_n (by omega) (by omega))
  simp only [fX6_tray]
  rw [has_n hn hC hi, Option.bind_some, if_neg (show ¬ (1 : Int32) = 0 by decide), show fX6_isWithin (nI x) 0 15 u = some 1 from isW1 (a := 0) (b := 15) u (by omega) hx (by omega), Option.bind_some, if_neg (show ¬ (1 : Int32) = 0 by decide)]
  simp only [ge, ncl (show i < 2147483648 by omega)]
  by_cases hx7 : 7 ≤ x
  · have q7 : (7 : Int32) ≤ nI x := by rw [show (7 : Int32) = nI 7 from rfl, nle (by omega) (by omega)]; exact hx7
    rw [if_pos q7, c7 5 (by omega)]
    have h6 : ¬ x ≤ 6 := by omega
    rcases (show P.2 i 5 = 0 ∨ P.2 i 5 = 1 by omega) with h5 | h5
    · rw [h5, if_pos nI_0, trV, if_neg h6, if_neg (by omega)]
    · obtain ⟨e7, e8, e9, e10, e11, e12, e13⟩ := (hC.2 i hi).2 h5
      obtain ⟨m, i1, i2, i3, i4⟩ := inside_bc hW hC
      have hab := above_ab hW hC i2 i3 hi
      rw [h5, if_neg (by decide), trV, if_neg h6, if_pos h5]
      simp only [fX6_placedProperty, ge, ncl (show i < 2147483648 by omega), e7, e8, e11, e12, e13, i1, Option.bind_some, hab, bc_pc _ ab_lt, faultOf_eq hW hC hi, isFree_eq hW hC hi]
      rcases (show x = 7 ∨ x = 8 ∨ x = 9 ∨ x = 10 ∨ x = 11 ∨ x = 12 ∨ x = 13 ∨ x = 14 ∨ x = 15 by omega) with rfl | rfl | rfl | rfl | rfl | rfl | rfl | rfl | rfl
      · rfl
      · rfl
      · rfl
      · rfl
      · rfl
      · rfl
      · show ((if (if msk (fun k => lo P k i) (P.1 4) = 0 then (1 : Int32) else 0) = 0 then some (0 : Int32) else some 1).bind fun q => some q) = some (nI (if ab P i = 0 then 1 else 0))
        by_cases hz : ab P i = 0
        · rw [if_pos ((am_zero hn).mp hz), if_neg (by decide), if_pos hz]
          rfl
        · rw [if_neg (fun q => hz ((am_zero hn).mpr q)), if_pos rfl, if_neg hz]
          rfl
      · rfl
      · rfl
  · rw [if_neg (by rw [show (7 : Int32) = nI 7 from rfl, nle (by omega) (by omega)]; omega), trV, if_pos (by omega)]
    have h6 := (hW.2.2.2.2.2.1 i hi).2.2.2.2.2.2.1
    simp only [fX5_property]
    rcases (show x = 0 ∨ x = 1 ∨ x = 2 ∨ x = 3 ∨ x = 4 ∨ x = 5 ∨ x = 6 by omega) with rfl | rfl | rfl | rfl | rfl | rfl | rfl
    · rw [if_pos (by rfl), c7 0 (by omega)]; rfl
    · rw [if_neg (by decide), if_pos (by rfl), c7 1 (by omega)]; rfl
    · rw [if_neg (by decide), if_neg (by decide), if_pos (by rfl), c7 2 (by omega)]; rfl
    · rw [if_neg (by decide), if_neg (by decide), if_neg (by decide), if_pos (by rfl), c7 3 (by omega)]; rfl
    · rw [if_neg (by decide), if_neg (by decide), if_neg (by decide), if_neg (by decide), if_pos (by rfl), c7 4 (by omega)]; rfl
    · rw [if_neg (show ¬ nI 5 = 0 by decide), if_neg (show ¬ nI 5 = 1 by decide), if_neg (show ¬ nI 5 = 2 by decide), if_neg (show ¬ nI 5 = 3 by decide), if_neg (show ¬ nI 5 = 4 by decide), if_pos (show nI 5 = 5 from rfl), c7 5 (by omega)]
      rcases (show P.2 i 5 = 0 ∨ P.2 i 5 = 1 by omega) with h5 | h5 <;> rw [h5] <;> rfl
    · rw [if_neg (show ¬ nI 6 = 0 by decide), if_neg (show ¬ nI 6 = 1 by decide), if_neg (show ¬ nI 6 = 2 by decide), if_neg (show ¬ nI 6 = 3 by decide), if_neg (show ¬ nI 6 = 4 by decide), if_neg (show ¬ nI 6 = 5 by decide), c7 6 (by omega)]
      rcases (show P.2 i 6 = 0 ∨ P.2 i 6 = 1 by omega) with h5 | h5 <;> rw [h5] <;> rfl
theorem c_trayk (hW : WF P) (hC : CR u 0 P) {i x : Nat} {k : Int32} (hk : k = nI x) (hi : i < P.1 4) (hx : x ≤ 6) : fX6_tray (nI i) k u = some (nI (P.2 i x)) := by
  rw [hk, c_tray hW hC hi (by omega), trV, if_pos hx]
theorem c_trayin (hW : WF P) (hC : CR u 0 P) {i x : Nat} {k : Int32} (hk : k = nI x) (hi : i < P.1 4) (h5 : P.2 i 5 = 1) (h7 : 7 ≤ x) (hx : x ≤ 15) : fX6_tray (nI i) k u = some (nI (trN P i x)) := by
  rw [hk, c_tray hW hC hi hx, trV, if_neg (by omega), if_pos h5]
theorem c_trayout (hW : WF P) (hC : CR u 0 P) {i x : Nat} {k : Int32} (hk : k = nI x) (hi : i < P.1 4) (h5 : P.2 i 5 = 0) (h7 : 7 ≤ x) (hx : x ≤ 15) : fX6_tray (nI i) k u = some (-9) := by
  rw [hk, c_tray hW hC hi hx, trV, if_neg (by omega), if_neg (by omega)]
theorem c_t0 (hW : WF P) (hC : CR u 0 P) {i : Nat} (hi : i < P.1 4) : fX6_tray (nI i) 0 u = some (nI (P.2 i 0)) := c_trayk hW hC (x := 0) rfl hi (by omega)
theorem c_t1 (hW : WF P) (hC : CR u 0 P) {i : Nat} (hi : i < P.1 4) : fX6_tray (nI i) 1 u = some (nI (P.2 i 1)) := c_trayk hW hC (x := 1) rfl hi (by omega)
theorem c_t2 (hW : WF P) (hC : CR u 0 P) {i : Nat} (hi : i < P.1 4) : fX6_tray (nI i) 2 u = some (nI (P.2 i 2)) := c_trayk hW hC (x := 2) rfl hi (by omega)
theorem c_t3 (hW : WF P) (hC : CR u 0 P) {i : Nat} (hi : i < P.1 4) : fX6_tray (nI i) 3 u = some (nI (P.2 i 3)) := c_trayk hW hC (x := 3) rfl hi (by omega)
theorem c_t4 (hW : WF P) (hC : CR u 0 P) {i : Nat} (hi : i < P.1 4) : fX6_tray (nI i) 4 u = some (nI (P.2 i 4)) := c_trayk hW hC (x := 4) rfl hi (by omega)
theorem c_t5 (hW : WF P) (hC : CR u 0 P) {i : Nat} (hi : i < P.1 4) : fX6_tray (nI i) 5 u = some (nI (P.2 i 5)) := c_trayk hW hC (x := 5) rfl hi (by omega)
theorem c_t6 (hW : WF P) (hC : CR u 0 P) {i : Nat} (hi : i < P.1 4) : fX6_tray (nI i) 6 u = some (nI (P.2 i 6)) := c_trayk hW hC (x := 6) rfl hi (by omega)
theorem c_i7 (hW : WF P) (hC : CR u 0 P) {i : Nat} (hi : i < P.1 4) (h5 : P.2 i 5 = 1) : fX6_tray (nI i) 7 u = some (nI (P.2 i 7)) := c_trayin hW hC (x := 7) rfl hi h5 (by omega) (by omega)
theorem c_i8 (hW : WF P) (hC : CR u 0 P) {i : Nat} (hi : i < P.1 4) (h5 : P.2 i 5 = 1) : fX6_tray (nI i) 8 u = some (nI (P.2 i 8)) := c_trayin hW hC (x := 8) rfl hi h5 (by omega) (by omega)
theorem c_i9 (hW : WF P) (hC : CR u 0 P) {i : Nat} (hi : i < P.1 4) (h5 : P.2 i 5 = 1) : fX6_tray (nI i) 9 u = some (nI (P.2 i 9)) := c_trayin hW hC (x := 9) rfl hi h5 (by omega) (by omega)
theorem c_i10 (hW : WF P) (hC : CR u 0 P) {i : Nat} (hi : i < P.1 4) (h5 : P.2 i 5 = 1) : fX6_tray (nI i) 10 u = some (nI (tp P i)) := c_trayin hW hC (x := 10) rfl hi h5 (by omega) (by omega)
theorem c_i11 (hW : WF P) (hC : CR u 0 P) {i : Nat} (hi : i < P.1 4) (h5 : P.2 i 5 = 1) : fX6_tray (nI i) 11 u = some (nI (pc (ab P i))) := c_trayin hW hC (x := 11) rfl hi h5 (by omega) (by omega)
theorem c_i12 (hW : WF P) (hC : CR u 0 P) {i : Nat} (hi : i < P.1 4) (h5 : P.2 i 5 = 1) : fX6_tray (nI i) 12 u = some (nI (fl P i)) := c_trayin hW hC (x := 12) rfl hi h5 (by omega) (by omega)
theorem c_i13 (hW : WF P) (hC : CR u 0 P) {i : Nat} (hi : i < P.1 4) (h5 : P.2 i 5 = 1) : fX6_tray (nI i) 13 u = some (nI (if ab P i = 0 then 1 else 0)) := c_trayin hW hC (x := 13) rfl hi h5 (by omega) (by omega)
theorem c_i14 (hW : WF P) (hC : CR u 0 P) {i : Nat} (hi : i < P.1 4) (h5 : P.2 i 5 = 1) : fX6_tray (nI i) 14 u = some (nI (ab P i)) := c_trayin hW hC (x := 14) rfl hi h5 (by omega) (by omega)
theorem c_i15 (hW : WF P) (hC : CR u 0 P) {i : Nat} (hi : i < P.1 4) (h5 : P.2 i 5 = 1) : fX6_tray (nI i) 15 u = some (nI (rs P i)) := c_trayin hW hC (x := 15) rfl hi h5 (by omega) (by omega)
theorem c_o9 (hW : WF P) (hC : CR u 0 P) {i : Nat} (hi : i < P.1 4) (h5 : P.2 i 5 = 0) : fX6_tray (nI i) 9 u = some (-9) := c_trayout hW hC (x := 9) rfl hi h5 (by omega) (by omega)
theorem um_tpm {x y : Nat} : ∀ n, umT P (um P x y n) = mxf (tpf P x y) n := by
  intro n
  induction n with
  | zero => rfl
  | succ n ih =>
    rw [um, mxf, ← ih]
    by_cases hc : cv P n x y = true
    · rw [if_pos hc, show tpf P x y n = tp P n from if_pos hc]
      cases um P x y n with
      | none => show tp P n = max 0 (tp P n); omega
      | some j =>
        show umT P (if tp P j < tp P n then some n else some j) = max (tp P j) (tp P n)
        split
        · show tp P n = _; omega
        · show tp P j = _; omega
    · rw [if_neg hc, show tpf P x y n = 0 from if_neg hc]
      omega
theorem c_seen1 (hW : WF P) (hC : CR u 0 P) {x y : Nat} (hx : x < P.1 0) (hy : y < P.1 1) : fX6_seen (nI x) (nI y) 1 u = some (nI (tpm P x y)) ∧ fX6_seen (nI x) (nI y) 0 u = some (umI (um P x y (P.1 4))) := by
  have hn := hW.2.2.2.2.1
  have w0 := hW.1
  have w1 := hW.2.1
  have e0 : u.1 (132 + 0) 0 = nI (P.1 0) := hC.1 0 (by omega)
  have e1 : u.1 (132 + 0) 1 = nI (P.1 1) := hC.1 1 (by omega)
  have s0 : nI (P.1 0) - 1 = nI (P.1 0 - 1) := nsub (b := 1) (by omega)
  have s1 : nI (P.1 1) - 1 = nI (P.1 1 - 1) := nsub (b := 1) (by omega)
  have i0 : fX6_isWithin (nI x) 0 (nI (P.1 0 - 1)) u = some 1 := isW1 (a := 0) u (by omega) (by omega) (by omega)
  have i1 : fX6_isWithin (nI y) 0 (nI (P.1 1 - 1)) u = some 1 := isW1 (a := 0) u (by omega) (by omega) (by omega)
  have ht : tpm P x y = umT P (um P x y (P.1 4)) := (um_tpm _).symm
  simp only [fX6_seen, e0, e1, s0, s1, i0, i1, Option.bind_some, uppermost_eq hW hC (show x < 1000 by omega) (show y < 1000 by omega)]
  rw [if_neg (show ¬ (1 : Int32) = 0 by decide), if_neg (show ¬ (1 : Int32) = 0 by decide), ht]
  rcases hu : um P x y (P.1 4) with _ | j
  · have hh : fX0_has 0 (umI none) u = some 0 := by
      simp only [fX0_has]
      rw [if_pos (by decide)]
    rw [hh, Option.bind_some, if_pos rfl]
    exact ⟨rfl, rfl⟩
  · have hj := um_in hu
    rw [show umI (some j) = nI j from rfl, has_n hn hC hj.1, Option.bind_some, if_neg (show ¬ (1 : Int32) = 0 by decide), if_neg (show ¬ (1 : Int32) = 0 by decide), gd_t (inb_n (by omega) (by omega)), ncl (by omega), ((hC.2 j hj.1).2 hj.2).2.2.2.2.2.1]
    exact ⟨rfl, rfl⟩
end C80
