/-! what the law tells: cell by cell -/
def OV (P : Bx) (x y t k : Nat) : Prop := k ≠ t ∧ k < P.1 4 ∧ t < P.1 4 ∧ cv P t x y = true ∧ cv P k x y = true ∧ tp P t ≤ P.2 k 9
def suq (P : Bx) (x y i : Nat) (n : Nat) : Bool := P.2 i 9 == 0 || anyb n (fun j => !(j == i) && cv P j x y && tp P j == P.2 i 9)
def su0 (P : Bx) (x y i : Nat) : Bool := cv P i x y && suq P x y i (P.1 4)
theorem b01_ne {b : Bool} : (if b01 b = 0 then (some 0 : Option Int32) else some 1) = some (b01 b) := by cases b <;> rfl
section C87
variable {P : Bx} {u : S}
theorem told_k (hW : WF P) (hC : CR u 0 P) {x y t : Nat} {R : Nat → Nat → Prop} {u1 : S} (hx : x < 1000) (hy : y < 1000) (ht : t < P.1 4) (hcv : cv P t x y = true) (hO : ON u u1 R) :
    ∃ b, lp (gL_told_145 (nI (P.1 4)) (nI x) (nI y) (nI t)) FU (b01 (P.2 t 9 == 0), 0, u1) = some (.inr b) ∧ b.1 = b01 (suq P x y t (P.1 4)) ∧ ON u b.2.2 (fun t' k' => R t' k' ∨ (t' = t ∧ OV P x y t k')) := by
  have hn := hW.2.2.2.2.1
  have h5 := cv_in hcv
  have hst := hW.small ht
  obtain ⟨b, h1, h2, h3, h4⟩ := lp_fogR (step := gL_told_145 (nI (P.1 4)) (nI x) (nI y) (nI t)) (a := (b01 (P.2 t 9 == 0), 0, u1)) (fun k a => a.2.1 = nI k ∧ a.1 = b01 (suq P x y t k) ∧ ON u a.2.2 (fun t' k' => R t' k' ∨ (t' = t ∧ k' < k ∧ OV P x y t k'))) (P.1 4) (by omega) (fun k a hk ha => by
    obtain ⟨d, kk, u'⟩ := a
    obtain ⟨e1, e2, e3⟩ := ha
    have e1 : kk = nI k := e1
    have e2 : d = b01 (suq P x y t k) := e2
    have e3 : ON u u' _ := e3
    subst e1; subst e2
    have hC' := e3.cr hn hC
    have hkt : (nI k = nI t) ↔ k = t := neq (by omega) (by omega)
    have hks := hW.small hk
    have hsu : suq P x y t (k + 1) = (suq P x y t k || (!(k == t) && cv P k x y && tp P k == P.2 t 9)) := by
      unfold suq
      rw [anyb_succ, Bool.or_assoc]
    simp only [gL_told_145]
    rw [if_neg (by rw [nle (by omega) (by omega)]; omega), show nI k + 1 = nI (k + 1) from nadd k 1]
    by_cases hk1 : k = t
    · rw [if_pos (hkt.mpr hk1)]
      refine ⟨_, rfl, rfl, ?_, e3.iff (fun t' k' _ => ?_)⟩
      · rw [hsu, hk1]; simp
      · constructor
        · rintro (h | ⟨h, h0, h'⟩)
          · exact Or.inl h
          · exact Or.inr ⟨h, by omega, h'⟩
        · rintro (h | ⟨h, h0, h'⟩)
          · exact Or.inl h
          · have := h'.1
            exact Or.inr ⟨h, by omega, h'⟩
    rw [if_neg (fun q => hk1 (hkt.mp q)), c_covers hW hC' hk hx hy, Option.bind_some]
    by_cases hck : cv P k x y = true
    · have k5 := cv_in hck
      rw [if_pos hck, if_neg (show ¬ (1 : Int32) = 0 by decide), c_i9 hW hC' hk k5, Option.bind_some, c_i10 hW hC' ht h5, Option.bind_some]
      have fin : ∀ (bb : Bool) (v : Int32), bb = decide (tp P t ≤ P.2 k 9) → v = (if bb = true then (1 : Int32) <<< (nI k &&& 31) else 0) → ∃ a', (gd (inb (nI t) 12) <|
          nm (up u' 168 (nI t).toNatClampNeg ((u'.1 168 (nI t).toNatClampNeg) ||| v)) fun u418 =>
          (if b01 (suq P x y t k) = 0 then
          ((fX6_tray (nI k) 10 u418).bind fun q420 =>
          (fX6_tray (nI t) 9 u418).bind fun q421 =>
          (if q420 = q421 then
          (some (1 : Int32))
          else
          (some (0 : Int32))).bind fun j422 =>
          some (j422 : Int32))
          else
          (some (1 : Int32))).bind fun j419 =>
          (some (.inr (j419, nI (k + 1), u418)) : Option (((Int32 × S) ⊕ (Int32 × Int32 × S)) ⊕ (Int32 × Int32 × S)))) = some (.inr a') ∧ a'.2.1 = nI (k + 1) ∧ a'.1 = b01 (suq P x y t (k + 1)) ∧ ON u a'.2.2 (fun t' k' => R t' k' ∨ (t' = t ∧ k' < k + 1 ∧ OV P x y t k')) := fun bb v hbb hv => by
        have hO2 := e3.put (t := t) (k := k) (b := bb) (v := v) (by omega) (by omega) hv
        obtain ⟨u2, hu2⟩ : ∃ u2, u2 = up u' 168 t ((u'.1 168 t) ||| v) := ⟨_, rfl⟩
        rw [← hu2] at hO2
        have hC2 := hO2.cr hn hC
        rw [gd_t (inb_n (by omega) (by omega)), nm_k, ncl (by omega), ← hu2]
        have hON : ON u u2 (fun t' k' => R t' k' ∨ (t' = t ∧ k' < k + 1 ∧ OV P x y t k')) := hO2.iff (fun t' k' _ => by
          rw [hbb]
          constructor
          · rintro ((h | ⟨h, h0, h'⟩) | ⟨h, h0, h'⟩)
            · exact Or.inl h
            · exact Or.inr ⟨h, by omega, h'⟩
            · exact Or.inr ⟨h, by omega, by omega, by omega, ht, hcv, h0 ▸ hck, h0 ▸ of_decide_eq_true h'⟩
          · rintro (h | ⟨h, h0, h'⟩)
            · exact Or.inl (Or.inl h)
            · by_cases hkk : k' = k
              · exact Or.inr ⟨h, hkk, decide_eq_true (hkk ▸ h'.2.2.2.2.2)⟩
              · exact Or.inl (Or.inr ⟨h, by omega, h'⟩))
        by_cases hd : suq P x y t k = true
        · rw [hd, if_neg (show ¬ b01 true = 0 by decide), Option.bind_some]
          exact ⟨_, rfl, rfl, by rw [hsu, hd]; rfl, hON⟩
        · rw [Bool.not_eq_true] at hd
          rw [hd, if_pos (show b01 false = 0 from rfl), c_i10 hW hC2 hk k5, Option.bind_some, c_i9 hW hC2 ht h5, Option.bind_some]
          refine ⟨(b01 (tp P k == P.2 t 9), nI (k + 1), u2), ?_, rfl, ?_, hON⟩
          · by_cases he : tp P k = P.2 t 9
            · rw [if_pos (by rw [he]), Option.bind_some, Option.bind_some, he]
              simp [b01]
            · rw [if_neg (by rw [neq (by omega) (by omega)]; exact he), Option.bind_some, Option.bind_some]
              simp [b01, he]
          · show b01 (tp P k == P.2 t 9) = _
            have hkb : (k == t) = false := beq_eq_false_iff_ne.mpr hk1
            rw [hsu, hd, hck, hkb]
            simp
      by_cases hab : tp P t ≤ P.2 k 9
      · rw [if_neg (by rw [nlt (by omega) (by omega)]; omega), Option.bind_some, if_neg (show ¬ (1 : Int32) = 0 by decide), if_neg (show ¬ (1 : Int32) = 0 by decide), Option.bind_some]
        have := fin true _ (decide_eq_true hab).symm rfl
        rw [gd_t (inb_n (show t < 12 by omega) (by omega))]
        exact this
      · have hdis : tp P k ≤ P.2 t 9 := by
          rcases hW.2.2.2.2.2.2 t k ht hk (fun q => hk1 q.symm) h5 k5 (mt_cv hcv hck) with h | h
          · exact h
          · exact absurd h hab
        rw [if_pos (by rw [nlt (by omega) (by omega)]; omega), Option.bind_some, if_pos rfl, c_i9 hW hC' ht h5, Option.bind_some, c_i10 hW hC' hk k5, Option.bind_some, if_pos (by rw [nle (by omega) (by omega)]; exact hdis), if_pos rfl, Option.bind_some]
        have := fin false 0 (decide_eq_false hab).symm rfl
        rw [gd_t (inb_n (show t < 12 by omega) (by omega))]
        exact this
    · rw [if_neg hck, if_pos rfl]
      rw [Bool.not_eq_true] at hck
      refine ⟨_, rfl, rfl, ?_, e3.iff (fun t' k' _ => ?_)⟩
      · rw [hsu, hck]; simp
      · constructor
        · rintro (h | ⟨h, h0, h'⟩)
          · exact Or.inl h
          · exact Or.inr ⟨h, by omega, h'⟩
        · rintro (h | ⟨h, h0, h'⟩)
          · exact Or.inl h
          · have h2 := h'.2.2.2.2.1
            have : k' ≠ k := fun q => by rw [q, hck] at h2; cases h2
            exact Or.inr ⟨h, by omega, h'⟩) (fun a ha => by
    obtain ⟨d, kk, u'⟩ := a
    have e1 : kk = nI (P.1 4) := ha.1
    subst e1
    simp only [gL_told_145]
    rw [if_pos (by rw [nle (by omega) (by omega)]; omega)]) ⟨rfl, by simp [suq, anyb_zero], hO.iff (fun t' k' _ => by simp)⟩
  exact ⟨b, h1, h3, h4.iff (fun t' k' _ => by
    constructor
    · rintro (h | ⟨h, h0, h'⟩)
      · exact Or.inl h
      · exact Or.inr ⟨h, h'⟩
    · rintro (h | ⟨h, h'⟩)
      · exact Or.inl h
      · exact Or.inr ⟨h, h'.2.1, h'⟩)⟩
theorem tp_pos (hW : WF P) {t : Nat} (ht : t < P.1 4) : 1 ≤ tp P t := by
  have := hW.small ht
  unfold tp
  omega
theorem told_t (hW : WF P) (hC : CR u 0 P) {x y r0 : Nat} {R : Nat → Nat → Prop} {u1 : S} (hx : x < 1000) (hy : y < 1000) (hO : ON u u1 R) :
    ∃ b, lp (gL_told_55 (nI (P.1 4)) (nI x) (nI y)) FU (nI r0, 0, (-9), 0, u1) = some (.inr b) ∧ b.1 = nI (r0 + fb_ct (su0 P x y) (P.1 4)) ∧ b.2.1 = nI (tpm P x y) ∧ b.2.2.1 = umI (um P x y (P.1 4)) ∧ ON u b.2.2.2.2 (fun t' k' => R t' k' ∨ OV P x y t' k') := by
  have hn := hW.2.2.2.2.1
  obtain ⟨b, h1, h2, h3, h4, h5, h6⟩ := lp_fogR (step := gL_told_55 (nI (P.1 4)) (nI x) (nI y)) (a := (nI r0, 0, (-9), 0, u1)) (fun t a => a.2.2.2.1 = nI t ∧ a.1 = nI (r0 + fb_ct (su0 P x y) t) ∧ a.2.1 = nI (mxf (tpf P x y) t) ∧ a.2.2.1 = umI (um P x y t) ∧ ON u a.2.2.2.2 (fun t' k' => R t' k' ∨ (t' < t ∧ OV P x y t' k'))) (P.1 4) (by omega) (fun t a ht ha => by
    obtain ⟨r, top, upr, tt, u'⟩ := a
    obtain ⟨e1, e2, e3, e4, e5⟩ := ha
    have e1 : tt = nI t := e1
    have e2 : r = nI (r0 + fb_ct (su0 P x y) t) := e2
    have e3 : top = nI (mxf (tpf P x y) t) := e3
    have e4 : upr = umI (um P x y t) := e4
    have e5 : ON u u' _ := e5
    subst e1; subst e2; subst e3; subst e4
    have hC' := e5.cr hn hC
    have hmx : mxf (tpf P x y) t ≤ 30 := mxt_le hW (by omega)
    simp only [gL_told_55]
    rw [if_neg (by rw [nle (by omega) (by omega)]; omega), show nI t + 1 = nI (t + 1) from nadd t 1, c_covers hW hC' ht hx hy, Option.bind_some, fb_ct_succ, mxf]
    by_cases hc : cv P t x y = true
    · have t5 := cv_in hc
      have htp := (hW.small ht).2.2.2.1
      have hpos := tp_pos hW ht
      have htf : tpf P x y t = tp P t := if_pos hc
      obtain ⟨c, k1, k2, k3⟩ := told_k hW hC hx hy ht hc e5
      have q1 : (if nI (P.2 t 9) = 0 then (some 1 : Option Int32) else some 0) = some (b01 (P.2 t 9 == 0)) := by
        have hf := (hW.2.2.2.2.2.1 t ht).2.2.2.2.2.2.2.1.2.2
        by_cases h0 : P.2 t 9 = 0
        · rw [if_pos (by rw [h0]; rfl), h0]; rfl
        · rw [if_neg (by rw [show (0 : Int32) = nI 0 from rfl, neq (by omega) (by omega)]; exact h0), beq_eq_false_iff_ne.mpr h0]; rfl
      have hs0 : su0 P x y t = suq P x y t (P.1 4) := by simp [su0, hc]
      rw [if_pos hc, if_neg (show ¬ (1 : Int32) = 0 by decide), c_i10 hW hC' ht t5, Option.bind_some]
      have qj : (if nI (tp P t) ≤ nI (mxf (tpf P x y) t) then some (umI (um P x y t)) else some (nI t)) = some (umI (um P x y (t + 1))) := by
        rw [um, if_pos hc]
        have hm := um_tpm (P := P) (x := x) (y := y) t
        rw [← hm]
        cases hu : um P x y t with
        | none =>
          rw [if_neg (by
            show ¬ nI (tp P t) ≤ nI 0
            rw [nle (by omega) (by omega)]
            omega)]
          rfl
        | some j =>
          rw [hu] at hm
          have hm : tp P j = _ := hm
          show (if nI (tp P t) ≤ nI (tp P j) then some (nI j) else some (nI t)) = some (umI (if tp P j < tp P t then some t else some j))
          by_cases hlt : tp P j < tp P t
          · rw [if_neg (by rw [nle (by omega) (by omega)]; omega), if_pos hlt]; rfl
          · rw [if_pos (by rw [nle (by omega) (by omega)]; omega), if_neg hlt]; rfl
      have qm : (if nI (tp P t) ≤ nI (mxf (tpf P x y) t) then some (nI (mxf (tpf P x y) t)) else ((some (nI (tp P t))).bind fun q310 => some q310)) = some (nI (max (mxf (tpf P x y) t) (tpf P x y t))) := by
        rw [htf]
        by_cases hle : tp P t ≤ mxf (tpf P x y) t
        · rw [if_pos (by rw [nle (by omega) (by omega)]; exact hle)]
          congr 2; omega
        · rw [if_neg (by rw [nle (by omega) (by omega)]; exact hle), Option.bind_some]
          congr 2; omega
      rw [qj, Option.bind_some, Option.bind_some, qm, Option.bind_some, c_i9 hW hC' ht t5, Option.bind_some, q1, Option.bind_some, k1]
      simp only [Sum.elim, Option.bind_some]
      rw [k2, b01_ne, Option.bind_some]
      refine ⟨_, rfl, rfl, ?_, rfl, rfl, k3.iff (fun t' k' _ => ?_)⟩
      · rw [hs0]
        cases suq P x y t (P.1 4)
        · show nI _ + nI 0 = _
          rw [nadd]; rfl
        · show nI _ + nI 1 = _
          rw [nadd]; rfl
      · constructor
        · rintro ((h | ⟨h, h'⟩) | ⟨h, h'⟩)
          · exact Or.inl h
          · exact Or.inr ⟨by omega, h'⟩
          · exact Or.inr ⟨by omega, h ▸ h'⟩
        · rintro (h | ⟨h, h'⟩)
          · exact Or.inl (Or.inl h)
          · by_cases htt : t' = t
            · exact Or.inr ⟨htt, htt ▸ h'⟩
            · exact Or.inl (Or.inr ⟨by omega, h'⟩)
    · have htf : tpf P x y t = 0 := if_neg hc
      have hs0 : su0 P x y t = false := by
        rw [Bool.not_eq_true] at hc
        simp [su0, hc]
      rw [if_neg hc, if_pos rfl, hs0, htf]
      refine ⟨_, rfl, rfl, rfl, ?_, ?_, e5.iff (fun t' k' _ => ?_)⟩
      · show nI _ = nI (max _ 0)
        rw [Nat.max_zero]
      · show umI (um P x y t) = _
        rw [um, if_neg hc]
      · constructor
        · rintro (h | ⟨h, h'⟩)
          · exact Or.inl h
          · exact Or.inr ⟨by omega, h'⟩
        · rintro (h | ⟨h, h'⟩)
          · exact Or.inl h
          · have h2 := h'.2.2.2.1
            have : t' ≠ t := fun q => hc (q ▸ h2)
            exact Or.inr ⟨by omega, h'⟩) (fun a ha => by
    obtain ⟨r, top, upr, tt, u'⟩ := a
    have e1 : tt = nI (P.1 4) := ha.1
    subst e1
    simp only [gL_told_55]
    rw [if_pos (by rw [nle (by omega) (by omega)]; omega)]) ⟨rfl, by simp [fb_ct], rfl, rfl, hO.iff (fun t' k' _ => by simp)⟩
  exact ⟨b, h1, h3, h4, h5, h6.iff (fun t' k' _ => by
    constructor
    · rintro (h | ⟨h, h'⟩)
      · exact Or.inl h
      · exact Or.inr h'
    · rintro (h | h')
      · exact Or.inl h
      · exact Or.inr ⟨h'.2.2.1, h'⟩)⟩
theorem told_y (hW : WF P) (hC : CR u 0 P) {x h0 r0 : Nat} {R : Nat → Nat → Prop} {u1 : S} (hx : x < P.1 0) (hh : h0 ≤ 30) (hO : ON u u1 R) :
    ∃ b, lp (gL_told_35 (nI (P.1 4)) (nI x)) FU (nI h0, nI r0, 0, u1) = some (.inr b) ∧ b.1 = nI (max h0 (mxf (fun y => tpm P x y) (P.1 1))) ∧ b.2.1 = nI (r0 + fb_sm (fun y => fb_ct (su0 P x y) (P.1 4)) (P.1 1)) ∧ ON u b.2.2.2 (fun t' k' => R t' k' ∨ ∃ y, y < P.1 1 ∧ OV P x y t' k') := by
  have hn := hW.2.2.2.2.1
  have w0 := hW.1
  have w1 := hW.2.1
  obtain ⟨b, h1, h2, h3, h4, h5⟩ := lp_fogR (step := gL_told_35 (nI (P.1 4)) (nI x)) (a := (nI h0, nI r0, 0, u1)) (fun y a => a.2.2.1 = nI y ∧ a.1 = nI (max h0 (mxf (fun y => tpm P x y) y)) ∧ a.2.1 = nI (r0 + fb_sm (fun y => fb_ct (su0 P x y) (P.1 4)) y) ∧ ON u a.2.2.2 (fun t' k' => R t' k' ∨ ∃ y', y' < y ∧ OV P x y' t' k')) (P.1 1) (by omega) (fun y a hy ha => by
    obtain ⟨h, r, yy, u'⟩ := a
    obtain ⟨e1, e2, e3, e4⟩ := ha
    have e1 : yy = nI y := e1
    have e2 : h = nI (max h0 (mxf (fun y => tpm P x y) y)) := e2
    have e3 : r = nI (r0 + fb_sm (fun y => fb_ct (su0 P x y) (P.1 4)) y) := e3
    have e4 : ON u u' _ := e4
    subst e1; subst e2; subst e3
    have hC' := e4.cr hn hC
    obtain ⟨c, k1, k2, k3, k4, k5⟩ := told_t (r0 := r0 + fb_sm (fun y => fb_ct (su0 P x y) (P.1 4)) y) hW hC (show x < 1000 by omega) (show y < 1000 by omega) e4
    have hC2 := k5.cr hn hC
    have hm1 : mxf (fun y => tpm P x y) y ≤ 30 := mxf_le (fun i _ => tpm_le hW)
    have hm2 : tpm P x y ≤ 30 := tpm_le hW
    simp only [gL_told_35]
    rw [c_count1 hC', Option.bind_some, if_neg (by rw [nle (by omega) (by omega)]; omega), k1]
    simp only [Sum.elim, Option.bind_some]
    have qm : (if nI (tpm P x y) ≤ nI (max h0 (mxf (fun y => tpm P x y) y)) then some (nI (max h0 (mxf (fun y => tpm P x y) y))) else some (nI (tpm P x y))) = some (nI (max h0 (mxf (fun y => tpm P x y) (y + 1)))) := by
      rw [mxf]
      by_cases hle : tpm P x y ≤ max h0 (mxf (fun y => tpm P x y) y)
      · rw [if_pos (by rw [nle (by omega) (by omega)]; exact hle)]
        congr 2; omega
      · rw [if_neg (by rw [nle (by omega) (by omega)]; exact hle)]
        congr 2; omega
    rw [k3, k4, qm, Option.bind_some, (c_seen1 hW hC2 hx hy).1, Option.bind_some, if_pos rfl, (c_seen1 hW hC2 hx hy).2, Option.bind_some, if_pos rfl, show nI y + 1 = nI (y + 1) from nadd y 1, k2]
    refine ⟨_, rfl, rfl, rfl, ?_, k5.iff (fun t' k' _ => ?_)⟩
    · rw [fb_sm_succ, Nat.add_assoc]
    · constructor
      · rintro ((h | ⟨y', h, h'⟩) | h)
        · exact Or.inl h
        · exact Or.inr ⟨y', by omega, h'⟩
        · exact Or.inr ⟨y, by omega, h⟩
      · rintro (h | ⟨y', h, h'⟩)
        · exact Or.inl (Or.inl h)
        · by_cases hyy : y' = y
          · exact Or.inr (hyy ▸ h')
          · exact Or.inl (Or.inr ⟨y', by omega, h'⟩)) (fun a ha => by
    obtain ⟨h, r, yy, u'⟩ := a
    have e1 : yy = nI (P.1 1) := ha.1
    have e4 : ON u u' _ := ha.2.2.2
    subst e1
    simp only [gL_told_35]
    rw [c_count1 (e4.cr hn hC), Option.bind_some, if_pos (by rw [nle (by omega) (by omega)]; omega)]) ⟨rfl, by simp [mxf], by simp [fb_sm], hO.iff (fun t' k' _ => by simp)⟩
  exact ⟨b, h1, h3, h4, h5⟩
theorem told_x (hW : WF P) (hC : CR u 0 P) {R : Nat → Nat → Prop} {u1 : S} (hO : ON u u1 R) :
    ∃ b, lp (gL_told_22 (nI (P.1 4))) FU (0, 0, 0, u1) = some (.inr b) ∧ b.1 = nI (mxf (fun x => mxf (fun y => tpm P x y) (P.1 1)) (P.1 0)) ∧ b.2.1 = nI (fb_sm (fun x => fb_sm (fun y => fb_ct (su0 P x y) (P.1 4)) (P.1 1)) (P.1 0)) ∧ ON u b.2.2.2 (fun t' k' => R t' k' ∨ ∃ x, x < P.1 0 ∧ ∃ y, y < P.1 1 ∧ OV P x y t' k') := by
  have hn := hW.2.2.2.2.1
  have w0 := hW.1
  have w1 := hW.2.1
  obtain ⟨b, h1, h2, h3, h4, h5⟩ := lp_fogR (step := gL_told_22 (nI (P.1 4))) (a := (0, 0, 0, u1)) (fun x a => a.2.2.1 = nI x ∧ a.1 = nI (mxf (fun x => mxf (fun y => tpm P x y) (P.1 1)) x) ∧ a.2.1 = nI (fb_sm (fun x => fb_sm (fun y => fb_ct (su0 P x y) (P.1 4)) (P.1 1)) x) ∧ ON u a.2.2.2 (fun t' k' => R t' k' ∨ ∃ x', x' < x ∧ ∃ y, y < P.1 1 ∧ OV P x' y t' k')) (P.1 0) (by omega) (fun x a hx ha => by
    obtain ⟨h, r, xx, u'⟩ := a
    obtain ⟨e1, e2, e3, e4⟩ := ha
    have e1 : xx = nI x := e1
    have e2 : h = nI (mxf (fun x => mxf (fun y => tpm P x y) (P.1 1)) x) := e2
    have e3 : r = nI (fb_sm (fun x => fb_sm (fun y => fb_ct (su0 P x y) (P.1 4)) (P.1 1)) x) := e3
    have e4 : ON u u' _ := e4
    subst e1; subst e2; subst e3
    have hC' := e4.cr hn hC
    have hm1 : mxf (fun x => mxf (fun y => tpm P x y) (P.1 1)) x ≤ 30 := mxf_le (fun i _ => mxf_le (fun j _ => tpm_le hW))
    obtain ⟨c, k1, k2, k3, k4⟩ := told_y (r0 := fb_sm (fun x => fb_sm (fun y => fb_ct (su0 P x y) (P.1 4)) (P.1 1)) x) hW hC hx hm1 e4
    simp only [gL_told_22]
    rw [c_count0 hC', Option.bind_some, if_neg (by rw [nle (by omega) (by omega)]; omega), k1]
    simp only [Sum.elim, Option.bind_some]
    rw [k2, k3, show nI x + 1 = nI (x + 1) from nadd x 1]
    refine ⟨_, rfl, rfl, rfl, rfl, k4.iff (fun t' k' _ => ?_)⟩
    constructor
    · rintro ((h | ⟨x', h, h'⟩) | h)
      · exact Or.inl h
      · exact Or.inr ⟨x', by omega, h'⟩
      · exact Or.inr ⟨x, by omega, h⟩
    · rintro (h | ⟨x', h, h'⟩)
      · exact Or.inl (Or.inl h)
      · by_cases hxx : x' = x
        · exact Or.inr (hxx ▸ h')
        · exact Or.inl (Or.inr ⟨x', by omega, h'⟩)) (fun a ha => by
    obtain ⟨h, r, xx, u'⟩ := a
    have e1 : xx = nI (P.1 0) := ha.1
    have e4 : ON u u' _ := ha.2.2.2
    subst e1
    simp only [gL_told_22]
    rw [c_count0 (e4.cr hn hC), Option.bind_some, if_pos (by rw [nle (by omega) (by omega)]; omega)]) ⟨rfl, rfl, rfl, hO.iff (fun t' k' _ => by simp)⟩
  exact ⟨b, h1, h3, h4, h5⟩
end C87
