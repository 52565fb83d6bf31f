/-! what the law tells: the whole -/
section C90
variable {P : Bx} {u : S}
noncomputable abbrev stT (P : Bx) (t : Nat) : Int32 × Int32 × Int32 × Int32 × Int32 × Int32 × Int32 := (nI (vol P t), nI (FS P t), nI (LfS P t), nI (FR P t), nI (fb_ct (fun i => P.2 i 5 == 1) t), nI (fb_sm (fun i => if P.2 i 5 = 1 then rs P i else 0) t), nI t)
theorem told_step (hW : WF P) (hC : CR u 0 P) (hz : Z6 P) (hG : GP P) (hL : OL P u) {t : Nat} (ht : t < P.1 4) : gL_told_374 (nI (P.1 4)) u (stT P t) = some (.inr (stT P (t + 1))) := by
  have hn := hW.2.2.2.2.1
  have h51 := hW.in1 t ht
  obtain ⟨m, m1, m2, m3⟩ := hL t ht
  simp only [gL_told_374, stT]
  rw [if_neg (by rw [nle (by omega) (by omega)]; omega), c_t5 hW hC ht, Option.bind_some, show nI t + 1 = nI (t + 1) from nadd t 1]
  have v1 : vol P (t + 1) = vol P t + (if P.2 t 5 = 1 then P.2 t 0 * P.2 t 1 * tl P t else 0) := fb_sm_succ _ _
  have v2 : FS P (t + 1) = FS P t + fl P t := fb_sm_succ _ _
  have v3 : LfS P (t + 1) = LfS P t + pc (ab P t) := fb_sm_succ _ _
  have v4 : FR P (t + 1) = FR P t + (if frB P t = true then 1 else 0) := fb_ct_succ _ _
  have v5 : fb_ct (fun i => P.2 i 5 == 1) (t + 1) = fb_ct (fun i => P.2 i 5 == 1) t + (if (P.2 t 5 == 1) = true then 1 else 0) := fb_ct_succ _ _
  have v6 : fb_sm (fun i => if P.2 i 5 = 1 then rs P i else 0) (t + 1) = fb_sm (fun i => if P.2 i 5 = 1 then rs P i else 0) t + (if P.2 t 5 = 1 then rs P t else 0) := fb_sm_succ _ _
  rw [v1, v2, v3, v4, v5, v6]
  rcases (show P.2 t 5 = 0 ∨ P.2 t 5 = 1 by omega) with h5 | h5
  · have hne : ¬ P.2 t 5 = 1 := by omega
    have hfr : frB P t = false := by simp [frB, h5]
    rw [h5, if_pos nI_0, c_o9 hW hC ht h5, Option.bind_some, if_pos rfl, c_t6 hW hC ht, Option.bind_some, hz t ht h5, if_pos nI_0, fl_out hn hne, show ab P t = 0 from am_out hn hne, pc_0, hfr]
    rfl
  · have hw := (hW.2.2.2.2.2.1 t ht).2.2.2.2.2.2.2.2 h5
    have w2 := hW.2.2.1
    have hrs := hG t ht h5
    have hrl : rs P t ≤ 100 := fb_ct_le _ _
    have hsm := hW.small ht
    have hzz : m = 0 ↔ ab P t = 0 := by
      rw [show ab P t = 0 ↔ msk (fun i => lo P i t) (P.1 4) = 0 from am_zero hn]
      have hmm : m = msk (fun i => lo P i t) (P.1 4) := bits_eq (fun i => by
        rw [msk_bit, Bool.eq_iff_iff, m3 i]
        simp)
      rw [hmm]
    have hj : (if nI m = 0 then (some 1 : Option Int32) else some 0) = some (nI (if ab P t = 0 then 1 else 0)) := by
      by_cases h0 : m = 0
      · rw [if_pos (by rw [h0]; rfl), if_pos (hzz.mp h0)]; rfl
      · rw [if_neg (by rw [show (0 : Int32) = nI 0 from rfl, neq (by omega) (by omega)]; exact h0), if_neg (fun q => h0 (hzz.mpr q))]; rfl
    have hfr : frB P t = true ↔ ab P t = 0 := by
      unfold frB
      rw [h5]
      simp only [beq_self_eq_true, Bool.true_and, decide_eq_true_eq]
      exact (am_zero hn).symm
    rw [h5, if_neg (show ¬ nI 1 = 0 by decide), gd_t (inb_n (by omega) (by omega)), ncl (show t < 2147483648 by omega), m2, clo_eq hW hL ht m1 m3, Option.bind_some, late_eq hW hC ht, Option.bind_some, bits_n u ab_lt, Option.bind_some, gd_t (inb_n (by omega) (by omega)), hj, Option.bind_some, c_t0 hW hC ht, Option.bind_some, c_t1 hW hC ht, Option.bind_some, c_high hW hC ht, Option.bind_some, c_i15 hW hC ht h5, Option.bind_some, c_i10 hW hC ht h5, Option.bind_some, c_i9 hW hC ht h5, Option.bind_some, Option.bind_some, show nI (P.2 t 9) + nI (tl P t) = nI (tp P t) from nadd _ _, if_pos rfl, Option.bind_some, c_count2 hC, Option.bind_some, if_neg (by rw [nlt (by omega) (by omega)]; omega), c_i14 hW hC ht h5, Option.bind_some, if_pos rfl, c_i11 hW hC ht h5, Option.bind_some, Option.bind_some, if_pos rfl, c_i12 hW hC ht h5, Option.bind_some, if_pos rfl, c_i13 hW hC ht h5, Option.bind_some, gd_t (inb_n (by omega) (by omega)), Option.bind_some, if_pos rfl, Option.bind_some, if_pos (by rw [show (1 : Int32) = nI 1 from rfl, nle (by omega) (by omega)]; exact hrs)]
    refine congrArg (fun z => some (Sum.inr z)) (Prod.ext ?_ (Prod.ext ?_ (Prod.ext ?_ (Prod.ext ?_ (Prod.ext ?_ (Prod.ext ?_ ?_))))))
    · show nI _ + nI _ * nI _ * nI _ = nI _
      rw [nmul, nmul, nadd, if_pos rfl]
    · exact nadd _ _
    · exact nadd _ _
    · show nI _ + nI _ = nI _
      rw [nadd]
      by_cases h0 : ab P t = 0
      · rw [if_pos h0, if_pos (hfr.mpr h0)]
      · rw [if_neg h0, if_neg (fun q => h0 (hfr.mp q))]
    · exact nadd _ 1
    · show nI _ + nI _ = nI _
      rw [nadd, if_pos rfl]
    · rfl
theorem air_ok (hW : WF P) : AR P = nI (P.1 0) * nI (P.1 1) * nI (HT P) - nI (vol P (P.1 4)) ∧ ¬ (nI (P.1 0) * nI (P.1 1) * nI (HT P) - nI (vol P (P.1 4)) < 0) := by
  have hv := vol_le hW
  have hAR : AR P = nI (P.1 0) * nI (P.1 1) * nI (HT P) - nI (vol P (P.1 4)) := by
    rw [nmul, nmul, nsub hv]
    exact arr_eq hW (Nat.le_refl _)
  have w0 := hW.1
  have w1 := hW.2.1
  have hH : HT P ≤ 40 := htf_le hW _ (Nat.le_refl _)
  have hneg : ¬ (nI (P.1 0) * nI (P.1 1) * nI (HT P) - nI (vol P (P.1 4)) < 0) := by
    rw [nmul, nmul, nsub hv, show (0 : Int32) = nI 0 from rfl, nlt (by
      have h1 : P.1 0 * P.1 1 ≤ 10 * 10 := Nat.mul_le_mul w0.2 w1.2
      have h2 : P.1 0 * P.1 1 * HT P ≤ 10 * 10 * 40 := Nat.mul_le_mul h1 hH
      omega) (by omega)]
    omega
  exact ⟨hAR, hneg⟩
theorem c_told (hW : WF P) (hC : CR u 0 P) (hz : Z6 P) (hG : GP P) : ∃ u', fL_told u = some (1, u') ∧ NX u u' := by
  have hn := hW.2.2.2.2.1
  obtain ⟨u2, hu2⟩ : ∃ u2, u2 = zrS 168 u := ⟨_, rfl⟩
  have n2 : NX u u2 := hu2 ▸ NX_zr u
  have hC2 := n2.CR (b := 0) (by omega) hn hC
  have hO : ON u2 u2 (fun _ _ => False) := ⟨fun _ _ => rfl, fun t _ => ⟨0, by omega, by rw [hu2]; simp [zrS]; rfl, fun k => by rw [Nat.zero_testBit]; simp⟩⟩
  obtain ⟨⟨hi, re, xx, u3⟩, h1, h2, h3, h4⟩ := told_x hW hC2 hO
  have h2 : hi = _ := h2
  have h3 : re = _ := h3
  have h4 : ON u2 u3 _ := h4
  subst h2; subst h3
  have hC3 := h4.cr hn hC2
  have n3 : NX u u3 := n2.trans (fun j hj => h4.1 j (by unfold scrC at hj; omega))
  have hL : OL P u3 := fun t ht => by
    obtain ⟨m, a1, a2, a3⟩ := h4.2 t (by omega)
    refine ⟨m, a1, a2, fun k => (a3 k).trans ?_⟩
    constructor
    · rintro (h | ⟨x, hx, y, hy, h⟩)
      · cases h
      · exact ⟨h.2.1, (lo_OV hW ht h.2.1).mpr ⟨x, hx, y, hy, h⟩⟩
    · rintro ⟨hk, hl⟩
      exact Or.inr ((lo_OV hW ht hk).mp hl)
  have hlp : lp (gL_told_374 (nI (P.1 4)) u3) FU (stT P 0) = some (.inr (stT P (P.1 4))) := lp_for (stT P) (P.1 4) (by omega) (fun t ht => told_step hW hC3 hz hG hL ht) (by
    simp only [gL_told_374, stT]
    rw [if_pos (by rw [nle (by omega) (by omega)]; omega)])
  have hst0 : stT P 0 = (0, 0, 0, 0, 0, 0, 0) := rfl
  rw [hst0] at hlp
  simp only [fL_told]
  rw [c_count4 hC, Option.bind_some, nm_k, ← hu2, h1, Option.bind_some, Sum.elim_inr, hlp, Option.bind_some, Sum.elim_inr]
  rw [c_count0 hC3, Option.bind_some, c_count1 hC3, Option.bind_some]
  obtain ⟨hAR, hneg⟩ := air_ok hW
  rw [rests_eq hW, if_pos rfl, c_count5 hW hC3, Option.bind_some, show inC P = fb_ct (fun i => P.2 i 5 == 1) (P.1 4) from rfl, if_pos rfl, c_count6 hW hC3, Option.bind_some, if_pos rfl, c_count7 hW hC3, Option.bind_some, high_eq hW, if_pos rfl, c_count8 hW hC3, Option.bind_some, hAR, if_pos rfl, if_neg hneg, c_count9 hW hC3, Option.bind_some, if_pos rfl, c_count10 hW hC3, Option.bind_some, if_pos rfl]
  exact ⟨u3, rfl, n3⟩
end C90
