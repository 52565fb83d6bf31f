theorem ldf_eq {u : S} {P R : Bx} {o : Nat → Nat} {v p : Nat} (hW : WF P) (ho : Pm o (P.1 4)) (hC : CR u 9 R) (hc : cmpt R P o p) (hp : p ≤ P.1 4) (hv : v = 0 ∨ v = 2) (hA : ∀ k, k < P.1 4 → u.1 (163 + v) k = nI (o k)) :
    ∃ u', fX3_letDownFrom v (nI p) u = some u' ∧ CR u' 9 (pkf P o (P.1 4)) ∧ (∀ j, ¬ (108 ≤ j ∧ j < 120) → j ≠ 155 → j ≠ 157 → u'.1 j = u.1 j) ∧ u'.2 = u.2 := by
  have hn := hW.2.2.2.2.1
  have hol : ol v = 12 := by rcases hv with rfl | rfl <;> rfl
  obtain ⟨u1, a1, a2, a3, a4⟩ := ldf_clear hW ho hC hc hp hv hA
  obtain ⟨i1, i2, i3, i4⟩ := pkf_inv hW ho hp
  have hsv := survey_eq (g := 1) i1 a2 (by omega)
  obtain ⟨e, h1, u', rfl, h2, h3, h4⟩ := lp_go (step := gX3_letDownFrom_46 v) (a := (nI p, tT u1 1 (tpF (pkf P o p)))) (fun i a => ∃ u', a = (nI (p + i), u') ∧ CR u' 9 (pkf P o (p + i)) ∧ (∀ k, k < 100 → u'.1 (156 + 1) k = nI (tpF (pkf P o (p + i)) k)) ∧ (∀ j, ¬ (108 ≤ j ∧ j < 120) → j ≠ 155 → j ≠ 157 → u'.1 j = u.1 j) ∧ u'.2 = u.2) (fun a => ∃ u', a = (nI (P.1 4), u') ∧ CR u' 9 (pkf P o (P.1 4)) ∧ (∀ j, ¬ (108 ≤ j ∧ j < 120) → j ≠ 155 → j ≠ 157 → u'.1 j = u.1 j) ∧ u'.2 = u.2) (P.1 4 - p) ⟨_, rfl, tT_CR (by omega) i1.2.2.2.2.1 a2, fun k hk => tT_at hk, fun j hj _ h157 => by rw [tT_ne (by omega)]; exact a3 j hj, a4⟩ (by omega)
    (fun i a hi ⟨u', e, k1, k2, k3, k4⟩ => by
      subst e
      left
      obtain ⟨q1, q2, q3, q4⟩ := pkf_inv hW ho (m := p + i) (by omega)
      have e4 : u'.1 (132 + 9) 4 = nI (P.1 4) := by rw [← q2]; exact k1.1 4 (by omega)
      have hok := ho.1 (p + i) (by omega)
      have h5 : ¬ (pkf P o (p + i)).2 (o (p + i)) 5 = 1 := by have := (q4 (p + i) (by omega) (by omega)).1; omega
      have htQ : o (p + i) < (pkf P o (p + i)).1 4 := by rw [q2]; exact hok
      obtain ⟨u2, s1, s2⟩ := search1_eq (g := 1) q1 (show 9 < 11 by omega) k1 htQ k2
      have hx3 : u2.1 (163 + v) (p + i) = nI (o (p + i)) := by rw [s2.1 _ (by omega), k3 (163 + v) (by omega) (by omega) (by omega), hA _ (by omega)]
      simp only [gX3_letDownFrom_46, e4]
      rw [if_neg (by rw [nle (by omega) (by omega)]; omega), gd_t (by rw [hol]; exact inb_n (by omega) (by omega)), ncl (by omega), k3 (163 + v) (by omega) (by omega) (by omega), hA (p + i) (by omega), gd_t (inb_n (by omega) (by omega)), ncl (by omega), s1, Option.bind_some, show nI (p + i) + 1 = nI (p + (i + 1)) from nadd (p + i) 1]
      obtain ⟨s2a, s2b, s3, s4⟩ := s2
      have hCu2 : CR u2 9 (pkf P o (p + i)) := CR_of q1.2.2.2.2.1 k1 (fun j hj => s2a j (by unfold inB at hj; omega))
      have hpk : pkf P o (p + (i + 1)) = pk (pkf P o (p + i)) (o (p + i)) := rfl
      rcases hb : best (pkf P o (p + i)) (o (p + i)) with _ | d
      · rw [s3 hb, if_pos (by decide)]
        have hpk' : pkf P o (p + (i + 1)) = pkf P o (p + i) := by
          rw [hpk]
          unfold pk
          rw [hb]
        refine ⟨_, rfl, u2, rfl, by rw [hpk']; exact hCu2, fun k hk => by rw [hpk', s2a _ (by omega)]; exact k2 k hk, fun j x y z => by rw [s2a j (by omega)]; exact k3 j x y z, by rw [s2b]; exact k4⟩
      · obtain ⟨b1, b2, b3, b4, b5, ⟨z, z1, z2, z3⟩, b6, b7, b8, b9, b10⟩ := s4 d hb
        have hpk' : pkf P o (p + (i + 1)) = plc (pkf P o (p + i)) (o (p + i)) d.1 d.2.1 d.2.2.1 := by
          rw [hpk]
          unfold pk
          rw [hb]
        have hWp := plc_WF q1 htQ h5 b4 b2 b3 (by rw [← b5]; exact b1)
        obtain ⟨u3, l1, l2, l3, l4, l5⟩ := lie_CR (b := 9) (by omega) hCu2 q1.2.2.2.2.1 htQ b4 (plc_rs q1 htQ h5 b2 b3) (fun j hj hji j5 => plc_rs_o q1 htQ hj h5 hji j5)
        rw [← b5] at l1
        have hlift := raise_eq (u := u3) (g := 1) (b := 9) (i := o (p + i)) (F := tpF (pkf P o (p + i))) hWp l2 htQ (by omega) (fun k => tpm_le q1)
        rw [tT_self (fun k hk => by rw [l3 _ (by omega), s2a _ (by omega)]; exact k2 k hk)] at hlift
        rw [z3, if_neg (by rw [show (0 : Int32) = nI 0 from rfl, nle (by omega) (by omega)]; omega), b6, b7, b8, b9, b10, l1, Option.bind_some, hlift, Option.bind_some]
        refine ⟨_, rfl, _, rfl, ?_, fun k hk => ?_, fun j x y z => ?_, ?_⟩
        · rw [hpk']
          exact tT_CR (by omega) hWp.2.2.2.2.1 l2
        · rw [tT_at hk, hpk']
          unfold tpF
          rw [tpm_plc htQ h5]
        · rw [tT_ne (by omega), l3 j (by omega), s2a j (by omega)]
          exact k3 j x y z
        · show u3.2 = u.2
          rw [l4, s2b, k4])
    (fun a ⟨u', e, k1, k2, k3, k4⟩ => by
      subst e
      rw [show p + (P.1 4 - p) = P.1 4 by omega] at k1 ⊢
      obtain ⟨q1, q2, q3, q4⟩ := pkf_inv hW ho (Nat.le_refl (P.1 4))
      have e4 : u'.1 (132 + 9) 4 = nI (P.1 4) := by rw [← q2]; exact k1.1 4 (by omega)
      simp only [gX3_letDownFrom_46, e4]
      rw [if_pos (by rw [nle (by omega) (by omega)]; omega)]
      exact ⟨_, rfl, u', rfl, k1, k3, k4⟩)
  refine ⟨u', ?_, h2, h3, h4⟩
  simp only [fX3_letDownFrom, a1, Option.bind_some, hsv, h1]
/-- the figures of a packing -/
noncomputable def fig (Q : Bx) (k : Nat) : Int32 := if k = 0 then nI (Q.1 4) - nI (inC Q) else if k = 1 then nI (FS Q (Q.1 4)) else if k = 2 then nI (HT Q) else AR Q
theorem fX3_measure_eq {u : S} {Q : Bx} {v : Nat} (hW : WF Q) (hC : CR u 9 Q) (hv : v = 1 ∨ v = 3) : ∃ u', fX3_measure v u = some u' ∧ (∀ k, k < 4 → u'.1 (163 + v) k = fig Q k) ∧ (∀ j, j ≠ 163 + v → u'.1 j = u.1 j) ∧ u'.2 = u.2 := by
  have hol : ol v = 4 := by rcases hv with rfl | rfl <;> rfl
  have hn := hW.2.2.2.2.1
  obtain ⟨m, i1, i2, i3, i4⟩ := inside_bc hW hC
  have up1 : ∀ (s : S) k x, CR s 9 Q → CR (up s (163 + v) k x) 9 Q := fun s k x h => CR_of hn h (fun j hj => up_ne _ _ _ _ (by unfold inB at hj; omega))
  obtain ⟨s1, e1⟩ : ∃ s, s = up u (163 + v) 0 (nI (Q.1 4) - nI (inC Q)) := ⟨_, rfl⟩
  obtain ⟨s2, e2⟩ : ∃ s, s = up s1 (163 + v) 1 (nI (FS Q (Q.1 4))) := ⟨_, rfl⟩
  obtain ⟨s3, e3⟩ : ∃ s, s = up s2 (163 + v) 2 (nI (HT Q)) := ⟨_, rfl⟩
  have c1 : CR s1 9 Q := by rw [e1]; exact up1 _ _ _ hC
  have c2 : CR s2 9 Q := by rw [e2]; exact up1 _ _ _ c1
  have c3 : CR s3 9 Q := by rw [e3]; exact up1 _ _ _ c2
  simp only [fX3_measure, i1, i4, Option.bind_some, nm_k, hC.1 4 (show 4 < 5 by omega), show (0 : Int32).toNatClampNeg = 0 from rfl, show (1 : Int32).toNatClampNeg = 1 from rfl, show (2 : Int32).toNatClampNeg = 2 from rfl, show (3 : Int32).toNatClampNeg = 3 from rfl, ← e1]
  rw [gd_t (by rw [hol]; decide), faults_eq hW c1, Option.bind_some, gd_t (by rw [hol]; decide)]
  simp only [← e2]
  rw [height_eq hW c2, Option.bind_some, gd_t (by rw [hol]; decide)]
  simp only [← e3]
  rw [air_eq hW c3, Option.bind_some, gd_t (by rw [hol]; decide)]
  refine ⟨_, rfl, fun k hk => ?_, fun j hj => ?_, by rw [e3, e2, e1]; rfl⟩
  · rw [up_at, e3, up_at, e2, up_at, e1, up_at]
    unfold fig
    rcases (show k = 0 ∨ k = 1 ∨ k = 2 ∨ k = 3 by omega) with rfl | rfl | rfl | rfl
    · rw [if_neg (by omega), if_neg (by omega), if_neg (by omega), if_pos (by omega), if_pos rfl]
    · rw [if_neg (by omega), if_neg (by omega), if_pos (by omega), if_neg (by omega), if_pos rfl]
    · rw [if_neg (by omega), if_pos (by omega), if_neg (by omega), if_neg (by omega), if_pos rfl]
    · rw [if_pos (by omega), if_neg (by omega), if_neg (by omega), if_neg (by omega)]
  · rw [up_ne _ _ _ _ hj, e3, up_ne _ _ _ _ hj, e2, up_ne _ _ _ _ hj, e1, up_ne _ _ _ _ hj]
theorem comesTo_eq {w : S} {Q : Bx} {k : Nat} {v : Int32} (hW : WF Q) (hM : MR w 0 Q) (hv : v = nI k) (hk : k < 4) : fX7_comesTo v w = some (fig Q k) := by
  subst hv
  simp only [fX7_comesTo, hM.n, inBox_eq hW hM, m_faults hW hM, m_height hW hM, m_air hW hM, Option.bind_some]
  unfold fig
  rcases (show k = 0 ∨ k = 1 ∨ k = 2 ∨ k = 3 by omega) with rfl | rfl | rfl | rfl <;> rfl
/-- what the reference's packing leaves as it was -/
def fK (w w' : S) : Prop := (∀ k, 125 ≤ k → w'.1 1 k = w.1 1 k) ∧ (∀ j, j ≠ 0 → j ≠ 1 → j ≠ 2 → w'.1 j = w.1 j) ∧ (∀ k, k ≠ 3 → k ≠ 4 → k ≠ 11 → k ≠ 12 → k ≠ 13 → k ≠ 14 → k ≠ 15 → w'.1 0 k = w.1 0 k) ∧ w'.2 = w.2
theorem fK.refl (w : S) : fK w w := ⟨fun _ _ => rfl, fun _ _ _ _ => rfl, fun _ _ _ _ _ _ _ _ => rfl, rfl⟩
theorem fK.trans {a b c : S} (h1 : fK a b) (h2 : fK b c) : fK a c := ⟨fun k hk => (h2.1 k hk).trans (h1.1 k hk), fun j x y z => (h2.2.1 j x y z).trans (h1.2.1 j x y z), fun k q1 q2 q3 q4 q5 q6 q7 => (h2.2.2.1 k q1 q2 q3 q4 q5 q6 q7).trans (h1.2.2.1 k q1 q2 q3 q4 q5 q6 q7), h2.2.2.2.trans h1.2.2.2⟩
theorem KM.fk {P : Bx} {t : Nat} {w w' : S} {F : Nat → Nat} {c : Cd × Nat} (h : KM P t (tW w F) c w') : fK w w' := by
  obtain ⟨k1, k2, k3, -⟩ := h
  exact ⟨fun k _ => by rw [k1 1 (by omega), tW_ne (by omega)], fun j x y z => by rw [k1 j x, tW_ne z], fun k q1 q2 q3 q4 q5 q6 q7 => by rw [k3 k q1 q2 q3 q4 q5 q6 q7, tW_ne (by omega)], k2⟩
theorem KM.mr {P : Bx} {t : Nat} {w w' : S} {F : Nat → Nat} {c : Cd × Nat} (hn : P.1 4 ≤ 12) (hM : MR w 0 P) (h : KM P t (tW w F) c w') : MR w' 0 P := MR_of hn hM (fun k _ => by rw [h.1 1 (by omega), tW_ne (by omega)])
theorem m_packs {w : S} {P : Bx} {o : Nat → Nat} (hW : WF P) (hM : MR w 0 P) (ho : Pm o (P.1 4)) (hA : ∀ k, k < P.1 4 → w.1 4 k = nI (o k)) :
    ∃ w', fX7_packs w = some w' ∧ MR w' 0 (pkf P o (P.1 4)) ∧ fK w w' := by
  have hn := hW.2.2.2.2.1
  have hE : fK w (emW w (P.1 4)) := ⟨fun k hk => by simp only [emW]; rw [if_neg (by omega)], fun j x y z => by funext k; simp only [emW]; rw [if_neg (by omega)], fun k _ _ _ _ _ _ _ => by simp only [emW]; rw [if_neg (by omega)], rfl⟩
  obtain ⟨e, h1, w', rfl, h2, h3⟩ := lp_go (step := gX7_packs_6) (a := (nI 0, emW w (P.1 4))) (fun i a => ∃ w', a = (nI i, w') ∧ MR w' 0 (pkf P o i) ∧ fK w w') (fun a => ∃ w', a = (nI (P.1 4), w') ∧ MR w' 0 (pkf P o (P.1 4)) ∧ fK w w') (P.1 4) ⟨_, rfl, empties_MR hn hM, hE⟩ (by omega)
    (fun i a hi ⟨w', e, k1, k2⟩ => by
      subst e
      left
      obtain ⟨q1, q2, q3, q4⟩ := pkf_inv hW ho (m := i) (by omega)
      have hok := ho.1 i hi
      have h5 : ¬ (pkf P o i).2 (o i) 5 = 1 := by have := (q4 i (by omega) (by omega)).1; omega
      have htQ : o i < (pkf P o i).1 4 := by rw [q2]; exact hok
      have h4 : w'.1 4 i = nI (o i) := by rw [k2.2.1 4 (by omega) (by omega) (by omega), hA i hi]
      obtain ⟨w2, f1, f2⟩ := finds_eq q1 k1 (v := nI (o i)) rfl htQ
      have f3 := f2.fk
      have f4 := f2.mr q1.2.2.2.2.1 k1
      have h42 : w2.1 4 i = nI (o i) := by rw [f3.2.1 4 (by omega) (by omega) (by omega), h4]
      obtain ⟨-, -, -, -, g1, g2⟩ := f2
      simp only [gX7_packs_6, k1.n, Option.bind_some]
      rw [q2, if_neg (by rw [nle (by omega) (by omega)]; omega), gd_t (inb_n (by omega) (by omega)), ncl (by omega), h4, f1, Option.bind_some, show nI i + 1 = nI (i + 1) from nadd i 1]
      have hpk : pkf P o (i + 1) = pk (pkf P o i) (o i) := rfl
      rcases hb : best (pkf P o i) (o i) with _ | d
      · rw [g1 hb, if_pos rfl]
        have hpk' : pkf P o (i + 1) = pkf P o i := by
          rw [hpk]
          unfold pk
          rw [hb]
        exact ⟨_, rfl, w2, rfl, by rw [hpk']; exact f4, k2.trans f3⟩
      · obtain ⟨b1, b2, b3, b4, b5⟩ := g2 d hb
        obtain ⟨⟨y1, y2⟩, y3, y4, y5⟩ := best_ok hb
        have hpk' : pkf P o (i + 1) = plc (pkf P o i) (o i) d.1 d.2.1 d.2.2.1 := by
          rw [hpk]
          unfold pk
          rw [hb]
        have w2d := q1.2.2.1
        obtain ⟨w3, c1, c2, c3, c4, c5, c6⟩ := comes_eq q1 f4 htQ y3 (v := nI (o i)) (vx := w2.1 0 11) (vy := w2.1 0 12) (vt := w2.1 0 13) rfl b3 b4 b5 y1 y2
        rw [b2, if_neg (not9 (by omega)), gd_t (inb_n (by omega) (by omega)), h42, c1, Option.bind_some]
        exact ⟨_, rfl, w3, rfl, by rw [hpk']; exact c2, k2.trans (f3.trans ⟨c3, c4, fun k q1 q2 _ _ _ _ _ => c5 k q1 q2, c6⟩)⟩)
    (fun a ⟨w', e, k1, k2⟩ => by
      subst e
      obtain ⟨q1, q2, q3, q4⟩ := pkf_inv hW ho (Nat.le_refl (P.1 4))
      simp only [gX7_packs_6, k1.n, Option.bind_some]
      rw [q2, if_pos (by rw [nle (by omega) (by omega)]; omega)]
      exact ⟨_, rfl, w', rfl, k1, k2⟩)
  refine ⟨w', ?_, h2, h3⟩
  simp only [fX7_packs, empties_eq hn hM, Option.bind_some]
  rw [show ((0 : Int32), emW w (P.1 4)) = (nI 0, emW w (P.1 4)) from rfl, h1, Option.bind_some]
