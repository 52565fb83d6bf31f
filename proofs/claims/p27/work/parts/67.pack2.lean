theorem packUsually_eq {u : S} {P : Bx} (hW : WF P) (hC : CR u 0 P) : ∃ u', fX3_packUsually 0 u = some u' ∧ CR u' 9 (pkf P (usO (bfr P) (P.1 4)) (P.1 4)) ∧ (∀ k, k < P.1 4 → u'.1 163 k = nI (usO (bfr P) (P.1 4) k)) ∧ (∀ k, k < 4 → u'.1 164 k = fig (pkf P (usO (bfr P) (P.1 4)) (P.1 4)) k) ∧ (∀ j, ¬ inB 9 j → j ≠ 155 → j ≠ 157 → j ≠ 163 → j ≠ 164 → u'.1 j = u.1 j) ∧ u'.2 = u.2 := by
  obtain ⟨u1, a1, a2, a3, a4⟩ := copyFrom_CR (a := 9) (b := 0) (by omega) (by omega) (by omega) hW hC
  obtain ⟨u2, b1, b2, b3, b4, b5⟩ := usual_x hW a2
  have hPm := usO_Pm (bf := bfr P) (P.1 4)
  obtain ⟨u3, c1, c2, c3, c4⟩ := ldf_eq (v := 0) (p := 0) hW hPm b2 (cmpt_0 rfl (fun _ _ _ _ => rfl)) (Nat.zero_le _) (Or.inl rfl) (fun k hk => b5 k hk)
  obtain ⟨i1, i2, i3, i4⟩ := pkf_inv hW hPm (Nat.le_refl (P.1 4))
  obtain ⟨u4, d1, d2, d3, d4⟩ := fX3_measure_eq (v := 1) i1 c2 (Or.inl rfl)
  refine ⟨u4, ?_, CR_of i1.2.2.2.2.1 c2 (fun j hj => d3 j (by unfold inB at hj; omega)), fun k hk => ?_, d2, fun j h1 h2 h3 h4 h5 => ?_, by rw [d4, c4, b4, a4]⟩
  · simp only [fX3_packUsually, a1, Option.bind_some, b1]
    rw [show (0 : Int32) = nI 0 from rfl, c1, Option.bind_some, d1, Option.bind_some]
  · rw [d3 163 (by omega), c3 163 (by omega) (by omega) (by omega)]
    exact b5 k hk
  · unfold inB at h1
    rw [d3 j (by omega), c3 j (by omega) h2 h3, b3 j h4, a3 j (by unfold inB; omega)]
theorem frame_sx {u u' : S} (h : ∀ j, ¬ inB 9 j → j ≠ 155 → j ≠ 157 → ¬ (162 ≤ j) → u'.1 j = u.1 j) : SX u u' := by
  have e : ∀ j, ¬ scrC j → u'.1 j = u.1 j := fun j hj => by
    unfold scrC at hj
    exact h j (by unfold inB; omega) (by omega) (by omega) (by omega)
  exact ⟨fun j hj _ => e j hj, by rw [e 160 (by unfold scrC; omega)], by rw [e 160 (by unfold scrC; omega)]⟩
theorem fK.mm {w w' : S} (h : fK w w') : MM w w' := ⟨fun k a _ => h.1 k a, h.2.1 3 (by omega) (by omega) (by omega), h.2.2.1 1 (by omega) (by omega) (by omega) (by omega) (by omega) (by omega) (by omega), h.2.2.1 6 (by omega) (by omega) (by omega) (by omega) (by omega) (by omega) (by omega), h.2.2.1 7 (by omega) (by omega) (by omega) (by omega) (by omega) (by omega) (by omega)⟩
theorem ne_mm {w w' : S} (h : ∀ j, j = 0 ∨ j = 1 ∨ j = 3 → w'.1 j = w.1 j) : MM w w' := ⟨fun k _ _ => by rw [h 1 (by omega)], h 3 (by omega), by rw [h 0 (by omega)], by rw [h 0 (by omega)], by rw [h 0 (by omega)]⟩
theorem takeOver {u w : S} {P Q : Bx} {v : Int32} (hR : RR P u w) (hQ : WF Q) (hQz : Z6 Q) (hQ1 : Q.1 = P.1) (hC : CR u 9 Q) (hv : u.1 164 0 = v) :
    ∃ u' w1, fX6_takeOverPacked u = some (v, u') ∧ fX7_records w = some w1 ∧ MR w1 0 P ∧ ∀ w', MR w' 0 Q → MM w1 w' → RR Q u' w' := by
  obtain ⟨u2, w1, r1, r2, hR2, kx, km⟩ := record_sim hR
  have hC2 : CR u2 9 Q := CR_of hQ.2.2.2.2.1 hC (fun j hj => kx j (by unfold inB at hj; unfold scrC; omega))
  obtain ⟨u3, c1, c2, c3, c4⟩ := copyTrays_CR (a := 0) (b := 9) (by omega) (by omega) (by omega) hQ hC2 hR2.2.1
  have e : inQ P Q = Q := by
    apply Prod.ext
    · funext k
      simp only [inQ]
      split
      · rename_i h4
        rw [h4]
      · rw [hQ1]
    · rfl
  rw [e] at c2
  refine ⟨u3, w1, ?_, r2, hR2.2.2.1, fun w' hM' hmm => hR2.mod hQ c2 hM' ?_ hmm hQz⟩
  · simp only [fX6_takeOverPacked, r1, Option.bind_some, c1]
    rw [gd_t (by decide), show u3.1 (163 + 1) (0 : Int32).toNatClampNeg = u3.1 164 0 from rfl, c3 164 (by unfold inB; omega), kx 164 (by unfold scrC; omega), hv]
  · exact ⟨fun j h1 _ _ => c3 j h1, by rw [c3 160 (by unfold inB; omega)], by rw [c3 160 (by unfold inB; omega)]⟩
theorem pkf_Z6 {P : Bx} {o : Nat → Nat} (hW : WF P) (ho : Pm o (P.1 4)) : ∀ {m : Nat}, m ≤ P.1 4 → Z6 (pkf P o m) := by
  intro m
  induction m with
  | zero => intro _ i _ _; rfl
  | succ m ih =>
    intro hm i hi h0
    have hz := ih (by omega)
    obtain ⟨i1, i2, i3, i4⟩ := pkf_inv hW ho (m := m) (by omega)
    rw [pkf_succ, pk_1] at hi
    rw [pkf_succ] at h0 ⊢
    by_cases hio : i = o m
    · subst hio
      unfold pk at h0 ⊢
      split
      · rename_i hb
        rw [hb] at h0
        exact hz _ hi h0
      · rename_i d hb
        rw [hb] at h0
        simp only [plc_5] at h0
        omega
    · rw [pk_o hio] at h0 ⊢
      exact hz i hi h0
theorem usual_fk {w w' : S} (h : ∀ j, j ≠ 4 → w'.1 j = w.1 j) : MM w w' := ne_mm (fun j hj => h j (by omega))
theorem sim_pack : Sim_pack Rl := by
  intro u w ⟨P, hR⟩
  have hW := hR.1
  have hPm := usO_Pm (bf := bfr P) (P.1 4)
  obtain ⟨i1, i2, i3, i4⟩ := pkf_inv hW hPm (Nat.le_refl (P.1 4))
  obtain ⟨u1, a1, a2, a3, a4, a5, a6⟩ := packUsually_eq hW hR.2.1
  have hx : SX u u1 := frame_sx (fun j h1 h2 h3 h4 => a5 j h1 h2 h3 (by omega) (by omega))
  obtain ⟨u2, w1, b1, b2, b3, b4⟩ := takeOver (hR.scr hx (SM.refl w)) i1 (pkf_Z6 hW hPm (Nat.le_refl _)) i2 a2 (a4 0 (by omega))
  obtain ⟨w2, c1, c2, c3, c4, c5⟩ := usual_m hW b3
  obtain ⟨w3, d1, d2, d3⟩ := m_packs hW c2 hPm c5
  refine ⟨fig (pkf P (usO (bfr P) (P.1 4)) (P.1 4)) 0, u2, w3, ?_, ?_, _, b4 w3 d2 ((usual_fk c3).trans d3.mm)⟩
  · simp only [fX6_pack, a1, Option.bind_some, b1]
  · simp only [fX7_pack, b2, Option.bind_some, c1, d1, comesTo_eq i1 d2 (v := 0) (k := 0) rfl (by omega)]
