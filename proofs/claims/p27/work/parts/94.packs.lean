/-! ifPacked, pack, undo -/
section C94
variable {P : Bx} {u : S}
/-- the usual order, and the box packed by it -/
def us (P : Bx) : Nat → Nat := usO (bfr P) (P.1 4)
def Qk (P : Bx) (m : Nat) : Bx := pkf P (us P) m
theorem us_Pm : Pm (us P) (P.1 4) := usO_Pm (bf := bfr P) (P.1 4)
theorem packU (hW : WF P) (hC : CR u 0 P) : ∃ u', fX3_packUsually 0 u = some u' ∧ CR u' 9 (Qk P (P.1 4)) ∧ (∀ k, k < P.1 4 → u'.1 163 k = nI (us P k)) ∧ (∀ k, k < 4 → u'.1 164 k = fig (Qk P (P.1 4)) k) ∧ NX u u' := by
  obtain ⟨u', h1, h2, h3, h4, h5, -⟩ := packUsually_eq hW hC
  exact ⟨u', h1, h2, h3, h4, fun j hj => h5 j (by unfold inB; unfold scrC at hj; omega) (by unfold scrC at hj; omega) (by unfold scrC at hj; omega) (by unfold scrC at hj; omega) (by unfold scrC at hj; omega)⟩
theorem c_ifPacked (hW : WF P) (hC : CR u 0 P) {x : Nat} (hx : x < 4) : ∃ u', fX6_ifPacked 0 (nI x) u = some (fig (Qk P (P.1 4)) x, u') ∧ NX u u' := by
  obtain ⟨u', h1, -, -, h4, h5⟩ := packU hW hC
  refine ⟨u', ?_, h5⟩
  simp only [fX6_ifPacked]
  rw [show fX6_isWithin (nI x) 0 3 u = some 1 from isW1 (a := 0) (b := 3) u (by omega) (by omega) (by omega), Option.bind_some, if_neg (show ¬ (1 : Int32) = 0 by decide), if_pos trivial, if_pos trivial, h1, Option.bind_some, if_neg (by rw [show (4 : Int32) = nI 4 from rfl, nle (by omega) (by omega)]; omega), gd_t (inb_n hx (by omega)), ncl (by omega), show u'.1 (163 + 1) x = fig (Qk P (P.1 4)) x from h4 x hx]
theorem c_ifPackedK (hW : WF P) (hC : CR u 0 P) {k : Nat} (hk : k ≤ P.1 4) : ∃ u', fX6_ifPacked 0 (nI (10 + k)) u = some (if k < P.1 4 then nI (us P k) else -9, u') ∧ NX u u' := by
  have hn := hW.2.2.2.2.1
  obtain ⟨u', h1, -, h3, -, h5⟩ := packU hW hC
  have hC' := h5.CR (b := 0) (by omega) hn hC
  refine ⟨u', ?_, h5⟩
  simp only [fX6_ifPacked]
  rw [show fX6_isWithin (nI (10 + k)) 0 3 u = some 0 from isW0 (a := 0) (b := 3) u (by omega) (by omega) (by omega) (by omega), Option.bind_some, if_pos rfl, if_pos (by rw [show (10 : Int32) = nI 10 from rfl, nle (by omega) (by omega)]; omega), if_pos trivial, if_pos trivial, h1, Option.bind_some, if_pos (by rw [show (4 : Int32) = nI 4 from rfl, nle (by omega) (by omega)]; omega), show nI (10 + k) - 10 = nI k from (nsub (a := 10 + k) (b := 10) (by omega)).trans (by congr 1; omega)]
  by_cases h : k < P.1 4
  · rw [has_n hn hC' h, Option.bind_some, if_neg (show ¬ (1 : Int32) = 0 by decide), gd_t (inb_n (by omega) (by omega)), ncl (by omega), if_pos h, show u'.1 (163 + 0) k = nI (us P k) from h3 k h]
  · have hh : fX0_has 0 (nI k) u' = some 0 := by
      simp only [fX0_has]
      rw [if_neg (by rw [show (0 : Int32) = nI 0 from rfl, nlt (by omega) (by omega)]; omega), hC'.1 4 (by omega), if_pos (by rw [nle (by omega) (by omega)]; omega)]
    rw [hh, Option.bind_some, if_pos rfl, if_neg h]
theorem Qk_ok (hW : WF P) {m : Nat} (hm : m ≤ P.1 4) : WF (Qk P m) ∧ (Qk P m).1 = P.1 ∧ (∀ i k, k < 5 → (Qk P m).2 i k = P.2 i k) ∧ ∀ k, m ≤ k → k < P.1 4 → (Qk P m).2 (us P k) 5 = 0 ∧ (Qk P m).2 (us P k) 6 = 0 := pkf_inv hW us_Pm hm
theorem Qk_Z6 (hW : WF P) {m : Nat} (hm : m ≤ P.1 4) : Z6 (Qk P m) := pkf_Z6 hW us_Pm hm
theorem Qk_succ {m : Nat} : Qk P (m + 1) = pk (Qk P m) (us P m) := rfl
theorem GP_pk {t : Nat} (hW : WF P) (hG : GP P) (ht : t < P.1 4) (h5 : P.2 t 5 = 0) : GP (pk P t) := by
  unfold pk
  split
  · exact hG
  · rename_i d hd
    obtain ⟨⟨b1, b2⟩, b3, b4, -⟩ := best_ok hd
    exact GP_plc hW hG ht h5 ⟨b1, b2⟩
theorem Qk_GP (hW : WF P) : ∀ {m : Nat}, m ≤ P.1 4 → GP (Qk P m) := by
  intro m
  induction m with
  | zero =>
    intro _ i _ h5
    have h5 : (emp P).2 i 5 = 1 := h5
    simp [emp] at h5
  | succ m ih =>
    intro hm
    obtain ⟨q1, q2, q3, q4⟩ := Qk_ok hW (m := m) (by omega)
    rw [Qk_succ]
    refine GP_pk q1 (ih (by omega)) ?_ (q4 m (Nat.le_refl m) (by omega)).1
    rw [q2]
    exact us_Pm.1 m (by omega)
theorem c_pack (hR : RX P u) : ∃ u', fX6_pack u = some (fig (Qk P (P.1 4)) 0, u') ∧ RX (Qk P (P.1 4)) u' ∧ HP P u' := by
  obtain ⟨hW, hC, hz, hH⟩ := id hR
  have hn := hW.2.2.2.2.1
  obtain ⟨u1, a1, a2, -, a4, a5⟩ := packU hW hC
  obtain ⟨q1, q2, q3, q4⟩ := Qk_ok hW (Nat.le_refl (P.1 4))
  obtain ⟨u2, r1, hR2, hP2, kx⟩ := c_record (a5.RX hR)
  have hC2 : CR u2 9 (Qk P (P.1 4)) := CR_of q1.2.2.2.2.1 a2 (fun j hj => kx j (by unfold inB at hj; unfold scrC; omega))
  obtain ⟨u3, c1, c2, c3, -⟩ := copyTrays_CR (a := 0) (b := 9) (by omega) (by omega) (by omega) q1 hC2 hR2.2.1
  have e : inQ P (Qk P (P.1 4)) = Qk P (P.1 4) := by
    apply Prod.ext
    · funext k
      simp only [inQ]
      split
      · rename_i h4
        rw [h4]
      · rw [q2]
    · rfl
  rw [e] at c2
  have e158 : u3.1 158 = u2.1 158 := c3 158 (by unfold inB; omega)
  refine ⟨u3, ?_, ⟨q1, c2, Qk_Z6 hW (Nat.le_refl _), HS.of e158 hR2.2.2.2⟩, ?_⟩
  · simp only [fX6_pack, fX6_takeOverPacked]
    rw [a1, Option.bind_some, r1, Option.bind_some, c1, Option.bind_some, gd_t (by decide), Option.bind_some, show u3.1 (163 + 1) (0 : Int32).toNatClampNeg = u3.1 164 0 from rfl, c3 164 (by unfold inB; omega), kx 164 (by unfold scrC; omega), a4 0 (by omega)]
  · obtain ⟨n, o, h0, h1, h2, h3, h4, h5⟩ := hP2
    exact ⟨n, o, h0, h1, h2, by rw [e158]; exact h3, by rw [e158]; exact h4, CR_of hn h5 (fun j hj => c3 j (by unfold inB at hj ⊢; omega))⟩
theorem c_undo (hW : WF P) (hz : Z6 P) (hP : HP P u) : ∃ r u', fX6_undo u = some (r, u') ∧ ¬ r < 0 ∧ RX P u' := by
  obtain ⟨n, o, h0, h1, h2, h3, h4, h5⟩ := hP
  have hn := hW.2.2.2.2.1
  obtain ⟨v, hv⟩ : ∃ v, v = up u 158 0 (nI (n - 1)) := ⟨_, rfl⟩
  have v0 : v.1 158 0 = nI (n - 1) := by rw [hv]; exact up_get _ _ _ _
  have v1 : v.1 158 1 = nI o := by rw [hv, up_at, if_neg (by omega)]; exact h4
  have hvC : CR v (1 + (o + (n - 1)) % 8) P := CR_of hn h5 (fun j hj => by rw [hv]; exact up_ne _ _ _ _ (by unfold inB at hj; omega))
  obtain ⟨x, x1, x2, x3, -⟩ := copyFrom_CR (a := 0) (b := 1 + (o + (n - 1)) % 8) (by omega) (by omega) (by omega) hW hvC
  have e158 : x.1 158 = v.1 158 := x3 158 (by unfold inB; omega)
  refine ⟨nI (n - 1), x, ?_, ?_, hW, x2, hz, n - 1, o, by omega, h2, by rw [e158]; exact v0, by rw [e158]; exact v1⟩
  · simp only [fX6_undo, fX2_restore]
    rw [h3, if_neg (by rw [show (0 : Int32) = nI 0 from rfl, neq (by omega) (by omega)]; omega), if_neg (by rw [show (0 : Int32) = nI 0 from rfl, nle (by omega) (by omega)]; omega), show nI n - 1 = nI (n - 1) from nsub (b := 1) (by omega), nm_k, ← hv, v0, v1, nadd, show (8 : Int32) = nI 8 from rfl, nmod (by omega) (by omega), gd_t (inb_n (by omega) (by omega)), ncl (by omega), x1, Option.bind_some, Option.bind_some, e158, v0]
  · rw [show (0 : Int32) = nI 0 from rfl, nlt (by omega) (by omega)]
    omega
end C94
