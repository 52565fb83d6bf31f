/-! the law's packed: the whole -/
section C96
variable {P Q : Bx} {u : S}
theorem same_k {v : S} (hW : WF Q) (hC : CR u 0 Q) (hD : CR (shS 168 u) 0 Q) {t : Nat} (ht : t < Q.1 4) : lp (gL_packed_439 (nI t) u) FU 5 = some (.inr 11) := by
  obtain ⟨b, h1, h2⟩ := lp_fogR (step := gL_packed_439 (nI t) u) (a := 5) (fun i a => a = nI (5 + i)) 6 (by omega) (fun i a hi ha => by
    subst ha
    refine ⟨nI (5 + (i + 1)), ?_, rfl⟩
    simp only [gL_packed_439]
    rw [if_neg (by rw [show (11 : Int32) = nI 11 from rfl, nle (by omega) (by omega)]; omega), c_tray hW hC ht (by omega), Option.bind_some, c_tray hW hD ht (by omega), Option.bind_some, if_pos rfl, show nI (5 + i) + 1 = nI (5 + (i + 1)) from nadd (5 + i) 1]) (fun a ha => by
    subst ha
    simp only [gL_packed_439]
    rw [if_pos (by rw [show (11 : Int32) = nI 11 from rfl, nle (by omega) (by omega)]; omega)]) rfl
  rw [h1, h2]
  rfl
theorem same_t (hW : WF Q) (hC : CR u 0 Q) (hD : CR (shS 168 u) 0 Q) : ∃ b, lp (gL_packed_430 (nI (Q.1 4)) u) FU 0 = some (.inr b) := by
  have hn := hW.2.2.2.2.1
  obtain ⟨b, h1, h2⟩ := lp_fogR (step := gL_packed_430 (nI (Q.1 4)) u) (a := 0) (fun t a => a = nI t) (Q.1 4) (by omega) (fun t a ht ha => by
    subst ha
    refine ⟨nI (t + 1), ?_, rfl⟩
    simp only [gL_packed_430]
    rw [if_neg (by rw [nle (by omega) (by omega)]; omega), same_k (v := u) hW hC hD ht, Option.bind_some, Sum.elim_inr, show nI t + 1 = nI (t + 1) from nadd t 1]) (fun a ha => by
    subst ha
    simp only [gL_packed_430]
    rw [if_pos (by rw [nle (by omega) (by omega)]; omega)]) rfl
  exact ⟨b, h1⟩
theorem c_packed (hR : RX P u) : ∃ u', fL_packed u = some (1, u') ∧ RX (Qk P (P.1 4)) u' ∧ HP P u' := by
  obtain ⟨hW, hC, hz, hH⟩ := id hR
  have hn := hW.2.2.2.2.1
  obtain ⟨Q, hQ⟩ : ∃ Q, Q = Qk P (P.1 4) := ⟨_, rfl⟩
  obtain ⟨q1, q2, q3, q4⟩ := Qk_ok hW (Nat.le_refl (P.1 4))
  rw [← hQ] at q1 q2
  -- the other object
  obtain ⟨u2, hu2⟩ : ∃ u2, u2 = niS u := ⟨_, rfl⟩
  have n2 : NX u u2 := hu2 ▸ NX_ni u
  have R0 : RX (Fx D0 (fun _ _ => 0) 0) (shS 168 u2) := hu2 ▸ (NX_sni u).RX RX_0
  have hC2 := n2.CR (b := 0) (by omega) hn hC
  obtain ⟨v6, a6, O6, R6⟩ := f_setBox FO_0 R0 hW.1 hW.2.1 hW.2.2.1
  obtain ⟨u7, hu7⟩ : ∃ u7, u7 = ptS 168 168 u2 v6 := ⟨_, rfl⟩
  have n7 : NX u u7 := hu7 ▸ n2.trans (NX_pt 168 u2 v6)
  have R7 := (hu7 ▸ NX_shpt (Nat.le_refl 168) u2 v6 : NX v6 (shS 168 u7)).RX R6
  obtain ⟨v9, a9, O9, R9⟩ := f_setShare O6 R7 hW.2.2.2.1
  obtain ⟨u10, hu10⟩ : ∃ u10, u10 = ptS 168 168 u7 v9 := ⟨_, rfl⟩
  have n10 : NX u u10 := hu10 ▸ n7.trans (NX_pt 168 u7 v9)
  have R10 := (hu10 ▸ NX_shpt (Nat.le_refl 168) u7 v9 : NX v9 (shS 168 u10)).RX R9
  have RB : RX (Fx P.1 (emp P).2 0) (shS 168 u10) := by
    have c := CF.of R10
    refine (FO_emp hW (Nat.zero_le _)).rx ⟨fun k hk => ?_, fun i k hi _ => absurd hi (by omega)⟩ R10.2.2.2
    have := c.1 k hk
    rcases (show k = 0 ∨ k = 1 ∨ k = 2 ∨ k = 3 ∨ k = 4 by omega) with rfl | rfl | rfl | rfl | rfl <;> exact this
  obtain ⟨⟨kk, w⟩, b1, b2, b3⟩ := by_adds hW hC n10 RB
  have b2 : NX u w := b2
  have b3 : RX (emp P) (shS 168 w) := b3
  obtain ⟨⟨z, zo, k2, x⟩, c1, c2, c3, c4⟩ := by_packs hR b2 b3
  have c2 : zo = fig (Qk P (P.1 4)) 0 := c2
  have c3 : NX u x := c3
  have c4 : RX (Qk P (P.1 4)) (shS 168 x) := c4
  subst c2
  rw [← hQ] at c4 c1
  -- the questions
  have ask : ∀ (v : S) (i : Nat), i < 4 → NX u v → RX Q (shS 168 v) → ∃ v', fX6_ifPacked 0 (nI i) v = some (fig Q i, v') ∧ NX u (mgS 168 v v') ∧ RX Q (shS 168 (mgS 168 v v')) := fun v i hi hv hb => by
    obtain ⟨v', e1, e2⟩ := c_ifPacked hW (hv.CR (b := 0) (by omega) hn hC) hi
    exact ⟨v', by rw [hQ]; exact e1, hv.trans (NX_mg e2), (NX_shmg v v').RX hb⟩
  obtain ⟨y0, e0, m0, r0⟩ := ask x 0 (by omega) c3 c4
  obtain ⟨y1, e1, m1, r1⟩ := ask _ 1 (by omega) m0 r0
  obtain ⟨y2, e2, m2, r2⟩ := ask _ 2 (by omega) m1 r1
  obtain ⟨y3, e3, m3, r3⟩ := ask _ 3 (by omega) m2 r2
  obtain ⟨x3, hx3⟩ : ∃ x3, x3 = mgS 168 (mgS 168 (mgS 168 (mgS 168 x y0) y1) y2) y3 := ⟨_, rfl⟩
  rw [← hx3] at m3 r3
  obtain ⟨y4, e4, m4⟩ := c_ifPackedK hW (m3.CR (b := 0) (by omega) hn hC) (Nat.le_refl (P.1 4))
  rw [if_neg (by omega)] at e4
  obtain ⟨x4, hx4⟩ : ∃ x4, x4 = mgS 168 x3 y4 := ⟨_, rfl⟩
  have m4' : NX u x4 := hx4 ▸ m3.trans (NX_mg m4)
  have r4 : RX Q (shS 168 x4) := hx4 ▸ (NX_shmg x3 y4).RX r3
  obtain ⟨y5, e5, p1, p2⟩ := c_pack (m4'.RX hR)
  rw [← hQ] at e5 p1
  obtain ⟨x5, hx5⟩ : ∃ x5, x5 = mgS 168 x4 y5 := ⟨_, rfl⟩
  have s1 : NX y5 x5 := hx5 ▸ NX_qmg x4 y5
  have r5 : RX Q (shS 168 x5) := hx5 ▸ (NX_shmg x4 y5).RX r4
  obtain ⟨bb, hbb⟩ := same_t q1 (s1.RX p1).2.1 r5.2.1
  rw [show Q.1 4 = P.1 4 by rw [q2]] at hbb
  refine ⟨x5, ?_, by rw [← hQ]; exact s1.RX p1, s1.HP hn p2⟩
  have f1 : fig Q 1 = nI (FS Q (Q.1 4)) := rfl
  have f2 : fig Q 2 = nI (HT Q) := rfl
  have f3 : fig Q 3 = AR Q := rfl
  simp only [fL_packed]
  rw [c_count4 hC, Option.bind_some, nm_k, ← hu2, c_count0 hC2, Option.bind_some, c_count1 hC2, Option.bind_some, c_count2 hC2, Option.bind_some, a6, Option.bind_some, nm_k, ← hu7, c_count3 (n7.CR (b := 0) (by omega) hn hC), Option.bind_some, a9, Option.bind_some, nm_k, ← hu10, b1, Option.bind_some, c1, Option.bind_some, Sum.elim_inr]
  rw [show fX6_ifPacked 0 0 x = some (fig Q 0, y0) from e0, Option.bind_some, nm_k, if_pos rfl, show fX6_ifPacked 0 1 (mgS 168 x y0) = some (fig Q 1, y1) from e1, Option.bind_some, nm_k, c_count9 r1.1 r1.2.1, Option.bind_some, if_pos f1, show fX6_ifPacked 0 2 (mgS 168 (mgS 168 x y0) y1) = some (fig Q 2, y2) from e2, Option.bind_some, nm_k, c_count7 r2.1 r2.2.1, Option.bind_some, if_pos f2, show fX6_ifPacked 0 3 (mgS 168 (mgS 168 (mgS 168 x y0) y1) y2) = some (fig Q 3, y3) from e3, Option.bind_some, nm_k, ← hx3, c_count8 r3.1 r3.2.1, Option.bind_some, if_pos f3, show (10 : Int32) + nI (P.1 4) = nI (10 + P.1 4) from nadd 10 _, e4, Option.bind_some, nm_k, if_pos rfl, ← hx4, e5, Option.bind_some, nm_k, ← hx5, if_pos rfl, hbb, Option.bind_some, Sum.elim_inr]
end C96
