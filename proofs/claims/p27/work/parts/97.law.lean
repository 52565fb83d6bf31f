/-! the law answers 1 -/
theorem c_law {L : Nat} (hL : L ≤ 260) (xs : Nat → Int32) : ∃ o : Int32 × S, o.1 = 1 ∧ fL_law L xs u0 = some o := by
  obtain ⟨g, eg⟩ := cell_n L xs u0 hL (k := 0) (by omega)
  obtain ⟨q, hq, eq⟩ := low_n u0 g (n := 7) (by omega) (by omega)
  obtain ⟨u1, D, T, s1, O1, R1⟩ := c_setUp (u := u0) (xs := xs) hL (n := 1 + q) (by omega) (by omega) RX_0
  have G1 : GP (Fx D T (1 + q)) := fun i _ h5 => by
    have h5 : T i 5 = 1 := h5
    rw [O1.2.2.2.2.2.1 i 5 (by omega)] at h5
    omega
  obtain ⟨⟨kk, w⟩, b1, b2, P, RP, GPP, hP4⟩ := lp_fogR (step := gL_law_35 L xs (nI (1 + q))) (a := (0, u1)) (fun e a => a.1 = nI e ∧ ∃ P, RX P a.2 ∧ GP P ∧ P.1 4 = 1 + q) 12 (by omega) (fun e a he ha => by
    obtain ⟨kk, w⟩ := a
    obtain ⟨e1, P, RP, GPP, hP4⟩ := ha
    have e1 : kk = nI e := e1
    have RP : RX P w := RP
    subst e1
    obtain ⟨h, eh⟩ := cell_n L xs w hL (k := 9 + e) (by omega)
    obtain ⟨w1, Q, t1, RQ, GQ, hQ⟩ := c_turn RP GPP (by omega) h
    have hQ4 : Q.1 4 = 1 + q := by rw [hQ]; exact hP4
    obtain ⟨w2, t2, n2⟩ := c_told RQ.1 RQ.2.1 RQ.2.2.1 GQ
    have R2 := n2.RX RQ
    obtain ⟨t, ht, et⟩ := low_n w2 (h >>> (15 &&& 31)) (n := 1 + q) (by omega) (by omega)
    obtain ⟨w3, t3, n3⟩ := c_placed R2.1 R2.2.1 (t := t) (by omega)
    refine ⟨(nI (e + 1), w3), ?_, rfl, Q, n3.RX R2, GQ, hQ4⟩
    simp only [gL_law_35]
    rw [if_neg (by rw [show (12 : Int32) = nI 12 from rfl, nle (by omega) (by omega)]; omega), show (9 : Int32) + nI e = nI (9 + e) from nadd 9 e, eh, Option.bind_some, t1, Option.bind_some, if_neg (show ¬ (1 : Int32) = 0 by decide), t2, Option.bind_some, if_neg (show ¬ (1 : Int32) = 0 by decide), et, Option.bind_some, t3, Option.bind_some, if_neg (show ¬ (1 : Int32) = 0 by decide), show nI e + 1 = nI (e + 1) from nadd e 1]) (fun a ha => by
    obtain ⟨kk, w⟩ := a
    have e1 : kk = nI 12 := ha.1
    subst e1
    simp only [gL_law_35]
    rw [if_pos (by decide)]) ⟨rfl, _, R1, G1, rfl⟩
  have RP : RX P w := RP
  obtain ⟨w1, p1, RQ, hP1⟩ := c_packed RP
  obtain ⟨w2, p2, n2⟩ := c_told RQ.1 RQ.2.1 RQ.2.2.1 (Qk_GP RP.1 (Nat.le_refl _))
  obtain ⟨r, w3, p3, hr, R3⟩ := c_undo RP.1 RP.2.2.1 (n2.HP RP.1.2.2.2.2.1 hP1)
  obtain ⟨w4, p4, -⟩ := c_told R3.1 R3.2.1 R3.2.2.1 GPP
  refine ⟨(1, w4), rfl, ?_⟩
  simp only [fL_law]
  rw [show (0 : Int32) = nI 0 from rfl, eg, Option.bind_some, show (7 : Int32) = nI 7 from rfl, eq, Option.bind_some, show (1 : Int32) + nI q = nI (1 + q) from nadd 1 q, s1, Option.bind_some, if_neg (show ¬ (1 : Int32) = nI 0 by decide), show (nI 0, ((1 : Int32), u1).2) = ((0 : Int32), u1) from rfl, b1, Option.bind_some, Sum.elim_inr, p1, Option.bind_some, if_neg (show ¬ (1 : Int32) = nI 0 by decide), p2, Option.bind_some, if_neg (show ¬ (1 : Int32) = nI 0 by decide), p3, Option.bind_some, if_neg (show ¬ r < nI 0 from hr), p4, Option.bind_some, if_neg (show ¬ (1 : Int32) = nI 0 by decide)]
