/-! digest -/
/-- two loops, round by round -/
theorem lpp {α β α' β' : Type} {sx : α → Option (α' ⊕ α)} {sm : β → Option (β' ⊕ β)} (I : Nat → α → β → Prop) (E : α' → β' → Prop) (n : Nat) (hn : n < 2000)
    (hs : ∀ i a b, i < n → I i a b → ∃ a' b', sx a = some (.inr a') ∧ sm b = some (.inr b') ∧ I (i + 1) a' b')
    (he : ∀ a b, I n a b → ∃ a' b', sx a = some (.inl a') ∧ sm b = some (.inl b') ∧ E a' b') {a : α} {b : β} (h : I 0 a b) : ∃ a' b', lp sx FU a = some a' ∧ lp sm FU b = some b' ∧ E a' b' := by
  have aux : ∀ (k i : Nat) (a : α) (b : β) (F : Nat), i + k = n → k < F → I i a b → ∃ a' b', lp sx F a = some a' ∧ lp sm F b = some b' ∧ E a' b' := by
    intro k
    induction k with
    | zero =>
      intro i a b F hi hF hI
      obtain ⟨F, rfl⟩ : ∃ F', F = F' + 1 := ⟨F - 1, by omega⟩
      have hi : i = n := by omega
      subst hi
      obtain ⟨a', b', h1, h2, h3⟩ := he a b hI
      exact ⟨a', b', lp_l h1, lp_l h2, h3⟩
    | succ k ih =>
      intro i a b F hi hF hI
      obtain ⟨F, rfl⟩ : ∃ F', F = F' + 1 := ⟨F - 1, by omega⟩
      obtain ⟨a', b', h1, h2, h3⟩ := hs i a b (by omega) hI
      rw [lp_r h1, lp_r h2]
      exact ih (i + 1) a' b' F (by omega) (by omega) h3
  exact aux n 0 a b FU (by omega) (by unfold FU; omega) h
def DR (P : Bx) (u w : S) (h : Int64) : Prop := RR P u w ∧ w.2 = h
theorem uh_sm (w : S) (h : Int64) : SM w (uh w h) := ⟨fun _ _ => rfl, rfl, rfl, rfl, rfl⟩
theorem DR.mix {P : Bx} {u w : S} {h : Int64} (hD : DR P u w h) (v : Int32) : ∃ w', fX7_mixes v w = some w' ∧ DR P u w' (31 * h + v.toInt64) := by
  refine ⟨uh w (31 * h + v.toInt64), ?_, hD.1.scr (SX.refl u) (uh_sm w _), rfl⟩
  simp only [fX7_mixes, nm_k, hD.2]
theorem dg1 {P : Bx} {u w : S} {h : Int64} (hD : DR P u w h) : ∃ e1 e2, lp (gX6_digest_6 u) FU (h, 0) = some e1 ∧ lp gX7_digest_9 FU (0, w) = some e2 ∧ DR P u e2.2 e1.1 := by
  refine lpp (fun i a b => ∃ h w, a = (h, nI i) ∧ b = (nI i, w) ∧ DR P u w h) (fun (a : Int64 × Int32) (b : Int32 × S) => DR P u b.2 a.1) 13 (by omega) (fun i a b hi hI => ?_) (fun a b hI => ?_) ⟨h, w, rfl, rfl, hD⟩
  · obtain ⟨h, w, rfl, rfl, hD⟩ := hI
    obtain ⟨r, c1, c2⟩ := count_eq hD.1 (nI i)
    obtain ⟨w', m1, m2⟩ := hD.mix r
    refine ⟨(31 * h + r.toInt64, nI (i + 1)), (nI (i + 1), w'), ?_, ?_, _, w', rfl, rfl, m2⟩
    · simp only [gX6_digest_6]
      rw [if_neg (by rw [show (12 : Int32) = nI 12 from rfl, nlt (by omega) (by omega)]; omega), c1, Option.bind_some, show nI i + 1 = nI (i + 1) from nadd i 1]
    · simp only [gX7_digest_9]
      rw [if_neg (by rw [show (13 : Int32) = nI 13 from rfl, nle (by omega) (by omega)]; omega), c2, Option.bind_some, m1, Option.bind_some, show nI i + 1 = nI (i + 1) from nadd i 1]
  · obtain ⟨h, w, rfl, rfl, hD⟩ := hI
    refine ⟨(h, nI 13), (nI 13, w), ?_, ?_, hD⟩
    · simp only [gX6_digest_6]
      rw [if_pos (by decide)]
    · simp only [gX7_digest_9]
      rw [if_pos (by decide)]
theorem dg2a {P : Bx} {u w : S} {h : Int64} (v : Int32) (hD : DR P u w h) : ∃ e1 e2, lp (gX6_digest_47 v u) FU (h, 0) = some e1 ∧ lp (gX7_digest_42 v) FU (0, w) = some e2 ∧ DR P u e2.2 e1.1 := by
  refine lpp (fun i a b => ∃ h w, a = (h, nI i) ∧ b = (nI i, w) ∧ DR P u w h) (fun (a : Int64 × Int32) (b : Int32 × S) => DR P u b.2 a.1) 16 (by omega) (fun i a b hi hI => ?_) (fun a b hI => ?_) ⟨h, w, rfl, rfl, hD⟩
  · obtain ⟨h, w, rfl, rfl, hD⟩ := hI
    obtain ⟨r, c1, c2⟩ := tray_eq hD.1 v (nI i)
    obtain ⟨w', m1, m2⟩ := hD.mix r
    refine ⟨(31 * h + r.toInt64, nI (i + 1)), (nI (i + 1), w'), ?_, ?_, _, w', rfl, rfl, m2⟩
    · simp only [gX6_digest_47]
      rw [if_neg (by rw [show (15 : Int32) = nI 15 from rfl, nlt (by omega) (by omega)]; omega), c1, Option.bind_some, show nI i + 1 = nI (i + 1) from nadd i 1]
    · simp only [gX7_digest_42]
      rw [if_neg (by rw [show (16 : Int32) = nI 16 from rfl, nle (by omega) (by omega)]; omega), c2, Option.bind_some, m1, Option.bind_some, show nI i + 1 = nI (i + 1) from nadd i 1]
  · obtain ⟨h, w, rfl, rfl, hD⟩ := hI
    refine ⟨(h, nI 16), (nI 16, w), ?_, ?_, hD⟩
    · simp only [gX6_digest_47]
      rw [if_pos (by decide)]
    · simp only [gX7_digest_42]
      rw [if_pos (by decide)]
theorem dg2 {P : Bx} {u w : S} {h : Int64} (hD : DR P u w h) : ∃ e1 e2, lp gX6_digest_33 FU (h, 0, u) = some e1 ∧ lp gX7_digest_32 FU (0, w) = some e2 ∧ DR P e1.2.2 e2.2 e1.1 := by
  have hn := hD.1.1.2.2.2.2.1
  refine lpp (fun i a b => ∃ h u w, a = (h, nI i, u) ∧ b = (nI i, w) ∧ DR P u w h) (fun (a : Int64 × Int32 × S) (b : Int32 × S) => DR P a.2.2 b.2 a.1) (P.1 4) (by omega) (fun i a b hi hI => ?_) (fun a b hI => ?_) ⟨h, u, w, rfl, rfl, hD⟩
  · obtain ⟨h, u, w, rfl, rfl, hD⟩ := hI
    obtain ⟨e1, e2, a1, a2, a3⟩ := dg2a (nI i) hD
    obtain ⟨r, u2, w2, b1, b2, b3, b4, b5, b6⟩ := place_eq a3.1 (nI i) 0
    have hD2 : DR P u2 w2 e1.1 := ⟨a3.1.scr b3 b4, by rw [b6]; exact a3.2⟩
    obtain ⟨w3, c1, c2⟩ := hD2.mix r
    obtain ⟨r', u4, w4, d1, d2, d3, d4, d5, d6⟩ := place_eq c2.1 (nI i) 3
    have hD4 : DR P u4 w4 (31 * e1.1 + r.toInt64) := ⟨c2.1.scr d3 d4, by rw [d6]; exact c2.2⟩
    obtain ⟨w5, f1, f2⟩ := hD4.mix r'
    refine ⟨(31 * (31 * e1.1 + r.toInt64) + r'.toInt64, nI (i + 1), u4), (nI (i + 1), w5), ?_, ?_, _, u4, w5, rfl, rfl, f2⟩
    · simp only [gX6_digest_33, hD.1.2.1.1 4 (show 4 < 5 by omega)]
      rw [if_neg (by rw [nle (by omega) (by omega)]; omega), a1, Option.bind_some, b1, Option.bind_some, d1, Option.bind_some, show nI i + 1 = nI (i + 1) from nadd i 1]
    · simp only [gX7_digest_32, hD.1.2.2.1.n, Option.bind_some]
      rw [if_neg (by rw [nle (by omega) (by omega)]; omega), a2, Option.bind_some, b2, Option.bind_some, c1, Option.bind_some, d2, Option.bind_some, f1, Option.bind_some, show nI i + 1 = nI (i + 1) from nadd i 1]
  · obtain ⟨h, u, w, rfl, rfl, hD⟩ := hI
    refine ⟨(h, nI (P.1 4), u), (nI (P.1 4), w), ?_, ?_, hD⟩
    · simp only [gX6_digest_33, hD.1.2.1.1 4 (show 4 < 5 by omega)]
      rw [if_pos (by rw [nle (by omega) (by omega)]; omega)]
    · simp only [gX7_digest_32, hD.1.2.2.1.n, Option.bind_some]
      rw [if_pos (by rw [nle (by omega) (by omega)]; omega)]
theorem pg {w : S} {P : Bx} {k : Nat} (h : MR w 0 P) (hk : k < 5) : w.1 1 k = nI (P.1 k) := by
  have := h.1 k hk
  rwa [show 125 * 0 + k = k by omega] at this
theorem dg3a {P : Bx} {u w : S} {h : Int64} (v : Int32) (hD : DR P u w h) : ∃ e1 e2, lp (gX6_digest_125 v u) FU (h, 0) = some e1 ∧ lp (gX7_digest_104 v) FU (0, w) = some e2 ∧ DR P u e2.2 e1.1 := by
  have h1 := hD.1.1.2.1
  refine lpp (fun i a b => ∃ h w, a = (h, nI i) ∧ b = (nI i, w) ∧ DR P u w h) (fun (a : Int64 × Int32) (b : Int32 × S) => DR P u b.2 a.1) (P.1 1) (by omega) (fun i a b hi hI => ?_) (fun a b hI => ?_) ⟨h, w, rfl, rfl, hD⟩
  · obtain ⟨h, w, rfl, rfl, hD⟩ := hI
    obtain ⟨r, c1, c2⟩ := seen_eq hD.1 v (nI i) 0
    obtain ⟨w', m1, m2⟩ := hD.mix r
    obtain ⟨r', d1, d2⟩ := seen_eq m2.1 v (nI i) 1
    obtain ⟨w2, f1, f2⟩ := m2.mix r'
    refine ⟨(31 * (31 * h + r.toInt64) + r'.toInt64, nI (i + 1)), (nI (i + 1), w2), ?_, ?_, _, w2, rfl, rfl, f2⟩
    · simp only [gX6_digest_125, hD.1.2.1.1 1 (show 1 < 5 by omega)]
      rw [if_neg (by rw [nle (by omega) (by omega)]; omega), c1, Option.bind_some, d1, Option.bind_some, show nI i + 1 = nI (i + 1) from nadd i 1]
    · simp only [gX7_digest_104]
      rw [gd_t (by decide), show (1 : Int32).toNatClampNeg = 1 by decide, pg hD.1.2.2.1 (by omega), if_neg (by rw [nle (by omega) (by omega)]; omega), c2, Option.bind_some, m1, Option.bind_some, d2, Option.bind_some, f1, Option.bind_some, show nI i + 1 = nI (i + 1) from nadd i 1]
  · obtain ⟨h, w, rfl, rfl, hD⟩ := hI
    refine ⟨(h, nI (P.1 1)), (nI (P.1 1), w), ?_, ?_, hD⟩
    · simp only [gX6_digest_125, hD.1.2.1.1 1 (show 1 < 5 by omega)]
      rw [if_pos (by rw [nle (by omega) (by omega)]; omega)]
    · simp only [gX7_digest_104]
      rw [gd_t (by decide), show (1 : Int32).toNatClampNeg = 1 by decide, pg hD.1.2.2.1 (by omega), if_pos (by rw [nle (by omega) (by omega)]; omega)]
theorem dg3 {P : Bx} {u w : S} {h : Int64} (hD : DR P u w h) : ∃ e1 e2, lp (gX6_digest_111 u) FU (h, 0) = some e1 ∧ lp gX7_digest_92 FU (0, w) = some e2 ∧ DR P u e2.2 e1.1 := by
  have h1 := hD.1.1.1
  refine lpp (fun i a b => ∃ h w, a = (h, nI i) ∧ b = (nI i, w) ∧ DR P u w h) (fun (a : Int64 × Int32) (b : Int32 × S) => DR P u b.2 a.1) (P.1 0) (by omega) (fun i a b hi hI => ?_) (fun a b hI => ?_) ⟨h, w, rfl, rfl, hD⟩
  · obtain ⟨h, w, rfl, rfl, hD⟩ := hI
    obtain ⟨e1, e2, a1, a2, a3⟩ := dg3a (nI i) hD
    refine ⟨(e1.1, nI (i + 1)), (nI (i + 1), e2.2), ?_, ?_, _, _, rfl, rfl, a3⟩
    · simp only [gX6_digest_111, hD.1.2.1.1 0 (show 0 < 5 by omega)]
      rw [if_neg (by rw [nle (by omega) (by omega)]; omega), a1, Option.bind_some, show nI i + 1 = nI (i + 1) from nadd i 1]
    · simp only [gX7_digest_92]
      rw [gd_t (by decide), show (0 : Int32).toNatClampNeg = 0 by decide, pg hD.1.2.2.1 (by omega), if_neg (by rw [nle (by omega) (by omega)]; omega), a2, Option.bind_some, show nI i + 1 = nI (i + 1) from nadd i 1]
  · obtain ⟨h, w, rfl, rfl, hD⟩ := hI
    refine ⟨(h, nI (P.1 0)), (nI (P.1 0), w), ?_, ?_, hD⟩
    · simp only [gX6_digest_111, hD.1.2.1.1 0 (show 0 < 5 by omega)]
      rw [if_pos (by rw [nle (by omega) (by omega)]; omega)]
    · simp only [gX7_digest_92]
      rw [gd_t (by decide), show (0 : Int32).toNatClampNeg = 0 by decide, pg hD.1.2.2.1 (by omega), if_pos (by rw [nle (by omega) (by omega)]; omega)]
theorem dg4 {P : Bx} {u w : S} {h : Int64} (hD : DR P u w h) (hf : ∀ x, x < 4 → u.1 164 x = fig (pkf P (usO (bfr P) (P.1 4)) (P.1 4)) x) : ∃ e1 e2, lp (gX6_digest_194 u) FU (h, 0) = some e1 ∧ lp gX7_digest_150 FU (0, w) = some e2 ∧ DR P u e2.2 e1.1 := by
  refine lpp (fun i a b => ∃ h w, a = (h, nI i) ∧ b = (nI i, w) ∧ DR P u w h) (fun (a : Int64 × Int32) (b : Int32 × S) => DR P u b.2 a.1) 4 (by omega) (fun i a b hi hI => ?_) (fun a b hI => ?_) ⟨h, w, rfl, rfl, hD⟩
  · obtain ⟨h, w, rfl, rfl, hD⟩ := hI
    obtain ⟨w1, c1, c2, c3⟩ := m_ifU hD.1.1 hD.1.2.2.1 hi
    have hD1 : DR P u w1 h := ⟨hD.1.scr (SX.refl u) c2, by rw [c3]; exact hD.2⟩
    obtain ⟨w2, f1, f2⟩ := hD1.mix (fig (pkf P (usO (bfr P) (P.1 4)) (P.1 4)) i)
    refine ⟨(31 * h + (fig (pkf P (usO (bfr P) (P.1 4)) (P.1 4)) i).toInt64, nI (i + 1)), (nI (i + 1), w2), ?_, ?_, _, w2, rfl, rfl, f2⟩
    · simp only [gX6_digest_194]
      rw [if_neg (by rw [show (4 : Int32) = nI 4 from rfl, nle (by omega) (by omega)]; omega), gd_t (inb_n (by omega) (by omega)), ncl (by omega), show (163 + 1 : Nat) = 164 from rfl, hf i hi, show nI i + 1 = nI (i + 1) from nadd i 1]
    · simp only [gX7_digest_150]
      rw [if_neg (by rw [show (4 : Int32) = nI 4 from rfl, nle (by omega) (by omega)]; omega), c1, Option.bind_some, f1, Option.bind_some, show nI i + 1 = nI (i + 1) from nadd i 1]
  · obtain ⟨h, w, rfl, rfl, hD⟩ := hI
    refine ⟨(h, nI 4), (nI 4, w), ?_, ?_, hD⟩
    · simp only [gX6_digest_194]
      rw [if_pos (by decide)]
    · simp only [gX7_digest_150]
      rw [if_pos (by decide)]
theorem dg5 {P : Bx} {u w : S} {h : Int64} (hD : DR P u w h) : ∃ e1 e2, lp (gX6_digest_224 u) FU (h, 0) = some e1 ∧ lp gX7_digest_173 FU (0, w) = some e2 ∧ DR P u e2.2 e1.1 := by
  have hW := hD.1.1
  have hn := hW.2.2.2.2.1
  refine lpp (fun i a b => ∃ h w, a = (h, nI i) ∧ b = (nI i, w) ∧ DR P u w h) (fun (a : Int64 × Int32) (b : Int32 × S) => DR P u b.2 a.1) (P.1 4) (by omega) (fun i a b hi hI => ?_) (fun a b hI => ?_) ⟨h, w, rfl, rfl, hD⟩
  · obtain ⟨h, w, rfl, rfl, hD⟩ := hI
    have h51 := hW.in1 i hi
    have c5 := (hD.1.2.1.2 i hi).1 5 (by omega)
    have hM := hD.1.2.2.1
    by_cases h5 : P.2 i 5 = 1
    · obtain ⟨r, w1, c1, c2, c3, c4⟩ := liftsTo_eq hD.1 (nI i)
      have hD1 : DR P u w1 h := ⟨hD.1.scr (SX.refl u) c3, by rw [c4]; exact hD.2⟩
      obtain ⟨w2, f1, f2⟩ := hD1.mix r
      refine ⟨(31 * h + r.toInt64, nI (i + 1)), (nI (i + 1), w2), ?_, ?_, _, w2, rfl, rfl, f2⟩
      · simp only [gX6_digest_224, hD.1.2.1.1 4 (show 4 < 5 by omega)]
        rw [if_neg (by rw [nle (by omega) (by omega)]; omega), gd_t (inb_n (by omega) (by omega)), ncl (by omega), c5, h5, if_neg (show ¬ nI 1 = 0 by decide), c1, Option.bind_some, show nI i + 1 = nI (i + 1) from nadd i 1]
      · simp only [gX7_digest_173, hM.n, Option.bind_some]
        rw [if_neg (by rw [nle (by omega) (by omega)]; omega), hM.isIn1 hW rfl hi h5, Option.bind_some, if_neg (show ¬ (1 : Int32) = 0 by decide), c2, Option.bind_some, f1, Option.bind_some, show nI i + 1 = nI (i + 1) from nadd i 1]
    · have h50 : P.2 i 5 = 0 := by omega
      refine ⟨(h, nI (i + 1)), (nI (i + 1), w), ?_, ?_, _, w, rfl, rfl, hD⟩
      · simp only [gX6_digest_224, hD.1.2.1.1 4 (show 4 < 5 by omega)]
        rw [if_neg (by rw [nle (by omega) (by omega)]; omega), gd_t (inb_n (by omega) (by omega)), ncl (by omega), c5, h50, if_pos (show nI 0 = 0 from rfl), show nI i + 1 = nI (i + 1) from nadd i 1]
      · simp only [gX7_digest_173, hM.n, Option.bind_some]
        rw [if_neg (by rw [nle (by omega) (by omega)]; omega), hM.isIn0 hW rfl hi h5, Option.bind_some, if_pos rfl, show nI i + 1 = nI (i + 1) from nadd i 1]
  · obtain ⟨h, w, rfl, rfl, hD⟩ := hI
    refine ⟨(h, nI (P.1 4)), (nI (P.1 4), w), ?_, ?_, hD⟩
    · simp only [gX6_digest_224, hD.1.2.1.1 4 (show 4 < 5 by omega)]
      rw [if_pos (by rw [nle (by omega) (by omega)]; omega)]
    · simp only [gX7_digest_173, hD.1.2.2.1.n, Option.bind_some]
      rw [if_pos (by rw [nle (by omega) (by omega)]; omega)]
theorem sim_digest : Sim_digest Rl := by
  intro u w ⟨P, hR⟩
  have hD0 : DR P u (uh w 43160) 43160 := ⟨hR.scr (SX.refl u) (uh_sm w _), rfl⟩
  obtain ⟨a1, a2, a3, a4, a5⟩ := dg1 hD0
  obtain ⟨b1, b2, b3, b4, b5⟩ := dg2 a5
  obtain ⟨c1, c2, c3, c4, c5⟩ := dg3 b5
  obtain ⟨u1, d1, d2, d3, d4, d5, d6⟩ := packUsually_eq c5.1.1 c5.1.2.1
  have hsx : SX b1.2.2 u1 := frame_sx (fun j h1 h2 h3 h4 => d5 j h1 h2 h3 (by omega) (by omega))
  have hD3 : DR P u1 c2.2 c1.1 := ⟨c5.1.scr hsx (SM.refl _), c5.2⟩
  obtain ⟨e1, e2, e3, e4, e5⟩ := dg4 hD3 d4
  obtain ⟨f1, f2, f3, f4, f5⟩ := dg5 e5
  refine ⟨f1.1, u1, f2.2, ?_, ?_, P, f5.1⟩
  · simp only [fX6_digest, a3, Option.bind_some, b3, c3, d1, e3, f3]
  · simp only [fX7_digest, nm_k, a4, Option.bind_some, b4, c4, e4, f4, f5.2]
