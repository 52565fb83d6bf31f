/-! the game played through -/
abbrev Pl : Type := Nat × Nat × Bool
/-- one tray of one turn: left, counted, ended -/
noncomputable def pl1 (P : Bx) (v : Int32) (q : Nat) (s : Pl) (r : Nat) : Pl := if s.2.2 = true then s else if P.2 r 3 = q ∧ s.1.testBit r = true then (s.1 &&& (4294967295 - 2 ^ r), s.2.1 + pc (am P (fun i => s.1.testBit i) r), decide (nI r = v)) else s
noncomputable def plI (P : Bx) (v : Int32) (q : Nat) (s : Pl) (n : Nat) : Pl := fo (pl1 P v q) s n
noncomputable def plO (P : Bx) (v : Int32) (s : Pl) (m : Nat) : Pl := fo (fun s q => plI P v q s (P.1 4)) s m
theorem pl1_end {P : Bx} {v : Int32} {q r : Nat} {s : Pl} (h : s.2.2 = true) : pl1 P v q s r = s := by unfold pl1; rw [if_pos h]
theorem plI_succ {P : Bx} {v : Int32} {q n : Nat} {s : Pl} : plI P v q s (n + 1) = pl1 P v q (plI P v q s n) n := rfl
theorem plO_succ {P : Bx} {v : Int32} {n : Nat} {s : Pl} : plO P v s (n + 1) = plI P v n (plO P v s n) (P.1 4) := rfl
theorem plI_end {P : Bx} {v : Int32} {q i n : Nat} {s : Pl} (h : (plI P v q s i).2.2 = true) (hn : i ≤ n) : plI P v q s n = plI P v q s i := by
  obtain ⟨d, rfl⟩ : ∃ d, n = i + d := ⟨n - i, by omega⟩
  exact fo_dead (f := pl1 P v q) (s := s) (i := i) (fun k => pl1_end h) d
theorem plI_in {P : Bx} {v : Int32} {q n : Nat} {s : Pl} (h : s.2.2 = true) : plI P v q s n = s := plI_end (i := 0) h (Nat.zero_le n)
theorem plO_end {P : Bx} {v : Int32} {i n : Nat} {s : Pl} (h : (plO P v s i).2.2 = true) (hn : i ≤ n) : plO P v s n = plO P v s i := by
  obtain ⟨d, rfl⟩ : ∃ d, n = i + d := ⟨n - i, by omega⟩
  exact fo_dead (f := fun s q => plI P v q s (P.1 4)) (s := s) (i := i) (fun k => plI_in h) d
theorem pl1_lt {P : Bx} {v : Int32} {q r : Nat} {s : Pl} (h : s.1 < 4096) : (pl1 P v q s r).1 < 4096 := by
  unfold pl1
  split
  · exact h
  · split
    · exact and_lt _ h
    · exact h
/-- the class -/
theorem played_in {u : S} {b q : Nat} {P : Bx} {v : Int32} {s : Pl} (hW : WF P) (h : CR u b P) (hq : q < 1000) (hs : s.1 < 4096) (h2 : s.2.2 = false) : ∃ e, lp (gX0_playedLifts_20 b v (nI q) u) FU (nI s.1, nI s.2.1, 0) = some e ∧ (plI P v q s (P.1 4)).1 < 4096 ∧ (((plI P v q s (P.1 4)).2.2 = true ∧ e = .inl (nI (plI P v q s (P.1 4)).2.1)) ∨ ((plI P v q s (P.1 4)).2.2 = false ∧ e = .inr (nI (plI P v q s (P.1 4)).1, nI (plI P v q s (P.1 4)).2.1, nI (P.1 4)))) := by
  have hn := hW.2.2.2.2.1
  refine lp_go (step := gX0_playedLifts_20 b v (nI q) u) (a := (nI s.1, nI s.2.1, 0)) (fun r a => (plI P v q s r).2.2 = false ∧ (plI P v q s r).1 < 4096 ∧ a = (nI (plI P v q s r).1, nI (plI P v q s r).2.1, nI r)) _ (P.1 4) ⟨h2, hs, rfl⟩ (by omega) (fun r a hr hI => ?_) (fun a hI => ?_)
  · obtain ⟨i1, i2, rfl⟩ := hI
    obtain ⟨z, hz⟩ : ∃ z, z = plI P v q s r := ⟨_, rfl⟩
    have hsu : plI P v q s (r + 1) = pl1 P v q z r := by rw [hz]; rfl
    rw [← hz] at i1 i2
    rw [← hz, hsu]
    have w3 := (hW.2.2.2.2.2.1 r hr).2.2.2.1
    simp only [gX0_playedLifts_20, h.1 4 (show 4 < 5 by omega)]
    rw [if_neg (by rw [nle (by omega) (by omega)]; omega), gd_t (inb_n (by omega) (by omega)), ncl (by omega), (h.2 r hr).1 3 (by omega), show nI r + 1 = nI (r + 1) from nadd r 1]
    by_cases h3 : P.2 r 3 = q
    · rw [if_pos (by rw [h3])]
      by_cases hb : z.1.testBit r = true
      · have hp : pl1 P v q z r = (z.1 &&& (4294967295 - 2 ^ r), z.2.1 + pc (am P (fun i => z.1.testBit i) r), decide (nI r = v)) := by
          unfold pl1
          rw [if_neg (by rw [i1]; decide), if_pos ⟨h3, hb⟩]
        rw [if_neg (by rw [bget (by omega), hb]; decide), above_eq hW h i2 hr, Option.bind_some, bc_pc _ am_lt, Option.bind_some, nadd]
        by_cases hv : nI r = v
        · right
          have hfin : (plI P v q s (r + 1)).2.2 = true := by rw [hsu, hp]; exact decide_eq_true hv
          have hall : plI P v q s (P.1 4) = pl1 P v q z r := (plI_end hfin (by omega)).trans hsu
          rw [if_pos hv, hall]
          refine ⟨_, rfl, pl1_lt i2, Or.inl ⟨by rw [← hsu]; exact hfin, ?_⟩⟩
          rw [hp]
        · left
          rw [if_neg hv, sh1 r (by omega), anot _ (pow_lt (by omega)), fa_and]
          refine ⟨_, rfl, ?_, pl1_lt i2, ?_⟩
          · rw [hp]
            exact decide_eq_false hv
          · rw [hp]
      · left
        have hp : pl1 P v q z r = z := by
          unfold pl1
          rw [if_neg (by rw [i1]; decide), if_neg (fun q => hb q.2)]
        rw [if_pos (by rw [bget (by omega)]; simpa using hb), hp]
        exact ⟨_, rfl, i1, i2, rfl⟩
    · left
      have hp : pl1 P v q z r = z := by
        unfold pl1
        rw [if_neg (by rw [i1]; decide), if_neg (fun q => h3 q.1)]
      rw [if_neg (by rw [neq (by omega) (by omega)]; exact h3), hp]
      exact ⟨_, rfl, i1, i2, rfl⟩
  · obtain ⟨i1, i2, rfl⟩ := hI
    simp only [gX0_playedLifts_20, h.1 4 (show 4 < 5 by omega)]
    rw [if_pos (by rw [nle (by omega) (by omega)]; omega)]
    exact ⟨_, rfl, i2, Or.inr ⟨i1, rfl⟩⟩
theorem played_eq {u : S} {b m : Nat} {P : Bx} {v : Int32} (hW : WF P) (h : CR u b P) (hm : m < 4096) (hi : fX0_inside b u = some (nI m)) : fX0_playedLifts b v u = some (nI (plO P v (m, 0, false) 10).2.1) := by
  have hn := hW.2.2.2.2.1
  obtain ⟨s, hs⟩ : ∃ s : Pl, s = (m, 0, false) := ⟨_, rfl⟩
  have hgo := lp_go (step := gX0_playedLifts_10 b v u) (a := (nI m, 0, 0)) (fun q a => (plO P v s q).2.2 = false ∧ (plO P v s q).1 < 4096 ∧ a = (nI (plO P v s q).1, nI (plO P v s q).2.1, nI q)) (fun e => ((plO P v s 10).2.2 = true ∧ e = .inl (nI (plO P v s 10).2.1)) ∨ ((plO P v s 10).2.2 = false ∧ e = .inr (nI (plO P v s 10).1, nI (plO P v s 10).2.1, nI 10))) 10 (by rw [hs]; exact ⟨rfl, hm, rfl⟩) (by omega) (fun q a hq hI => ?_) (fun a hI => ?_)
  · obtain ⟨e, h1, h2⟩ := hgo
    simp only [fX0_playedLifts, hi, Option.bind_some, h1, ← hs]
    rcases h2 with ⟨-, rfl⟩ | ⟨-, rfl⟩
    · rfl
    · rfl
  · obtain ⟨i1, i2, rfl⟩ := hI
    obtain ⟨z, hz⟩ : ∃ z, z = plO P v s q := ⟨_, rfl⟩
    have hsu : plO P v s (q + 1) = plI P v q z (P.1 4) := by rw [hz]; rfl
    rw [← hz] at i1 i2
    rw [← hz, hsu]
    obtain ⟨e, e1, e2, e3⟩ := played_in (v := v) (q := q) (s := z) hW h (by omega) i2 i1
    simp only [gX0_playedLifts_10]
    rw [if_neg (by rw [show (9 : Int32) = nI 9 from rfl, nlt (by omega) (by omega)]; omega), e1, Option.bind_some]
    rcases e3 with ⟨f, rfl⟩ | ⟨f, rfl⟩
    · right
      have hall : plO P v s 10 = plO P v s (q + 1) := plO_end (by rw [hsu]; exact f) (by omega)
      rw [hall, hsu]
      exact ⟨_, rfl, Or.inl ⟨f, rfl⟩⟩
    · left
      refine ⟨_, rfl, f, e2, ?_⟩
      show (nI (plI P v q z (P.1 4)).1, nI (plI P v q z (P.1 4)).2.1, nI q + 1) = _
      rw [show nI q + 1 = nI (q + 1) from nadd q 1]
  · obtain ⟨i1, i2, rfl⟩ := hI
    simp only [gX0_playedLifts_10]
    rw [if_pos (by decide)]
    exact ⟨_, rfl, Or.inr ⟨i1, rfl⟩⟩
/-- Q is P with only L left in -/
def ps (P Q : Bx) (L : Nat) : Prop := WF Q ∧ Q.1 = P.1 ∧ (∀ a j, j < 5 → Q.2 a j = P.2 a j) ∧ (∀ i, i < P.1 4 → (L.testBit i = true ↔ Q.2 i 5 = 1)) ∧ (∀ i j, i < P.1 4 → j < P.1 4 → L.testBit i = true → L.testBit j = true → lo Q i j = lo P i j) ∧ (Z6 P → Z6 Q) ∧ L < 4096
theorem ps_am {P Q : Bx} {L t : Nat} (hn : P.1 4 ≤ 12) (h : ps P Q L) (ht : t < P.1 4) (hb : L.testBit t = true) : am P (fun i => L.testBit i) t = ab Q t := by
  obtain ⟨-, h1, -, h4, h5, -, -⟩ := h
  refine bits_eq (fun i => ?_)
  rw [Bool.eq_iff_iff, am_bit hn]
  show _ ↔ (am Q (fun _ => true) t).testBit i = true
  rw [am_bit (by rw [h1]; exact hn)]
  have hin : ∀ i j, i < P.1 4 → lo Q i j = true → L.testBit i = true := fun i j hi hl => (h4 i hi).mpr (lo_iff.mp hl).1
  constructor
  · intro q
    exact (q (fun i => RE Q (fun _ => true) t i ∧ L.testBit i = true) (fun i hi hl hA => ⟨RE.base (by rw [h1]; exact hi) (by rw [h5 i t hi ht hA hb]; exact hl) rfl, hA⟩) (fun i j hi hj hC hl hA => ⟨RE.step (by rw [h1]; exact hi) (by rw [h1]; exact hj) hC.1 (by rw [h5 i j hi hj hA hC.2]; exact hl) rfl, hA⟩)).1
  · intro q
    exact (q (fun i => RE P (fun i => L.testBit i) t i ∧ L.testBit i = true) (fun i hi hl _ => by
      rw [h1] at hi
      have hA := hin i t hi hl
      exact ⟨RE.base hi (by rw [← h5 i t hi ht hA hb]; exact hl) hA, hA⟩) (fun i j hi hj hC hl _ => by
      rw [h1] at hi hj
      have hA := hin i j hi hl
      exact ⟨RE.step hi hj hC.1 (by rw [← h5 i j hi hj hA hC.2]; exact hl) hA, hA⟩)).1
theorem clr_bit {L t i : Nat} (hL : L < 4096) (ht : t < 12) : (L &&& (4294967295 - 2 ^ t)).testBit i = true ↔ L.testBit i = true ∧ i ≠ t := by
  rw [and_not_bit (pow_lt ht) hL, Nat.testBit_two_pow]
  simp only [Bool.and_eq_true, Bool.not_eq_true', decide_eq_false_iff_not]
  exact and_congr Iff.rfl ⟨fun q e => q e.symm, fun q e => q e.symm⟩
/-- the reference -/
def PK (P : Bx) (w : S) (s : Pl) (w' : S) : Prop := ∃ Q, ps P Q s.1 ∧ MR w' 0 Q ∧ gF w w'
def flg (s : Pl) : Int32 := if s.2.2 = true then 0 else 1
theorem plays_in {w : S} {q : Nat} {P : Bx} {v : Int32} {s : Pl} {w1 : S} (hP : WF P) (hq : q < 1000) (hK : PK P w s w1) : ∃ w', lp (gX7_plays_17 v (nI q)) FU (nI s.2.1, flg s, 0, w1) = some (nI (plI P v q s (P.1 4)).2.1, flg (plI P v q s (P.1 4)), nI (P.1 4), w') ∧ PK P w (plI P v q s (P.1 4)) w' := by
  have hn := hP.2.2.2.2.1
  have hgo := lp_go (step := gX7_plays_17 v (nI q)) (a := (nI s.2.1, flg s, 0, w1)) (fun r a => ∃ w', a = (nI (plI P v q s r).2.1, flg (plI P v q s r), nI r, w') ∧ PK P w (plI P v q s r) w') (fun a => ∃ w', a = (nI (plI P v q s (P.1 4)).2.1, flg (plI P v q s (P.1 4)), nI (P.1 4), w') ∧ PK P w (plI P v q s (P.1 4)) w') (P.1 4) ⟨w1, rfl, hK⟩ (by omega) (fun r a hr hI => ?_) (fun a hI => ?_)
  · obtain ⟨e, h1, w', rfl, h2⟩ := hgo
    exact ⟨w', h1, h2⟩
  · obtain ⟨w2, rfl, hK2⟩ := hI
    left
    obtain ⟨z, hz⟩ : ∃ z, z = plI P v q s r := ⟨_, rfl⟩
    have hsu : plI P v q s (r + 1) = pl1 P v q z r := by rw [hz]; rfl
    rw [← hz] at hK2
    rw [← hz, hsu]
    have hKz := hK2
    obtain ⟨Q, hps, hM, hf⟩ := hK2
    have hps0 := hps
    obtain ⟨hW, p1, p3, p4, p5, p6, p7⟩ := hps
    have hnQ : Q.1 4 ≤ 12 := by rw [p1]; exact hn
    have hrQ : r < Q.1 4 := by rw [p1]; exact hr
    have w3 := (hP.2.2.2.2.2.1 r hr).2.2.2.1
    simp only [gX7_plays_17, hM.n, Option.bind_some, p1]
    rw [if_neg (by rw [nle (by omega) (by omega)]; omega), show nI r + 1 = nI (r + 1) from nadd r 1]
    have same : pl1 P v q z r = z → ∃ a', some (Sum.inr (nI z.2.1, flg z, nI (r + 1), w2) : (Int32 × Int32 × Int32 × S) ⊕ (Int32 × Int32 × Int32 × S)) = some (.inr a') ∧ ∃ w', a' = (nI (pl1 P v q z r).2.1, flg (pl1 P v q z r), nI (r + 1), w') ∧ PK P w (pl1 P v q z r) w' := fun e => by
      rw [e]
      exact ⟨_, rfl, w2, rfl, hKz⟩
    by_cases hz2 : z.2.2 = true
    · rw [if_pos (by unfold flg; rw [if_pos hz2])]
      exact same (pl1_end hz2)
    · rw [if_neg (show ¬ flg z = 0 by unfold flg; rw [if_neg hz2]; decide)]
      by_cases h5 : Q.2 r 5 = 1
      · rw [hM.isIn1 hW rfl hrQ h5, Option.bind_some, if_neg (show ¬ (1 : Int32) = 0 by decide), hM.of hnQ (v1 := nI r) rfl (show (3 : Int32) = nI 3 from rfl) hrQ (by omega), Option.bind_some, p3 r 3 (by omega)]
        have hb : z.1.testBit r = true := (p4 r hr).mpr h5
        by_cases h3 : P.2 r 3 = q
        · have hp : pl1 P v q z r = (z.1 &&& (4294967295 - 2 ^ r), z.2.1 + pc (ab Q r), decide (nI r = v)) := by
            unfold pl1
            rw [if_neg hz2, if_pos ⟨h3, hb⟩, ps_am hn hps0 hr hb]
          obtain ⟨Q', w', g1, g2, g3, g4, g5, g6, g7, g8, g9⟩ := gets_eq hW hM (v := nI r) rfl hrQ
          rw [if_pos (by rw [h3]), g1, Option.bind_some, nadd]
          have hK' : PK P w (pl1 P v q z r) w' := by
            rw [hp]
            refine ⟨Q', ⟨g3, g4.trans p1, fun a j hj => (g5 a j hj).trans (p3 a j hj), fun i hi => ?_, fun i j hi hj hbi hbj => ?_, fun q => g8 (p6 q), and_lt _ p7⟩, g2, hf.trans g9⟩
            · rw [clr_bit p7 (by omega), g6 i, p4 i hi]
            · have bi := (clr_bit p7 (show r < 12 by omega)).mp hbi
              have bj := (clr_bit p7 (show r < 12 by omega)).mp hbj
              rw [g7 i j (by rw [p1]; exact hi) (by rw [p1]; exact hj) bi.2 bj.2]
              exact p5 i j hi hj bi.1 bj.1
          by_cases hv : nI r = v
          · rw [if_pos hv]
            refine ⟨_, rfl, w', ?_, hK'⟩
            rw [hp]
            unfold flg
            rw [if_pos (decide_eq_true hv)]
          · rw [if_neg hv]
            refine ⟨_, rfl, w', ?_, hK'⟩
            rw [hp]
            unfold flg
            rw [if_neg (by simpa using hv)]
        · rw [if_neg (by rw [neq (by omega) (by omega)]; exact h3)]
          refine same ?_
          unfold pl1
          rw [if_neg hz2, if_neg (fun q => h3 q.1)]
      · rw [hM.isIn0 hW rfl hrQ h5, Option.bind_some, if_pos rfl]
        refine same ?_
        unfold pl1
        rw [if_neg hz2, if_neg (fun q => h5 ((p4 r hr).mp q.2))]
  · obtain ⟨w2, rfl, hK2⟩ := hI
    have hKz := hK2
    obtain ⟨Q, hps, hM, hf⟩ := hK2
    simp only [gX7_plays_17, hM.n, Option.bind_some, hps.2.1]
    rw [if_pos (by rw [nle (by omega) (by omega)]; omega)]
    exact ⟨_, rfl, w2, rfl, hKz⟩
theorem plays_eq {w : S} {m : Nat} {P : Bx} (v : Int32) (hP : WF P) (hM : MR w 0 P) (hm : m < 4096) (hb : ∀ i, m.testBit i = (decide (i < P.1 4) && (P.2 i 5 == 1))) : ∃ w', fX7_plays v w = some (nI (plO P v (m, 0, false) 10).2.1, w') ∧ PK P w (plO P v (m, 0, false) 10) w' := by
  have hn := hP.2.2.2.2.1
  obtain ⟨s, hs⟩ : ∃ s : Pl, s = (m, 0, false) := ⟨_, rfl⟩
  have hK0 : PK P w s w := by
    rw [hs]
    refine ⟨P, ⟨hP, rfl, fun _ _ _ => rfl, fun i hi => ?_, fun _ _ _ _ _ _ => rfl, fun q => q, hm⟩, hM, gF.refl w⟩
    show m.testBit i = true ↔ _
    rw [hb i]
    simp [hi]
  have hgo := lp_go (step := gX7_plays_7 v) (a := (0, 1, 0, w)) (fun q a => ∃ w', a = (nI (plO P v s q).2.1, flg (plO P v s q), nI q, w') ∧ PK P w (plO P v s q) w') (fun a => ∃ x y w', a = (nI (plO P v s 10).2.1, x, y, w') ∧ PK P w (plO P v s 10) w') 10 ⟨w, by rw [hs]; rfl, hK0⟩ (by omega) (fun q a hq hI => ?_) (fun a hI => ?_)
  · obtain ⟨e, h1, x, y, w', rfl, h2⟩ := hgo
    refine ⟨w', ?_, by rw [← hs]; exact h2⟩
    simp only [fX7_plays, h1, Option.bind_some, ← hs]
  · obtain ⟨w2, rfl, hK2⟩ := hI
    left
    obtain ⟨z, hz⟩ : ∃ z, z = plO P v s q := ⟨_, rfl⟩
    have hsu : plO P v s (q + 1) = plI P v q z (P.1 4) := by rw [hz]; rfl
    rw [← hz] at hK2
    rw [← hz, hsu]
    obtain ⟨w', e1, e2⟩ := plays_in (v := v) (q := q) hP (by omega) hK2
    simp only [gX7_plays_7]
    rw [if_neg (by rw [show (10 : Int32) = nI 10 from rfl, nle (by omega) (by omega)]; omega), e1, Option.bind_some, show nI q + 1 = nI (q + 1) from nadd q 1]
    exact ⟨_, rfl, w', rfl, e2⟩
  · obtain ⟨w2, rfl, hK2⟩ := hI
    simp only [gX7_plays_7]
    rw [if_pos (by decide)]
    exact ⟨_, rfl, _, _, w2, rfl, hK2⟩
/-- with no target the game goes to its end -/
theorem pl_all {P : Bx} {v : Int32} (hv : ∀ r, r < P.1 4 → nI r ≠ v) {m : Nat} (hm : m < 4096) (hn : P.1 4 ≤ 12) : ∀ q, (plO P v (m, 0, false) q).2.2 = false ∧ (plO P v (m, 0, false) q).1 < 4096 ∧ ∀ i, i < P.1 4 → (plO P v (m, 0, false) q).1.testBit i = true → q ≤ P.2 i 3 := by
  intro q
  induction q with
  | zero => exact ⟨rfl, hm, fun i _ _ => Nat.zero_le _⟩
  | succ q ih =>
    rw [plO_succ]
    obtain ⟨z, hz⟩ : ∃ z, z = plO P v (m, 0, false) q := ⟨_, rfl⟩
    rw [← hz] at ih ⊢
    have key : ∀ r, r ≤ P.1 4 → (plI P v q z r).2.2 = false ∧ (plI P v q z r).1 < 4096 ∧ ∀ i, i < P.1 4 → (plI P v q z r).1.testBit i = true → q ≤ P.2 i 3 ∧ (i < r → P.2 i 3 ≠ q) := by
      intro r
      induction r with
      | zero => exact fun _ => ⟨ih.1, ih.2.1, fun i hi hb => ⟨ih.2.2 i hi hb, fun h => absurd h (by omega)⟩⟩
      | succ r ihr =>
        intro hr
        obtain ⟨i1, i2, i3⟩ := ihr (by omega)
        rw [plI_succ]
        obtain ⟨y, hy⟩ : ∃ y, y = plI P v q z r := ⟨_, rfl⟩
        rw [← hy] at i1 i2 i3 ⊢
        refine ⟨?_, pl1_lt i2, fun i hi hb => ?_⟩
        · unfold pl1
          rw [if_neg (by rw [i1]; decide)]
          split
          · exact decide_eq_false (hv r (by omega))
          · exact i1
        · unfold pl1 at hb
          rw [if_neg (by rw [i1]; decide)] at hb
          by_cases hc : P.2 r 3 = q ∧ y.1.testBit r = true
          · rw [if_pos hc] at hb
            have hb' := (clr_bit i2 (show r < 12 by omega)).mp hb
            have := i3 i hi hb'.1
            exact ⟨this.1, fun h => this.2 (by omega)⟩
          · rw [if_neg hc] at hb
            have := i3 i hi hb
            refine ⟨this.1, fun h e => ?_⟩
            by_cases hir : i = r
            · subst hir
              exact hc ⟨e, hb⟩
            · exact this.2 (by omega) e
    obtain ⟨k1, k2, k3⟩ := key (P.1 4) (Nat.le_refl _)
    refine ⟨k1, k2, fun i hi hb => ?_⟩
    have := k3 i hi hb
    have := this.2 hi
    omega
theorem nn9 {a : Nat} (h : a < 1000) : nI a ≠ -9 := not9 h
theorem sim_play : Sim_play Rl := by
  intro u w ⟨P, hR⟩
  have hW := hR.1
  have hn := hW.2.2.2.2.1
  obtain ⟨m, i1, i2, i3, i4⟩ := inside_bc hW hR.2.1
  obtain ⟨u1, w1, h1, h2, hR1, k1, k2⟩ := record_sim hR
  obtain ⟨w2, e1, Q, e2, e3, e4⟩ := plays_eq (-9) hW hR1.2.2.1 i2 i3
  obtain ⟨a1, a2, a3⟩ := pl_all (P := P) (v := -9) (fun r hr => nn9 (by omega)) i2 hn 10
  obtain ⟨b1, b2, b3⟩ := hR1.empty
  have hout : ∀ i, i < P.1 4 → Q.2 i 5 = 0 := fun i hi => by
    have hne : ¬ Q.2 i 5 = 1 := fun q => by
      have := a3 i hi ((e2.2.2.2.1 i hi).mpr q)
      have := (hW.2.2.2.2.2.1 i hi).2.2.2.1
      omega
    have := e2.1.in1 i (by rw [e2.2.1]; exact hi)
    omega
  have hz : Z6 Q := e2.2.2.2.2.2.1 hR.2.2.2.2.2
  refine ⟨nI (plO P (-9) (m, 0, false) 10).2.1, clX u1 0 (P.1 4), w2, ?_, ?_, Q, hR1.mod e2.1 ⟨fun k hk => ?_, fun i hi => ⟨fun k hk => ?_, fun q => ?_⟩⟩ e3 (clear_MX hn) ?_ hz⟩
  · simp only [fX6_play, played_eq hW hR.2.1 i2 i1, Option.bind_some, h1, b1]
  · simp only [fX7_play, h2, Option.bind_some, e1]
  · rw [e2.2.1]
    exact b3.2.1.1 k hk
  · rw [e2.2.1] at hi
    have := (b3.2.1.2 i hi).1 k hk
    rw [this]
    simp only [emp]
    by_cases h5 : 5 ≤ k
    · rw [if_pos h5]
      rcases (show k = 5 ∨ k = 6 by omega) with rfl | rfl
      · rw [hout i hi]
      · rw [hz i (by rw [e2.2.1]; exact hi) (hout i hi)]
    · rw [if_neg h5, e2.2.2.1 i k (by omega)]
  · rw [e2.2.1] at hi
    have := hout i hi
    omega
  · exact ⟨fun k h1 _ => e4.1 k h1, e4.2.1 3 (by omega) (by omega) (by omega) (by omega), e4.2.2.1 1 (by omega) (by omega), e4.2.2.1 6 (by omega) (by omega), e4.2.2.1 7 (by omega) (by omega)⟩
theorem restore2 {w wc : S} (h : gF (cpP w 0 10 125) wc) : ∃ wd, fX7_copies 10 0 wc = some wd ∧ SM w wd ∧ wd.2 = w.2 := by
  have hc : fX7_copies 10 0 wc = some (cpP wc 10 0 125) := copies_eq (p := 10) (q := 0) (by omega) (by omega) (by omega)
  have e0 : ∀ k, k < 125 → (cpP wc 10 0 125).1 1 k = w.1 1 k := fun k hk => by
    have h1 := cpP_in (w := wc) (p := 10) (q := 0) hk
    rw [show 125 * 0 + k = k by omega] at h1
    rw [h1, h.1 _ (by omega)]
    have h2 := cpP_in (w := w) (p := 0) (q := 10) hk
    rw [h2, show 125 * 0 + k = k by omega]
  have ej : ∀ k, k = 1 ∨ k = 6 ∨ k = 7 → (cpP wc 10 0 125).1 0 k = w.1 0 k := fun k hk => by
    rw [cpP_ne (by omega), h.2.2.1 k (by omega) (by omega), cpP_ne (by omega)]
  refine ⟨_, hc, ⟨fun k hk => ?_, ?_, ej 1 (by omega), ej 6 (by omega), ej 7 (by omega)⟩, h.2.2.2⟩
  · by_cases hk1 : k < 125
    · exact e0 k hk1
    · rw [cpP_out (by omega), h.1 k (by omega), cpP_out (by omega)]
  · rw [cpP_ne (by omega), h.2.1 3 (by omega) (by omega) (by omega) (by omega), cpP_ne (by omega)]
theorem liftsTo_eq {P : Bx} {u w : S} (hR : RR P u w) (v : Int32) : ∃ r w', fX6_liftsTo v u = some r ∧ fX7_liftsTo v w = some (r, w') ∧ SM w w' ∧ w'.2 = w.2 := by
  obtain ⟨hW, hC, hM, -, -⟩ := hR
  have hn := hW.2.2.2.2.1
  simp only [fX6_liftsTo, fX7_liftsTo]
  rcases has_tray (b := 0) v hn hC hM with ⟨h1, h2⟩ | ⟨i, rfl, hi, h1, h2⟩
  · rw [h1, h2, Option.bind_some, Option.bind_some, if_pos rfl, if_pos rfl]
    exact ⟨_, _, rfl, rfl, SM.refl w, rfl⟩
  rw [h1, h2, Option.bind_some, Option.bind_some, if_neg (show ¬ (1 : Int32) = 0 by decide), if_neg (show ¬ (1 : Int32) = 0 by decide), gd_t (inb_n (by omega) (by omega)), ncl (by omega), (hC.2 i hi).1 5 (by omega)]
  have h51 := hW.in1 i hi
  rcases (show P.2 i 5 = 0 ∨ P.2 i 5 = 1 by omega) with h5 | h5
  · rw [hM.isIn0 hW rfl hi (by omega), h5, if_pos nI_0, Option.bind_some, if_pos rfl]
    exact ⟨_, _, rfl, rfl, SM.refl w, rfl⟩
  · obtain ⟨m, i1, i2, i3, i4⟩ := inside_bc hW hC
    obtain ⟨w2, e1, Q, e2, e3, e4⟩ := plays_eq (w := cpP w 0 10 125) (nI i) hW (copies_MRo (p := 0) (q := 10) (r := 0) hn (by omega) hM) i2 i3
    obtain ⟨wd, d1, d2, d3⟩ := restore2 e4
    rw [hM.isIn1 hW rfl hi h5, h5, if_neg (show ¬ nI 1 = 0 by decide), Option.bind_some, if_neg (show ¬ (1 : Int32) = 0 by decide), cp10, Option.bind_some, e1, Option.bind_some, d1, Option.bind_some, played_eq hW hC i2 i1, Option.bind_some]
    exact ⟨_, _, rfl, rfl, d2, d3⟩
theorem sim_liftsTo : Sim_liftsTo Rl := by
  intro u w a ⟨P, hR⟩
  obtain ⟨r, w', h1, h2, h3, -⟩ := liftsTo_eq hR a
  exact ⟨r, w', h1, h2, P, hR.scr (SX.refl u) h3⟩
