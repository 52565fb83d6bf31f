theorem alongX_raw (s : S) (v : Nat) (w : Int32) : fX5_alongX v w s = some (if w = 0 then s.1 v 0 else s.1 v 1) := by
  unfold fX5_alongX
  split <;> rfl
theorem alongY_raw (s : S) (v : Nat) (w : Int32) : fX5_alongY v w s = some (if w = 0 then s.1 v 1 else s.1 v 0) := by
  unfold fX5_alongY
  split <;> rfl
theorem lie_CR {u : S} {b : Nat} {P : Bx} {t x y w : Nat} (hb : b < 11) (hC : CR u b P) (hn : P.1 4 ≤ 12) (ht : t < P.1 4) (hw : w ≤ 1) (hr : rs (plc P t x y w) t = (flr P t x y w).2) (ho : ∀ j, j < P.1 4 → j ≠ t → P.2 j 5 = 1 → rs (plc P t x y w) j = rs P j) :
    ∃ u', fX5_lie (12 * b + t) (nI x) (nI y) (nI w) (nI (flr P t x y w).1) (nI (flr P t x y w).2) u = some u' ∧ CR u' b (plc P t x y w) ∧ (∀ j, j ≠ 12 * b + t → u'.1 j = u.1 j) ∧ u'.2 = u.2 ∧ u'.1 (12 * b + t) 11 = nI (flr P t x y w).1 := by
  have hbb : isb (nI w) = true := isb_n rfl hw
  have c := (hC.2 t ht).1
  obtain ⟨v, hv⟩ : ∃ v, v = 12 * b + t := ⟨_, rfl⟩
  have eX : (if nI w = 0 then u.1 v 0 else u.1 v 1) = nI (axt P t w) := by
    rw [hv, c 0 (by omega), c 1 (by omega)]
    unfold axt
    rcases (show w = 0 ∨ w = 1 by omega) with rfl | rfl
    · rfl
    · rfl
  have eY : (if nI w = 0 then u.1 v 1 else u.1 v 0) = nI (ayt P t w) := by
    rw [hv, c 0 (by omega), c 1 (by omega)]
    unfold ayt
    rcases (show w = 0 ∨ w = 1 by omega) with rfl | rfl
    · rfl
    · rfl
  have eT : u.1 v 2 + u.1 v 4 = nI (tl P t) := by
    rw [hv, c 2 (by omega), c 4 (by omega), nadd]
    rfl
  simp only [← hv, fX5_lie, nm_k]
  rw [gd_t hbb]
  simp only [alongX_raw, alongY_raw, fX5_tall, Option.bind_some]
  refine ⟨_, rfl, ⟨fun k hk => ?_, fun j hj => ?_⟩, fun j hj => ?_, rfl, ?_⟩
  · simp only [up_ne _ _ _ _ (show 132 + b ≠ v by omega)]
    exact hC.1 k hk
  · have hj : j < P.1 4 := hj
    by_cases hjt : j = t
    · subst hjt
      rw [← hv] at c
      refine ⟨fun k hk => ?_, fun _ => ?_⟩
      · rw [← hv]
        rcases (show k = 0 ∨ k = 1 ∨ k = 2 ∨ k = 3 ∨ k = 4 ∨ k = 5 ∨ k = 6 by omega) with rfl | rfl | rfl | rfl | rfl | rfl | rfl
        · rw [plc_k (by omega), ← c 0 (by omega)]; simp [up_at]
        · rw [plc_k (by omega), ← c 1 (by omega)]; simp [up_at]
        · rw [plc_k (by omega), ← c 2 (by omega)]; simp [up_at]
        · rw [plc_k (by omega), ← c 3 (by omega)]; simp [up_at]
        · rw [plc_k (by omega), ← c 4 (by omega)]; simp [up_at]
        · rw [plc_5]; simp [up_at]; rfl
        · rw [plc_6]; simp [up_at]
      · rw [← hv, plc_7, plc_8, plc_9, plc_tp, plc_ax.1, plc_ax.2, hr, ← nadd x, ← nadd y, ← nadd (flr P j x y w).1, ← eX, ← eY, ← eT]
        simp [up_at]
    · have e : ∀ k, ((plc P t x y w).2 j) k = P.2 j k := fun k => by rw [plc_o hjt]
      have hcj := CT_up (Q := plc P t x y w) (hC.2 j hj) (fun q => ho j hj hjt (by rw [← e 5]; exact q)) (e 5) e
      unfold CT at hcj ⊢
      simp only [up_ne _ _ _ _ (show 12 * b + j ≠ v by omega)]
      exact hcj
  · simp only [up_ne _ _ _ _ hj]
  · simp [up_at]
/-- what the reference writes where a tray comes to lie -/
def cmW (w : S) (t x y tw f : Nat) : S := up (up (up (up (up w 1 (5 + 10 * t + 5) 1) 1 (5 + 10 * t + 6) (nI tw)) 1 (5 + 10 * t + 7) (nI x)) 1 (5 + 10 * t + 8) (nI y)) 1 (5 + 10 * t + 9) (nI f)
theorem comes_eq {w : S} {P : Bx} {t x y tw : Nat} {v vx vy vt : Int32} (hW : WF P) (hM : MR w 0 P) (ht : t < P.1 4) (htw : tw ≤ 1) (hv : v = nI t) (hvx : vx = nI x) (hvy : vy = nI y) (hvt : vt = nI tw) (hx : x + axt P t tw ≤ P.1 0) (hy : y + ayt P t tw ≤ P.1 1) :
    ∃ w', fX7_comes v vx vy vt w = some w' ∧ MR w' 0 (plc P t x y tw) ∧ (∀ k, 125 ≤ k → w'.1 1 k = w.1 1 k) ∧ (∀ j, j ≠ 0 → j ≠ 1 → j ≠ 2 → w'.1 j = w.1 j) ∧ (∀ k, k ≠ 3 → k ≠ 4 → w'.1 0 k = w.1 0 k) ∧ w'.2 = w.2 := by
  subst hv; subst hvx; subst hvy; subst hvt
  have hn := hW.2.2.2.2.1
  have w0 := hW.1
  have w1 := hW.2.1
  obtain ⟨z, hz⟩ : ∃ z, z = tW w (tpW P) := ⟨_, rfl⟩
  have hMz : MR z 0 P := by rw [hz]; exact tW_MR hn hM
  have hl : fX7_looksAt (nI t) (nI x) (nI y) (nI tw) z = some (ms z (flr P t x y tw)) := looksAt_eq hW hMz ht htw (fun k hk => by rw [hz]; exact tW_at hk) (by omega) (by omega)
  obtain ⟨q, hq⟩ : ∃ q, q = ms z (flr P t x y tw) := ⟨_, rfl⟩
  have hq3 : q.1 0 3 = nI (flr P t x y tw).1 := by rw [hq, ms_3]
  have hqM : MR q 0 P := by rw [hq]; exact ms_MR hn hMz
  have hqj : ∀ j, j ≠ 0 → j ≠ 2 → q.1 j = w.1 j := fun j a b => by rw [hq, ms_ne a, hz, tW_ne b]
  have hqk : ∀ k, k ≠ 3 → k ≠ 4 → q.1 0 k = w.1 0 k := fun k a b => by rw [hq, ms_k a b, hz, tW_ne (by omega)]
  have hc : fX7_comes (nI t) (nI x) (nI y) (nI tw) w = some (cmW q t x y tw (flr P t x y tw).1) := by
    have hs : ∀ (s : S) k (v : Int32), k < 10 → fX7_sets (nI t) (nI k) v s = some (up s 1 (5 + 10 * t + k) v) := fun s k v hk => sets_at rfl rfl (by omega)
    simp only [fX7_comes, laysTops_eq hW hM, Option.bind_some, ← hz]
    have e3 : ∀ s : S, s.1 0 3 = nI (flr P t x y tw).1 → (up (up (up (up s 1 (5 + 10 * t + 5) 1) 1 (5 + 10 * t + 6) (nI tw)) 1 (5 + 10 * t + 7) (nI x)) 1 (5 + 10 * t + 8) (nI y)).1 0 3 = nI (flr P t x y tw).1 := fun s h => by
      rw [up_ne _ _ _ _ (by omega), up_ne _ _ _ _ (by omega), up_ne _ _ _ _ (by omega), up_ne _ _ _ _ (by omega), h]
    rcases (show tw = 0 ∨ tw = 1 by omega) with rfl | rfl
    · rw [if_neg (show ¬ nI 0 = 1 by decide), show (0 : Int32) = nI 0 from rfl, hl, Option.bind_some, ← hq, show (5 : Int32) = nI 5 from rfl, show (6 : Int32) = nI 6 from rfl, show (7 : Int32) = nI 7 from rfl, show (8 : Int32) = nI 8 from rfl, show (9 : Int32) = nI 9 from rfl, hs _ 5 _ (by omega), Option.bind_some, hs _ 6 _ (by omega), Option.bind_some, hs _ 7 _ (by omega), Option.bind_some, hs _ 8 _ (by omega), Option.bind_some, hs _ 9 _ (by omega), Option.bind_some, e3 q hq3]
      rfl
    · rw [if_pos (show nI 1 = 1 from rfl), show fX7_looksAt (nI t) (nI x) (nI y) 1 z = fX7_looksAt (nI t) (nI x) (nI y) (nI 1) z from rfl, hl, Option.bind_some, ← hq, show (5 : Int32) = nI 5 from rfl, show (6 : Int32) = nI 6 from rfl, show (7 : Int32) = nI 7 from rfl, show (8 : Int32) = nI 8 from rfl, show (9 : Int32) = nI 9 from rfl, hs _ 5 _ (by omega), Option.bind_some, hs _ 6 _ (by omega), Option.bind_some, hs _ 7 _ (by omega), Option.bind_some, hs _ 8 _ (by omega), Option.bind_some, hs _ 9 _ (by omega), Option.bind_some, e3 q hq3]
      rfl
  refine ⟨_, hc, ⟨fun k hk => ?_, fun i k hi hk => ?_⟩, fun k hk => ?_, fun j h0 h1 h2 => ?_, fun k h3 h4 => ?_, ?_⟩
  · unfold cmW
    rw [up_at, if_neg (by omega), up_at, if_neg (by omega), up_at, if_neg (by omega), up_at, if_neg (by omega), up_at, if_neg (by omega)]
    exact hqM.1 k hk
  · have hi : i < P.1 4 := hi
    unfold cmW
    rw [up_at, up_at, up_at, up_at, up_at]
    by_cases hit : i = t
    · subst hit
      rcases (show k < 5 ∨ k = 5 ∨ k = 6 ∨ k = 7 ∨ k = 8 ∨ k = 9 by omega) with hk5 | rfl | rfl | rfl | rfl | rfl
      · rw [if_neg (by omega), if_neg (by omega), if_neg (by omega), if_neg (by omega), if_neg (by omega), plc_k hk5]
        exact hqM.2 i k hi hk
      · rw [if_neg (by omega), if_neg (by omega), if_neg (by omega), if_neg (by omega), if_pos (by omega), plc_5]
        rfl
      · rw [if_neg (by omega), if_neg (by omega), if_neg (by omega), if_pos (by omega), plc_6]
      · rw [if_neg (by omega), if_neg (by omega), if_pos (by omega), plc_7]
      · rw [if_neg (by omega), if_pos (by omega), plc_8]
      · rw [if_pos (by omega), plc_9]
    · rw [if_neg (by omega), if_neg (by omega), if_neg (by omega), if_neg (by omega), if_neg (by omega), plc_o hit]
      exact hqM.2 i k hi hk
  · unfold cmW
    rw [up_at, if_neg (by omega), up_at, if_neg (by omega), up_at, if_neg (by omega), up_at, if_neg (by omega), up_at, if_neg (by omega), hqj 1 (by omega) (by omega)]
  · unfold cmW
    rw [up_ne _ _ _ _ h1, up_ne _ _ _ _ h1, up_ne _ _ _ _ h1, up_ne _ _ _ _ h1, up_ne _ _ _ _ h1, hqj j h0 h2]
  · unfold cmW
    rw [up_ne _ _ _ _ (by omega), up_ne _ _ _ _ (by omega), up_ne _ _ _ _ (by omega), up_ne _ _ _ _ (by omega), up_ne _ _ _ _ (by omega), hqk k h3 h4]
  · show q.2 = w.2
    rw [hq, hz]
    rfl
