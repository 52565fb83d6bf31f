theorem J1.sx {P : Bx} {t g : Nat} {u u' : S} {F : Nat → Nat} {c : Cd} (hg : g ≤ 1) (h : J1 P t g (tT u g F) c u') : SX u u' := by
  have e : ∀ j, ¬ scrC j → u'.1 j = u.1 j := fun j hj => by
    unfold scrC at hj
    rw [h.1 j (by omega), tT_ne (by omega)]
  exact ⟨fun j hj _ => e j hj, by rw [e 160 (by unfold scrC; omega)], by rw [e 160 (by unfold scrC; omega)]⟩
theorem J0.sx {g : Nat} {u u' : S} {F : Nat → Nat} {n : Nat} (hg : g ≤ 1) (h : J0 g (tT u g F) n u') : SX u u' := by
  have e : ∀ j, ¬ scrC j → u'.1 j = u.1 j := fun j hj => by
    unfold scrC at hj
    rw [h.1 j (by omega), tT_ne (by omega)]
  exact ⟨fun j hj _ => e j hj, by rw [e 160 (by unfold scrC; omega)], by rw [e 160 (by unfold scrC; omega)]⟩
theorem KM.sm {P : Bx} {t : Nat} {w w' : S} {F : Nat → Nat} {c : Cd × Nat} (h : KM P t (tW w F) c w') : SM w w' := by
  obtain ⟨k1, k2, k3, -⟩ := h
  have e0 : ∀ k, k = 1 ∨ k = 6 ∨ k = 7 → w'.1 0 k = w.1 0 k := fun k hk => by
    rw [k3 k (by omega) (by omega) (by omega) (by omega) (by omega) (by omega) (by omega), tW_ne (by omega)]
  exact ⟨fun k _ => by rw [k1 1 (by omega), tW_ne (by omega)], by rw [k1 3 (by omega), tW_ne (by omega)], e0 1 (by omega), e0 6 (by omega), e0 7 (by omega)⟩
/-- place: both answer alike, and nothing that is seen changes -/
theorem place_eq {P : Bx} {u w : S} (h : RR P u w) (a b : Int32) : ∃ r u' w', fX6_place a b u = some (r, u') ∧ fX7_place a b w = some (r, w') ∧ SX u u' ∧ SM w w' ∧ u'.2 = u.2 ∧ w'.2 = w.2 := by
  obtain ⟨hW, hC, hM, -, -⟩ := h
  have hn := hW.2.2.2.2.1
  simp only [fX6_place, fX7_place]
  rcases has_tray (b := 0) a hn hC hM with ⟨h1, h2⟩ | ⟨i, rfl, hi, h1, h2⟩
  · rw [h1, h2, Option.bind_some, Option.bind_some, if_pos rfl, if_pos rfl]
    exact ⟨_, _, _, rfl, rfl, SX.refl u, SM.refl w, rfl, rfl⟩
  rw [h1, h2, Option.bind_some, Option.bind_some, if_neg (show ¬ (1 : Int32) = 0 by decide), if_neg (show ¬ (1 : Int32) = 0 by decide)]
  rcases witn (v := b) (A := 0) (B := 3) (a := 0) (b := 3) rfl rfl (by omega) (by omega) with k | ⟨x, rfl, -, hx, k⟩
  · rw [(k u w).1, (k u w).2, Option.bind_some, Option.bind_some, if_pos rfl, if_pos rfl]
    exact ⟨_, _, _, rfl, rfl, SX.refl u, SM.refl w, rfl, rfl⟩
  rw [(k u w).1, (k u w).2, Option.bind_some, Option.bind_some, if_neg (show ¬ (1 : Int32) = 0 by decide), if_neg (show ¬ (1 : Int32) = 0 by decide)]
  have ge : ∀ v : Option (Int32 × S), gd (inb (nI i) 12) v = v := fun v => gd_t (inb_n (by omega) (by omega))
  have h51 := hW.in1 i hi
  simp only [ge, ncl (show i < 2147483648 by omega), (hC.2 i hi).1 5 (show 5 < 7 by omega)]
  rcases (show P.2 i 5 = 0 ∨ P.2 i 5 = 1 by omega) with h5 | h5
  · have hC1 := tT_CR (g := 0) (F := tpF P) (show 0 < 11 by omega) hn hC
    obtain ⟨u', s1, s2⟩ := search1_eq (g := 0) hW (show 0 < 11 by omega) hC1 hi (fun k hk => tT_at hk)
    obtain ⟨w', f1, f2⟩ := finds_eq hW hM (v := nI i) rfl hi
    have e4 : (u'.2 = u.2 ∧ w'.2 = w.2) := ⟨s2.2.1, f2.2.1⟩
    have hx1 := s2.sx (show (0 : Nat) ≤ 1 by omega)
    have hx2 := f2.sm
    have hC2 : CR u' 0 P := hC.scr (by omega) hn hx1
    rw [hM.isIn0 hW rfl hi (by omega), h5, if_pos nI_0, survey_eq hW hC (by omega), Option.bind_some, Option.bind_some, if_pos rfl, s1, f1, Option.bind_some, Option.bind_some]
    obtain ⟨-, -, s3, s4⟩ := s2
    obtain ⟨-, -, -, -, f3, f4⟩ := f2
    have htl := tl_le hW hi
    have w2 := hW.2.2.1
    rcases hb : best P i with _ | d
    · rw [if_pos (s3 hb), if_pos (f3 hb)]
      exact ⟨_, _, _, rfl, rfl, hx1, hx2, e4.1, e4.2⟩
    · obtain ⟨a1, a2, a3, a4, a5, ⟨z, z1, z2, z3⟩, a6, a7, a8, a9, a10⟩ := s4 d hb
      obtain ⟨b1, b2, b3, b4, b5⟩ := f4 d hb
      rw [z3, if_neg (by rw [show (0 : Int32) = nI 0 from rfl, neq (by omega) (by omega)]; omega), b2, if_neg (not9 (by omega)), a6, a7, a8, a9, b3, b4, b5, tall_eq hC2 hi, Option.bind_some, nadd]
      rcases (show x = 0 ∨ x = 1 ∨ x = 2 ∨ x = 3 by omega) with rfl | rfl | rfl | rfl
      · rw [if_pos (show nI 0 = 0 from rfl), if_pos (show nI 0 = 0 from rfl)]
        exact ⟨_, _, _, rfl, rfl, hx1, hx2, e4.1, e4.2⟩
      · rw [if_neg (show ¬ nI 1 = 0 by decide), if_neg (show ¬ nI 1 = 0 by decide), if_pos (show nI 1 = 1 from rfl), if_pos (show nI 1 = 1 from rfl)]
        exact ⟨_, _, _, rfl, rfl, hx1, hx2, e4.1, e4.2⟩
      · rw [if_neg (show ¬ nI 2 = 0 by decide), if_neg (show ¬ nI 2 = 0 by decide), if_neg (show ¬ nI 2 = 1 by decide), if_neg (show ¬ nI 2 = 1 by decide), if_pos (show nI 2 = 2 from rfl), if_pos (show nI 2 = 2 from rfl)]
        rcases (show d.2.2.1 = 0 ∨ d.2.2.1 = 1 by omega) with q | q
        · rw [q, if_pos (show nI 0 = 0 from rfl)]
          exact ⟨_, _, _, rfl, rfl, hx1, hx2, e4.1, e4.2⟩
        · rw [q, if_neg (show ¬ nI 1 = 0 by decide)]
          exact ⟨_, _, _, rfl, rfl, hx1, hx2, e4.1, e4.2⟩
      · rw [if_neg (show ¬ nI 3 = 0 by decide), if_neg (show ¬ nI 3 = 0 by decide), if_neg (show ¬ nI 3 = 1 by decide), if_neg (show ¬ nI 3 = 1 by decide), if_neg (show ¬ nI 3 = 2 by decide), if_neg (show ¬ nI 3 = 2 by decide)]
        exact ⟨_, _, _, rfl, rfl, hx1, hx2, e4.1, e4.2⟩
  · rw [hM.isIn1 hW rfl hi h5, h5, if_neg (show ¬ nI 1 = 0 by decide), Option.bind_some, if_neg (show ¬ (1 : Int32) = 0 by decide)]
    exact ⟨_, _, _, rfl, rfl, SX.refl u, SM.refl w, rfl, rfl⟩
theorem sim_place : Sim_place Rl := by
  intro u w a b ⟨P, hR⟩
  obtain ⟨r, u', w', h1, h2, h3, h4, -⟩ := place_eq hR a b
  exact ⟨r, u', w', h1, h2, P, hR.scr h3 h4⟩
theorem sim_places : Sim_places Rl := by
  intro u w a ⟨P, hR⟩
  obtain ⟨hW, hC, hM, hH, hT⟩ := hR
  have hR : RR P u w := ⟨hW, hC, hM, hH, hT⟩
  have hn := hW.2.2.2.2.1
  simp only [fX6_places, fX7_places]
  rcases has_tray (b := 0) a hn hC hM with ⟨h1, h2⟩ | ⟨i, rfl, hi, h1, h2⟩
  · rw [h1, h2, Option.bind_some, Option.bind_some, if_pos rfl, if_pos rfl]
    exact ⟨_, _, _, rfl, rfl, P, hR⟩
  rw [h1, h2, Option.bind_some, Option.bind_some, if_neg (show ¬ (1 : Int32) = 0 by decide), if_neg (show ¬ (1 : Int32) = 0 by decide)]
  have ge : ∀ v : Option (Int32 × S), gd (inb (nI i) 12) v = v := fun v => gd_t (inb_n (by omega) (by omega))
  have h51 := hW.in1 i hi
  simp only [ge, ncl (show i < 2147483648 by omega), (hC.2 i hi).1 5 (show 5 < 7 by omega)]
  rcases (show P.2 i 5 = 0 ∨ P.2 i 5 = 1 by omega) with h5 | h5
  · have hC1 := tT_CR (g := 0) (F := tpF P) (show 0 < 11 by omega) hn hC
    obtain ⟨u', s1, s2⟩ := search0_eq (g := 0) hW (show 0 < 11 by omega) hC1 hi (fun k hk => tT_at hk)
    obtain ⟨w', f1, f2⟩ := finds_eq hW hM (v := nI i) rfl hi
    have hx1 := s2.sx (show (0 : Nat) ≤ 1 by omega)
    have hx2 := f2.sm
    rw [hM.isIn0 hW rfl hi (by omega), h5, if_pos nI_0, survey_eq hW hC (by omega), Option.bind_some, Option.bind_some, if_pos rfl, s1, f1, Option.bind_some, Option.bind_some, s2.2.2, f2.2.2.2.1]
    exact ⟨_, _, _, rfl, rfl, P, hR.scr hx1 hx2⟩
  · rw [hM.isIn1 hW rfl hi h5, h5, if_neg (show ¬ nI 1 = 0 by decide), Option.bind_some, if_neg (show ¬ (1 : Int32) = 0 by decide)]
    exact ⟨_, _, _, rfl, rfl, P, hR⟩
