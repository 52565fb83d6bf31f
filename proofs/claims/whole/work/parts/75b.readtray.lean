/-! a tray read -/
def Fr (u0 w0 u w : S) : Prop := (∀ j, j ≠ 160 → j ≠ 142 → ¬ (120 ≤ j ∧ j < 132) → u.1 j = u0.1 j) ∧ u.1 160 0 = u0.1 160 0 ∧ (∀ j, j ≠ 0 → j ≠ 1 → w.1 j = w0.1 j) ∧ (∀ k, 125 ≤ k → w.1 1 k = w0.1 1 k) ∧ (∀ k, k < 4 → w.1 1 k = w0.1 1 k) ∧ ∀ k, k ≠ 7 → k ≠ 8 → k ≠ 9 → k ≠ 10 → w.1 0 k = w0.1 0 k
def kL (c : Nat) (T : Nat → Nat → Nat) (u0 w0 u w : S) : Prop := Fr u0 w0 u w ∧ u.1 (132 + 10) 4 = nI c ∧ (∀ i k, i < c → k < 7 → u.1 (12 * 10 + i) k = nI (T i k)) ∧ ∀ i k, i < c → k < 10 → w.1 1 (5 + 10 * i + k) = nI (T i k)
theorem Fr.tx {n : Nat} {s : Nat → Nat} {u0 w0 u w : S} (h : Fr u0 w0 u w) (g : tx n s u0 w0) : tx n s u w := ⟨g.1, by rw [h.2.1]; exact g.2.1, by rw [h.2.2.2.2.2 6 (by omega) (by omega) (by omega) (by omega)]; exact g.2.2.1, fun i hi => by rw [h.1 161 (by omega) (by omega) (by omega), h.2.2.1 3 (by omega) (by omega)]; exact g.2.2.2 i hi⟩
theorem Fr.t {u0 w0 u w u' w' : S} (h : Fr u0 w0 u w) (h1 : fxx u u') (h2 : fmm w w') : Fr u0 w0 u' w' :=
  ⟨fun j a b c => (h1.1 j a).trans (h.1 j a b c), h1.2.trans h.2.1, fun j a b => (h2.1 j a).trans (h.2.2.1 j a b), fun k a => by rw [h2.1 1 (by omega)]; exact h.2.2.2.1 k a, fun k a => by rw [h2.1 1 (by omega)]; exact h.2.2.2.2.1 k a, fun k a b c d => (h2.2.1 k a b c d).trans (h.2.2.2.2.2 k a b c d)⟩
theorem kL.t {c : Nat} {T : Nat → Nat → Nat} {u0 w0 u w u' w' : S} (h : kL c T u0 w0 u w) (hc : c ≤ 12) (h1 : fxx u u') (h2 : fmm w w') : kL c T u0 w0 u' w' :=
  ⟨h.1.t h1 h2, by rw [h1.1 _ (by omega)]; exact h.2.1, fun i k hi hk => by rw [h1.1 _ (by omega)]; exact h.2.2.1 i k hi hk, fun i k hi hk => by rw [h2.1 1 (by omega)]; exact h.2.2.2 i k hi hk⟩
theorem kL.ux {c k : Nat} {v : Int32} {T : Nat → Nat → Nat} {u0 w0 u w : S} (h : kL c T u0 w0 u w) (hc : c < 12) : kL c T u0 w0 (up u (12 * 10 + c) k v) w :=
  ⟨⟨fun j a b d => by rw [up_ne _ _ _ _ (by omega)]; exact h.1.1 j a b d, by rw [up_ne _ _ _ _ (by omega)]; exact h.1.2.1, h.1.2.2⟩, by rw [up_ne _ _ _ _ (by omega)]; exact h.2.1, fun i k hi hk => by rw [up_ne _ _ _ _ (by omega)]; exact h.2.2.1 i k hi hk, h.2.2.2⟩
theorem kL.wx {c k : Nat} {v : Int32} {T : Nat → Nat → Nat} {u0 w0 u w : S} (h : kL c T u0 w0 u w) (hc : c < 12) (hk : k < 10) : kL c T u0 w0 u (up w 1 (5 + 10 * c + k) v) :=
  ⟨⟨h.1.1, h.1.2.1, fun j a b => by rw [up_ne _ _ _ _ b]; exact h.1.2.2.1 j a b, fun j a => by rw [up_at, if_neg (by omega)]; exact h.1.2.2.2.1 j a, fun j a => by rw [up_at, if_neg (by omega)]; exact h.1.2.2.2.2.1 j a, fun j a b d e => by rw [up_ne _ _ _ _ (by omega)]; exact h.1.2.2.2.2.2 j a b d e⟩, h.2.1, h.2.2.1, fun i j hi hj => by rw [up_at, if_neg (by omega)]; exact h.2.2.2 i j hi hj⟩
theorem kL.w4 {c : Nat} {v : Int32} {T : Nat → Nat → Nat} {u0 w0 u w : S} (h : kL c T u0 w0 u w) : kL c T u0 w0 u (up w 1 4 v) :=
  ⟨⟨h.1.1, h.1.2.1, fun j a b => by rw [up_ne _ _ _ _ b]; exact h.1.2.2.1 j a b, fun j a => by rw [up_at, if_neg (by omega)]; exact h.1.2.2.2.1 j a, fun j a => by rw [up_at, if_neg (by omega)]; exact h.1.2.2.2.2.1 j a, fun j a b d e => by rw [up_ne _ _ _ _ (by omega)]; exact h.1.2.2.2.2.2 j a b d e⟩, h.2.1, h.2.2.1, fun i j hi hj => by rw [up_at, if_neg (by omega)]; exact h.2.2.2 i j hi hj⟩
theorem kL.lv {c : Nat} {T : Nat → Nat → Nat} {u0 w0 u w : S} (h : kL c T u0 w0 u w) (hc : c < 12) : kL c T u0 w0 u (lvW w c 10) := by
  have e : ∀ j k, ¬ (j = 1 ∧ 5 + 10 * c + 5 ≤ k ∧ k < 5 + 10 * c + 10) → (lvW w c 10).1 j k = w.1 j k := fun j k hq => by
    simp only [lvW]
    rw [if_neg hq]
  exact ⟨⟨h.1.1, h.1.2.1, fun j a b => by rw [← h.1.2.2.1 j a b]; exact funext (fun k => e j k (by omega)), fun j a => by rw [e _ _ (by omega)]; exact h.1.2.2.2.1 j a, fun j a => by rw [e _ _ (by omega)]; exact h.1.2.2.2.2.1 j a, fun j a b d q => by rw [e _ _ (by omega)]; exact h.1.2.2.2.2.2 j a b d q⟩, h.2.1, h.2.2.1, fun i j hi hj => by rw [e _ _ (by omega)]; exact h.2.2.2 i j hi hj⟩
theorem aT.ux {n a j k : Nat} {v : Int32} {u w : S} (h : aT n a u w) (hj : j ≠ 160) : aT n a (up u j k v) w := ⟨h.1, by rw [up_ne _ _ _ _ (by omega)]; exact h.2.1, h.2.2.1, by rw [up_ne _ _ _ _ (by omega)]; exact h.2.2.2.1, h.2.2.2.2⟩
theorem aT.wx {n a j k : Nat} {v : Int32} {u w : S} (h : aT n a u w) (hj : j ≠ 0) : aT n a u (up w j k v) := ⟨h.1, h.2.1, by rw [up_ne _ _ _ _ (by omega)]; exact h.2.2.1, h.2.2.2.1, by rw [up_ne _ _ _ _ (by omega)]; exact h.2.2.2.2⟩
theorem sK {n a c q : Nat} {s : Nat → Nat} {T : Nat → Nat → Nat} {u0 w0 u w : S} (h0 : tx n s u0 w0) (hc : c ≤ 12) (hK : kL c T u0 w0 u w) (ha : aT n a u w) (hq : 32 ≤ q) (hq2 : q < 127) : (∃ a' u' w', fX4_readSign (nI q) u = some (1, u') ∧ fX7_takes (nI q) w = some (1, w') ∧ kL c T u0 w0 u' w' ∧ aT n a' u' w' ∧ w'.1 1 = w.1 1 ∧ ∀ j, j ≠ 160 → u'.1 j = u.1 j) ∨ ∃ u' w', fX4_readSign (nI q) u = some (0, u') ∧ fX7_takes (nI q) w = some (0, w') ∧ Fr u0 w0 u' w' ∧ bad u' w' := by
  rcases sign_sim (hK.1.tx h0) ha hq hq2 with ⟨u', w', e1, e2, e3, e4, e5⟩ | ⟨u', w', e1, e2, e3, e4, e5⟩
  · exact Or.inl ⟨_, u', w', e1, e2, hK.t hc e4 e5, e3, e5.1 1 (by omega), e4.1⟩
  · exact Or.inr ⟨u', w', e1, e2, hK.1.t e4 e5, e3⟩
theorem into_sim {n a c k hi : Nat} {s : Nat → Nat} {T : Nat → Nat → Nat} {u0 w0 u w : S} (h0 : tx n s u0 w0) (hc : c < 12) (hk : k < 10) (hh : 1 ≤ hi) (hh2 : hi < 1000) (hK : kL c T u0 w0 u w) (ha : aT n a u w) : (∃ x a' u' w', fX4_readNumber (nI hi) u = some (1, u') ∧ fX7_readsInto (nI c) (nI k) (nI hi) w = some (1, w') ∧ kL c T u0 w0 u' w' ∧ aT n a' u' w' ∧ u'.1 160 5 = nI x ∧ 1 ≤ x ∧ x ≤ hi ∧ w'.1 1 (5 + 10 * c + k) = nI x ∧ ∀ j, j ≠ 5 + 10 * c + k → w'.1 1 j = w.1 1 j) ∨ ∃ u' w', fX4_readNumber (nI hi) u = some (0, u') ∧ fX7_readsInto (nI c) (nI k) (nI hi) w = some (0, w') ∧ Fr u0 w0 u' w' ∧ bad u' w' := by
  rcases num_sim hh hh2 (hK.1.tx h0) ha with ⟨x, a', u', w', e1, e2, e3, e4, e5, e6, e7, e8, e9⟩ | ⟨u', w', e1, e2, e3, e4, e5⟩
  · left
    refine ⟨x, a', u', up w' 1 (5 + 10 * c + k) (nI x), e1, ?_, (hK.t (by omega) e8 e9).wx hc hk, e3.wx (by omega), e4, e6, e7, by rw [up_at, if_pos ⟨rfl, rfl⟩], fun j hj => by rw [up_at, if_neg (by omega), e9.1 1 (by omega)]⟩
    simp only [fX7_readsInto, e2, Option.bind_some]
    rw [sets_at (v1 := nI c) (v2 := nI k) rfl rfl (show 5 + 10 * c + k < 1375 by omega), Option.bind_some, e5, gd_t (show isb 1 = true by decide)]
  · right
    refine ⟨u', up w' 1 (5 + 10 * c + k) (w'.1 0 10), e1, ?_, ((hK.t (T := T) (by omega) e4 e5).wx hc hk).1, ?_⟩
    · simp only [fX7_readsInto, e2, Option.bind_some]
      rw [sets_at (v1 := nI c) (v2 := nI k) rfl rfl (show 5 + 10 * c + k < 1375 by omega), Option.bind_some, gd_t (show isb 0 = true by decide)]
    · obtain ⟨p, q, b1, b2, b3, b4, b5, b6, b7⟩ := e3
      exact ⟨p, q, b1, b2, b3, b4, by rw [up_ne _ _ _ _ (by omega)]; exact b5, b6, by rw [up_ne _ _ _ _ (by omega)]; exact b7⟩
def xcc (u : S) (c : Nat) (f : Nat → Nat) : Prop := ∀ k, k < 7 → u.1 (12 * 10 + c) k = nI (f k)
def mcc (w : S) (c : Nat) (f : Nat → Nat) : Prop := ∀ k, k < 10 → w.1 1 (5 + 10 * c + k) = nI (f k)
def oc (n c : Nat) (T : Nat → Nat → Nat) (u0 w0 : S) (C : (Nat → Nat) → Prop) (rx rm : Option (Int32 × S)) : Prop :=
  (∃ a' f u' w', rx = some (1, u') ∧ rm = some (1, w') ∧ C f ∧ kL c T u0 w0 u' w' ∧ aT n a' u' w' ∧ w'.1 1 4 = nI (c + 1) ∧ xcc u' c f ∧ mcc w' c f) ∨ ∃ u' w', rx = some (0, u') ∧ rm = some (0, w') ∧ Fr u0 w0 u' w' ∧ bad u' w'
def EM (w : S) : Option (Int32 × S) :=
  gd (inb 4 1375) <| gd (inb 4 1375) <| nm (up w 1 (4 : Int32).toNatClampNeg ((w.1 1 (4 : Int32).toNatClampNeg) + 1)) fun u12 => (fX7_takes 59 u12).bind fun q13 => gd (isb q13.1) <| some (q13.1, q13.2)
def EX (u : S) : Option (Int32 × S) := (fX4_readSign 59 u).bind fun q10 => if q10.1 = 0 then some (0, q10.2) else some (1, q10.2)
def TM (q1 : Int32) (w : S) : Option (Int32 × S) := (fX7_here w).bind fun q11 => if q11 = 64 then (nm (up w 0 9 ((w.1 0 9) + 1)) fun u14 => (fX7_readsNumber 1 0 9 u14).bind fun q15 => if q15.1 = 0 then some (0, q15.2) else (fX7_sets q1 3 (q15.2.1 0 10) q15.2).bind fun q16 => EM q16) else EM w
def TXX (v : Nat) (u : S) : Option (Int32 × S) := (fX4_readTurn v u).bind fun q9 => if q9.1 = 0 then some (0, q9.2) else EX q9.2
def LMM (q1 : Int32) (w : S) : Option (Int32 × S) := (fX7_here w).bind fun q10 => if q10 = 108 then ((fX7_sets q1 4 1 w).bind fun q19 => nm (up q19 0 9 ((q19.1 0 9) + 1)) fun u20 => TM q1 u20) else TM q1 w
def LXX (v : Nat) (u : S) : Option (Int32 × S) := (fX4_readLid v u).bind fun q8 => if q8.1 = 0 then some (0, q8.2) else TXX v q8.2
theorem end_sim {n a c : Nat} {s f : Nat → Nat} {T : Nat → Nat → Nat} {u0 w0 u w : S} (h0 : tx n s u0 w0) (hc : c < 12) (hK : kL c T u0 w0 u w) (ha : aT n a u w) (h4 : w.1 1 4 = nI c) (hx : xcc u c f) (hm : mcc w c f) : oc n c T u0 w0 (fun g => g = f) (EX u) (EM w) := by
  have e4 : (4 : Int32).toNatClampNeg = 4 := by decide
  have hEM : EM w = (fX7_takes 59 (up w 1 4 (nI (c + 1)))).bind fun q13 => gd (isb q13.1) <| some (q13.1, q13.2) := by
    unfold EM
    rw [gd_t (by decide), gd_t (by decide), e4, h4, nm_k, show nI c + 1 = nI (c + 1) from nadd c 1]
  rw [hEM]
  unfold EX
  rcases sK (q := 59) h0 (by omega) (hK.w4 (v := nI (c + 1))) (ha.wx (j := 1) (k := 4) (v := nI (c + 1)) (by omega)) (by omega) (by omega) with ⟨a', u', w', e1, e2, e3, e5, e6, e7⟩ | ⟨u', w', e1, e2, e3, e5⟩
  · left
    rw [show (59 : Int32) = nI 59 from rfl, e1, e2]
    exact ⟨a', f, u', w', rfl, rfl, rfl, e3, e5, by rw [e6, up_at, if_pos ⟨rfl, rfl⟩], fun k hk => by rw [e7 _ (by omega)]; exact hx k hk, fun k hk => by rw [e6, up_at, if_neg (by omega)]; exact hm k hk⟩
  · right
    rw [show (59 : Int32) = nI 59 from rfl, e1, e2]
    exact ⟨u', w', rfl, rfl, e3, e5⟩
theorem oc.mono {n c : Nat} {T : Nat → Nat → Nat} {u0 w0 : S} {C D : (Nat → Nat) → Prop} {rx rm : Option (Int32 × S)} (h : oc n c T u0 w0 C rx rm) (g : ∀ f, C f → D f) : oc n c T u0 w0 D rx rm := by
  rcases h with ⟨a', f, u', w', e1, e2, e3, e4⟩ | h
  · exact Or.inl ⟨a', f, u', w', e1, e2, g f e3, e4⟩
  · exact Or.inr h
theorem in09 {x : Nat} (hx : x ≤ 9) (w : S) : fX7_in (nI x) 0 9 w = some 1 := by
  simp only [fX7_in]
  rw [show (0 : Int32) = nI 0 from rfl, show (9 : Int32) = nI 9 from rfl, if_neg (by rw [nlt (by omega) (by omega)]; omega), if_neg (by rw [nlt (by omega) (by omega)]; omega)]
theorem turn_sim {n a c : Nat} {s f : Nat → Nat} {T : Nat → Nat → Nat} {u0 w0 u w : S} (h0 : tx n s u0 w0) (hc : c < 12) (hK : kL c T u0 w0 u w) (ha : aT n a u w) (h4 : w.1 1 4 = nI c) (hx : xcc u c f) (hm : mcc w c f) (hf : f 3 ≤ 9) : oc n c T u0 w0 (fun g => (∀ k, k ≠ 3 → g k = f k) ∧ g 3 ≤ 9) (TXX (12 * 10 + c) u) (TM (nI c) w) := by
  have htx := hK.1.tx h0
  have hn := h0.1
  obtain ⟨aa, ax4, ax9, ax1, ax7⟩ := id ha
  obtain ⟨k1, k2⟩ := chx_c (a := a) (c := 64) htx (by omega) (by omega)
  unfold TXX TM
  simp only [fX4_readTurn, next_eq htx ax4 aa, here_eq htx ax9 aa, Option.bind_some, ax4, ax9, nm_k]
  rw [show (64 : Int32) = nI 64 from rfl]
  by_cases hs : a < n ∧ s a = 64
  · rw [if_pos (k1.mpr hs), if_pos (k2.mpr hs), show nI a + 1 = nI (a + 1) from nadd a 1]
    have fx1 : fxx u (up u 160 4 (nI (a + 1))) := fxx_up (by omega)
    have fm1 : fmm w (up w 0 9 (nI (a + 1))) := fmm_up (by omega)
    have hK1 := hK.t (by omega) fx1 fm1
    have htx1 := hK1.1.tx h0
    have b4 : (up u 160 4 (nI (a + 1))).1 160 4 = nI (a + 1) := by rw [up_at, if_pos ⟨rfl, rfl⟩]
    have b9 : (up w 0 9 (nI (a + 1))).1 0 9 = nI (a + 1) := by rw [up_at, if_pos ⟨rfl, rfl⟩]
    have b1 : (up u 160 4 (nI (a + 1))).1 160 1 = 0 := by rw [up_at, if_neg (by omega)]; exact ax1
    have b7 : (up w 0 9 (nI (a + 1))).1 0 7 = 0 := by rw [up_at, if_neg (by omega)]; exact ax7
    obtain ⟨u1, hu1⟩ : ∃ u1, u1 = up u 160 4 (nI (a + 1)) := ⟨_, rfl⟩
    obtain ⟨w1, hw1⟩ : ∃ w1, w1 = up w 0 9 (nI (a + 1)) := ⟨_, rfl⟩
    rw [← hu1] at fx1 hK1 htx1 b4 b1 ⊢
    rw [← hw1] at fm1 hK1 htx1 b9 b7 ⊢
    have fm2 : fmm w1 (up w1 0 10 0) := fmm_up (by omega)
    obtain ⟨w2, c1, c2, c3, c4, c5⟩ := m_num (u := u1) (a0 := a + 1) (K := 1) (by omega) 1 (a + 1) 0 FU (up w1 0 10 0) (by omega) (by unfold FU; omega) rfl (by omega) (htx1.t (fxx.refl u1) fm2) (by rw [up_at, if_neg (by omega)]; exact b9) (by rw [up_at, if_pos ⟨rfl, rfl⟩]; rfl)
    have hK2 := hK1.t (by omega) (fxx.refl u1) (fm2.trans c2)
    have htx2 := hK2.1.tx h0
    rw [up_at, if_neg (by omega), b7] at c5
    rw [next_eq htx1 b4 (by omega), Option.bind_some, dig_x htx1, Option.bind_some, Option.bind_some, b4]
    simp only [fX7_readsNumber, nm_k, b9]
    rw [show (1 : Int32) = nI 1 from rfl, c1, Option.bind_some, c3]
    have end1 : nd n s (a + 1) 1 = if dg n s (a + 1) = true then 1 else 0 := rfl
    by_cases hd : dg n s (a + 1) = true
    · rw [end1, if_pos hd] at c3 c4 ⊢
      obtain ⟨d1, d2, d3⟩ := dg_at hd
      have ev : vl s (a + 1) 0 1 = s (a + 1) - 48 := by
        show 10 * 0 + s (a + 1) - 48 = _
        omega
      rw [ev] at c4
      rw [if_neg (by rw [hd]; decide), if_neg (by rw [neq (by omega) (by omega)]; omega), dig_m htx2 c3 (by omega), Option.bind_some]
      have ech : chx n s (a + 1) - 48 = nI (s (a + 1) - 48) := by
        unfold chx
        rw [if_pos d1, show (48 : Int32) = nI 48 from rfl, nsub d2]
      have eu : (up u1 (12 * 10 + c) 3 (nI (s (a + 1) - 48))).1 160 4 = nI (a + 1) := by rw [up_ne _ _ _ _ (by omega)]; exact b4
      rw [ech, eu, show nI (a + 1) + nI 1 = nI (a + 1 + 1) from nadd _ 1, if_neg (show ¬ nI 1 = 0 by decide)]
      obtain ⟨u3, hu3⟩ : ∃ u3, u3 = up (up u1 (12 * 10 + c) 3 (nI (s (a + 1) - 48))) 160 4 (nI (a + 1 + 1)) := ⟨_, rfl⟩
      rw [← hu3]
      have hK3 : kL c T u0 w0 u3 w2 := by
        rw [hu3]
        exact (hK2.ux hc).t (by omega) (fxx_up (by omega)) (fmm.refl w2)
      have ha3 : aT n (a + 1 + 1) u3 w2 := ⟨by omega, by rw [hu3, up_at, if_pos ⟨rfl, rfl⟩], c3, by rw [hu3, up_at, if_neg (by omega), up_ne _ _ _ _ (by omega)]; exact b1, c5⟩
      by_cases hg : dg n s (a + 1 + 1) = true
      · right
        rw [Option.bind_some, if_neg (by rw [hg]; decide)]
        obtain ⟨w4, e1, e2, e3, e4⟩ := failm (w := w2) (k := nI 1) (p := nI (a + 1 + 1))
        obtain ⟨u4, g1, g2, g3, g4⟩ := failx (u := u3) (k := nI 1) (p := nI (a + 1 + 1))
        have htx3 := hK3.1.tx h0
        have hno : ¬ chx n s (a + 1 + 1) = nI 59 := fun q => by
          have := ((chx_c (c := 59) htx3 (by omega) (by omega)).1).mp q
          have := dg_at hg
          omega
        have hsx : EX u3 = some (0, u4) := by
          unfold EX
          simp only [fX4_readSign, next_eq htx3 ha3.2.1 ha3.1, Option.bind_some, ha3.2.1]
          rw [show (59 : Int32) = nI 59 from rfl, if_neg hno, show (1 : Int32) = nI 1 from rfl, g1, Option.bind_some, gd_t (show isb 0 = true by decide), Option.bind_some, if_pos rfl]
        rw [hsx, e1, Option.bind_some, gd_t (show isb 0 = true by decide), Option.bind_some, if_pos rfl]
        exact ⟨_, _, rfl, rfl, hK3.1.t g2 e2, 1, a + 1 + 1, by omega, by omega, by omega, g3, e3, g4, e4⟩
      · rw [Bool.not_eq_true] at hg
        rw [Option.bind_some, if_pos (b01_0.mpr hg), c4, in09 (by omega), Option.bind_some, if_neg (show ¬ (1 : Int32) = 0 by decide), Option.bind_some, if_neg (show ¬ nI 1 = 0 by decide), c4, sets_at (v1 := nI c) (v2 := 3) (k := 3) rfl rfl (by omega), Option.bind_some]
        refine (end_sim (f := fun k => if k = 3 then s (a + 1) - 48 else f k) h0 hc (hK3.wx hc (by omega)) (ha3.wx (by omega)) ?_ (fun k hk => ?_) (fun k hk => ?_)).mono (fun g hg => by
          subst hg
          exact ⟨fun k hk => if_neg hk, by show (if 3 = 3 then s (a + 1) - 48 else f 3) ≤ 9; rw [if_pos rfl]; omega⟩)
        · rw [up_at, if_neg (by omega), (fm1.trans (fm2.trans c2)).1 1 (by omega)]
          exact h4
        · rw [hu3, up_ne _ _ _ _ (by omega), up_at]
          by_cases hk3 : k = 3
          · rw [if_pos ⟨rfl, hk3⟩]
            show _ = nI (if k = 3 then s (a + 1) - 48 else f k)
            rw [if_pos hk3]
          · rw [if_neg (fun q => hk3 q.2), fx1.1 _ (by omega)]
            show _ = nI (if k = 3 then s (a + 1) - 48 else f k)
            rw [if_neg hk3]
            exact hx k hk
        · rw [up_at]
          by_cases hk3 : k = 3
          · rw [if_pos (by omega)]
            show _ = nI (if k = 3 then s (a + 1) - 48 else f k)
            rw [if_pos hk3]
          · rw [if_neg (by omega), (fm1.trans (fm2.trans c2)).1 1 (by omega)]
            show _ = nI (if k = 3 then s (a + 1) - 48 else f k)
            rw [if_neg hk3]
            exact hm k hk
    · right
      rw [end1, if_neg hd] at c3 c4 ⊢
      rw [Bool.not_eq_true] at hd
      rw [if_pos (b01_0.mpr hd), Nat.add_zero, if_pos rfl]
      obtain ⟨w4, e1, e2, e3, e4⟩ := failm (w := w2) (k := nI 1) (p := nI (a + 1))
      obtain ⟨u4, g1, g2, g3, g4⟩ := failx (u := u1) (k := nI 1) (p := nI (a + 1))
      rw [g1, e1, Option.bind_some, Option.bind_some, gd_t (show isb 0 = true by decide), gd_t (show isb 0 = true by decide), Option.bind_some, Option.bind_some, if_pos rfl, if_pos rfl]
      exact ⟨_, _, rfl, rfl, hK2.1.t g2 e2, 1, a + 1, by omega, by omega, by omega, g3, e3, g4, e4⟩
  · rw [if_neg (fun q => hs (k1.mp q)), if_neg (fun q => hs (k2.mp q)), Option.bind_some, if_neg (show ¬ (1 : Int32) = 0 by decide)]
    exact (end_sim h0 hc hK ha h4 hx hm).mono (fun g hg => by subst hg; exact ⟨fun _ _ => rfl, hf⟩)
theorem lid_sim {n a c : Nat} {s f : Nat → Nat} {T : Nat → Nat → Nat} {u0 w0 u w : S} (h0 : tx n s u0 w0) (hc : c < 12) (hK : kL c T u0 w0 u w) (ha : aT n a u w) (h4 : w.1 1 4 = nI c) (hx : xcc u c f) (hm : mcc w c f) (hf : f 3 ≤ 9) (hf4 : f 4 ≤ 1) : oc n c T u0 w0 (fun g => (∀ k, k ≠ 3 → k ≠ 4 → g k = f k) ∧ g 3 ≤ 9 ∧ g 4 ≤ 1) (LXX (12 * 10 + c) u) (LMM (nI c) w) := by
  have htx := hK.1.tx h0
  have hn := h0.1
  obtain ⟨aa, ax4, ax9, ax1, ax7⟩ := id ha
  obtain ⟨k1, k2⟩ := chx_c (a := a) (c := 108) htx (by omega) (by omega)
  unfold LXX LMM
  simp only [fX4_readLid, next_eq htx ax4 aa, here_eq htx ax9 aa, Option.bind_some, ax4, nm_k]
  rw [show (108 : Int32) = nI 108 from rfl]
  by_cases hs : a < n ∧ s a = 108
  · rw [if_pos (k1.mpr hs), if_pos (k2.mpr hs), Option.bind_some, if_neg (show ¬ (1 : Int32) = 0 by decide), sets_at (v1 := nI c) (v2 := 4) (k := 4) rfl rfl (by omega), Option.bind_some]
    have e9 : (up w 1 (5 + 10 * c + 4) 1).1 0 9 = nI a := by rw [up_ne _ _ _ _ (by omega)]; exact ax9
    rw [e9, show nI a + 1 = nI (a + 1) from nadd a 1]
    have hK1 : kL c T u0 w0 (up (up u 160 4 (nI (a + 1))) (12 * 10 + c) 4 1) (up (up w 1 (5 + 10 * c + 4) 1) 0 9 (nI (a + 1))) :=
      ((hK.t (by omega) (fxx_up (k := 4) (v := nI (a + 1)) (by omega)) (fmm.refl w)).ux hc (k := 4) (v := 1)).wx hc (k := 4) (v := 1) (by omega) |>.t (by omega) (fxx.refl _) (fmm_up (by omega))
    refine (turn_sim (a := a + 1) (f := fun k => if k = 4 then 1 else f k) h0 hc hK1 ⟨by omega, ?_, by rw [up_at, if_pos ⟨rfl, rfl⟩], ?_, ?_⟩ ?_ (fun k hk => ?_) (fun k hk => ?_) (by show (if 3 = 4 then 1 else f 3) ≤ 9; rw [if_neg (by omega)]; exact hf)).mono (fun g hg => ?_)
    · rw [up_ne _ _ _ _ (by omega), up_at, if_pos ⟨rfl, rfl⟩]
    · rw [up_ne _ _ _ _ (by omega), up_at, if_neg (by omega)]
      exact ax1
    · rw [up_at, if_neg (by omega), up_ne _ _ _ _ (by omega)]
      exact ax7
    · rw [up_ne _ _ _ _ (by omega), up_at, if_neg (by omega)]
      exact h4
    · rw [up_at]
      by_cases hk4 : k = 4
      · rw [if_pos ⟨rfl, hk4⟩]
        show _ = nI (if k = 4 then 1 else f k)
        rw [if_pos hk4]
        rfl
      · rw [if_neg (fun q => hk4 q.2), up_ne _ _ _ _ (by omega)]
        show _ = nI (if k = 4 then 1 else f k)
        rw [if_neg hk4]
        exact hx k hk
    · rw [up_ne _ _ _ _ (by omega), up_at]
      by_cases hk4 : k = 4
      · rw [if_pos (by omega)]
        show _ = nI (if k = 4 then 1 else f k)
        rw [if_pos hk4]
        rfl
      · rw [if_neg (by omega)]
        show _ = nI (if k = 4 then 1 else f k)
        rw [if_neg hk4]
        exact hm k hk
    · refine ⟨fun k h3 h4 => ?_, hg.2, ?_⟩
      · rw [hg.1 k h3]
        exact if_neg h4
      · rw [hg.1 4 (by omega)]
        exact Nat.le_refl 1
  · rw [if_neg (fun q => hs (k1.mp q)), if_neg (fun q => hs (k2.mp q)), Option.bind_some, if_neg (show ¬ (1 : Int32) = 0 by decide)]
    exact (turn_sim h0 hc hK ha h4 hx hm hf).mono (fun g hg => ⟨fun k h3 _ => hg.1 k h3, hg.2, by rw [hg.1 4 (by omega)]; exact hf4⟩)
