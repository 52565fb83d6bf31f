/-! p27's invariant; place and places; the history -/
def HS (u : S) : Prop := ∃ n o, n ≤ 8 ∧ o < 8 ∧ u.1 158 0 = nI n ∧ u.1 158 1 = nI o
/-- the newest remembered box is P -/
def HP (P : Bx) (u : S) : Prop := ∃ n o, 1 ≤ n ∧ n ≤ 8 ∧ o < 8 ∧ u.1 158 0 = nI n ∧ u.1 158 1 = nI o ∧ CR u (1 + (o + (n - 1)) % 8) P
def GP (P : Bx) : Prop := ∀ i, i < P.1 4 → P.2 i 5 = 1 → 1 ≤ rs P i
def RX (P : Bx) (u : S) : Prop := WF P ∧ CR u 0 P ∧ Z6 P ∧ HS u
/-- what is seen stays -/
def NX (u u' : S) : Prop := ∀ j, ¬ scrC j → u'.1 j = u.1 j
theorem NX.refl (u : S) : NX u u := fun _ _ => rfl
theorem NX.trans {u v x : S} (h1 : NX u v) (h2 : NX v x) : NX u x := fun j hj => (h2 j hj).trans (h1 j hj)
theorem NX.CR {P : Bx} {u u' : S} {b : Nat} (h : NX u u') (hb : b < 9) (hn : P.1 4 ≤ 12) (hC : CR u b P) : CR u' b P := CR_of hn hC (fun j hj => h j (by unfold inB at hj; unfold scrC; omega))
theorem NX.HS {u u' : S} (h : NX u u') (hH : HS u) : HS u' := by
  obtain ⟨n, o, h1, h2, h3, h4⟩ := hH
  have e := h 158 (by unfold scrC; omega)
  exact ⟨n, o, h1, h2, by rw [e]; exact h3, by rw [e]; exact h4⟩
theorem NX.HP {P : Bx} {u u' : S} (h : NX u u') (hn : P.1 4 ≤ 12) (hH : HP P u) : HP P u' := by
  obtain ⟨n, o, h0, h1, h2, h3, h4, h5⟩ := hH
  have e := h 158 (by unfold scrC; omega)
  exact ⟨n, o, h0, h1, h2, by rw [e]; exact h3, by rw [e]; exact h4, h.CR (by omega) hn h5⟩
theorem NX.RX {P : Bx} {u u' : S} (h : NX u u') (hR : RX P u) : RX P u' := ⟨hR.1, h.CR (by omega) hR.1.2.2.2.2.1 hR.2.1, hR.2.2.1, h.HS hR.2.2.2⟩
theorem c_record {P : Bx} {u : S} (h : RX P u) : ∃ u', fX2_record 0 u = some u' ∧ RX P u' ∧ HP P u' ∧ keptX u u' := by
  obtain ⟨hW, hC, hz, ⟨n, o, hn, ho, h0, h1⟩⟩ := h
  have hP4 := hW.2.2.2.2.1
  by_cases h8 : n = 8
  · subst h8
    obtain ⟨v, hv⟩ : ∃ v, v = up (up u 158 1 (nI ((o + 1) % 8))) 158 0 (nI 7) := ⟨_, rfl⟩
    have hvo : ∀ j, j ≠ 158 → v.1 j = u.1 j := fun j hj => by rw [hv]; simp only [up_ne _ _ _ _ hj]
    have hv0 : v.1 158 0 = nI 7 := by rw [hv]; simp [up]
    have hv1 : v.1 158 1 = nI ((o + 1) % 8) := by rw [hv]; simp [up]
    have hvC : CR v 0 P := CR_of hP4 hC (fun j hj => hvo j (by unfold inB at hj; omega))
    obtain ⟨x, hx, hxC, hxo, -⟩ := copyFrom_CR (a := 1 + o) (b := 0) (by omega) (by omega) (by omega) hW hvC
    have hx158 : x.1 158 = v.1 158 := hxo 158 (by unfold inB; omega)
    obtain ⟨x', hx'⟩ : ∃ x', x' = up x 158 0 (nI 8) := ⟨_, rfl⟩
    have hx'o : ∀ j, j ≠ 158 → x'.1 j = x.1 j := fun j hj => by rw [hx']; simp only [up_ne _ _ _ _ hj]
    have hrec : fX2_record 0 u = some x' := by
      simp only [fX2_record, h0, h1]
      rw [if_pos (by decide), show nI o + 1 = nI (o + 1) from nadd o 1, show (8 : Int32) = nI 8 from rfl, nmod (by omega) (by omega)]
      simp only [nm_k]
      have e1 : (up u 158 1 (nI ((o + 1) % 8))).1 158 0 = nI 8 := by simp [up, h0]
      rw [e1, show nI 8 - 1 = nI 7 from nsub (a := 8) (b := 1) (by omega), ← hv, hv0, hv1, nadd, nmod (by omega) (by omega), gd_t (inb_n (by omega) (by omega)), ncl (by omega), show ((o + 1) % 8 + 7) % 8 = o by omega, hx]
      show nm (up x 158 0 (x.1 158 0 + 1)) (fun u8 => some u8) = _
      rw [nm_k, hx158, hv0, show nI 7 + 1 = nI 8 from nadd 7 1, ← hx']
    have a0 : x'.1 158 0 = nI 8 := by rw [hx']; simp [up]
    have a1 : x'.1 158 1 = nI ((o + 1) % 8) := by
      rw [hx']
      simp only [up_at]
      rw [if_neg (by omega), hx158]
      exact hv1
    refine ⟨x', hrec, ⟨hW, ?_, hz, ⟨8, (o + 1) % 8, by omega, by omega, a0, a1⟩⟩, ⟨8, (o + 1) % 8, by omega, by omega, by omega, a0, a1, ?_⟩, ?_⟩
    · exact CR_of hP4 hvC (fun j hj => by rw [hx'o j (by unfold inB at hj; omega), hxo j (by unfold inB at hj ⊢; omega)])
    · rw [show 1 + ((o + 1) % 8 + (8 - 1)) % 8 = 1 + o by omega]
      exact CR_of hP4 hxC (fun j hj => hx'o j (by unfold inB at hj; omega))
    · intro j hj
      have h158 : j ≠ 158 := by unfold inB scrC at hj; omega
      rw [hx'o j h158, hxo j (by unfold inB scrC at hj; unfold inB; omega), hvo j h158]
  · obtain ⟨x, hx, hxC, hxo, -⟩ := copyFrom_CR (a := 1 + (o + n) % 8) (b := 0) (by omega) (by omega) (by omega) hW hC
    have hx158 : x.1 158 = u.1 158 := hxo 158 (by unfold inB; omega)
    obtain ⟨x', hx'⟩ : ∃ x', x' = up x 158 0 (nI (n + 1)) := ⟨_, rfl⟩
    have hx'o : ∀ j, j ≠ 158 → x'.1 j = x.1 j := fun j hj => by rw [hx']; simp only [up_ne _ _ _ _ hj]
    have hrec : fX2_record 0 u = some x' := by
      simp only [fX2_record, h0, h1]
      rw [show (8 : Int32) = nI 8 from rfl, if_neg (by rw [neq (by omega) (by omega)]; exact h8), nadd, nmod (by omega) (by omega), gd_t (inb_n (by omega) (by omega)), ncl (by omega), hx]
      show nm (up x 158 0 (x.1 158 0 + 1)) (fun u8 => some u8) = _
      rw [nm_k, hx158, h0, show nI n + 1 = nI (n + 1) from nadd n 1, ← hx']
    have a0 : x'.1 158 0 = nI (n + 1) := by rw [hx']; simp [up]
    have a1 : x'.1 158 1 = nI o := by
      rw [hx']
      simp only [up_at]
      rw [if_neg (by omega), hx158]
      exact h1
    refine ⟨x', hrec, ⟨hW, ?_, hz, ⟨n + 1, o, by omega, by omega, a0, a1⟩⟩, ⟨n + 1, o, by omega, by omega, by omega, a0, a1, ?_⟩, ?_⟩
    · exact CR_of hP4 hC (fun j hj => by rw [hx'o j (by unfold inB at hj; omega), hxo j (by unfold inB at hj ⊢; omega)])
    · rw [show n + 1 - 1 = n by omega]
      exact CR_of hP4 hxC (fun j hj => hx'o j (by unfold inB at hj; omega))
    · intro j hj
      have h158 : j ≠ 158 := by unfold inB scrC at hj; omega
      rw [hx'o j h158, hxo j (by unfold inB scrC at hj; unfold inB; omega)]
/-- what place(t, k) answers -/
def plV (P : Bx) (t k : Nat) : Int32 := match best P t with
  | none => -9
  | some d => if k = 0 then nI d.1 else if k = 1 then nI d.2.1 else if k = 2 then nI d.2.2.1 else nI (d.2.2.2.1 + tl P t)
theorem c_place {P : Bx} {u : S} (hW : WF P) (hC : CR u 0 P) {t k : Nat} (ht : t < P.1 4) (hk : k ≤ 3) (h5 : P.2 t 5 = 0) : ∃ u', fX6_place (nI t) (nI k) u = some (plV P t k, u') ∧ NX u u' := by
  have hn := hW.2.2.2.2.1
  have ge : ∀ v : Option (Int32 × S), gd (inb (nI t) 12) v = v := fun v => gd_t (inb_n (by omega) (by omega))
  simp only [fX6_place]
  rw [has_n hn hC ht, Option.bind_some, if_neg (show ¬ (1 : Int32) = 0 by decide), show fX6_isWithin (nI k) 0 3 u = some 1 from isW1 (a := 0) (b := 3) u (by omega) hk (by omega), Option.bind_some, if_neg (show ¬ (1 : Int32) = 0 by decide)]
  simp only [ge, ncl (show t < 2147483648 by omega), (hC.2 t ht).1 5 (show 5 < 7 by omega)]
  have hC1 := tT_CR (g := 0) (F := tpF P) (show 0 < 11 by omega) hn hC
  obtain ⟨u', s1, s2⟩ := search1_eq (g := 0) hW (show 0 < 11 by omega) hC1 ht (fun k hk => tT_at hk)
  have hx1 : NX u u' := fun j hj => by
    unfold scrC at hj
    rw [s2.1 j (by omega), tT_ne (by omega)]
  have hC2 : CR u' 0 P := hx1.CR (by omega) hn hC
  rw [h5, if_pos nI_0, survey_eq hW hC (by omega), Option.bind_some, s1, Option.bind_some]
  refine ⟨u', ?_, hx1⟩
  obtain ⟨-, -, s3, s4⟩ := s2
  have htl := tl_le hW ht
  have w2 := hW.2.2.1
  unfold plV
  rcases hb : best P t with _ | d
  · rw [if_pos (s3 hb)]
  · obtain ⟨a1, a2, a3, a4, a5, ⟨z, z1, z2, z3⟩, a6, a7, a8, a9, a10⟩ := s4 d hb
    rw [z3, if_neg (by rw [show (0 : Int32) = nI 0 from rfl, neq (by omega) (by omega)]; omega), a6, a7, a8, a9, tall_eq hC2 ht, Option.bind_some, nadd]
    rcases (show k = 0 ∨ k = 1 ∨ k = 2 ∨ k = 3 by omega) with rfl | rfl | rfl | rfl
    · rw [if_pos (show nI 0 = 0 from rfl)]; rfl
    · rw [if_neg (show ¬ nI 1 = 0 by decide), if_pos (show nI 1 = 1 from rfl)]; rfl
    · rw [if_neg (show ¬ nI 2 = 0 by decide), if_neg (show ¬ nI 2 = 1 by decide), if_pos (show nI 2 = 2 from rfl)]
      rcases (show d.2.2.1 = 0 ∨ d.2.2.1 = 1 by omega) with q | q
      · simp only [q]; rw [if_pos (show nI 0 = 0 from rfl)]; rfl
      · simp only [q]; rw [if_neg (show ¬ nI 1 = 0 by decide)]; rfl
    · rw [if_neg (show ¬ nI 3 = 0 by decide), if_neg (show ¬ nI 3 = 1 by decide), if_neg (show ¬ nI 3 = 2 by decide)]; rfl
theorem c_places {P : Bx} {u : S} (hW : WF P) (hC : CR u 0 P) {t : Nat} (ht : t < P.1 4) (h5 : P.2 t 5 = 0) : ∃ u', fX6_places (nI t) u = some (nI (cnt P t), u') ∧ NX u u' := by
  have hn := hW.2.2.2.2.1
  have ge : ∀ v : Option (Int32 × S), gd (inb (nI t) 12) v = v := fun v => gd_t (inb_n (by omega) (by omega))
  simp only [fX6_places]
  rw [has_n hn hC ht, Option.bind_some, if_neg (show ¬ (1 : Int32) = 0 by decide)]
  simp only [ge, ncl (show t < 2147483648 by omega), (hC.2 t ht).1 5 (show 5 < 7 by omega)]
  have hC1 := tT_CR (g := 0) (F := tpF P) (show 0 < 11 by omega) hn hC
  obtain ⟨u', s1, s2⟩ := search0_eq (g := 0) hW (show 0 < 11 by omega) hC1 ht (fun k hk => tT_at hk)
  rw [h5, if_pos nI_0, survey_eq hW hC (by omega), Option.bind_some, s1, Option.bind_some, s2.2.2]
  exact ⟨u', rfl, fun j hj => by
    unfold scrC at hj
    rw [s2.1 j (by omega), tT_ne (by omega)]⟩
theorem c_placeIn {P : Bx} {u : S} (hW : WF P) (hC : CR u 0 P) {t : Nat} (ht : t < P.1 4) (h5 : P.2 t 5 = 1) : fX6_place (nI t) 0 u = some (-2, u) ∧ fX6_places (nI t) u = some (-2, u) := by
  have hn := hW.2.2.2.2.1
  have ge : ∀ v : Option (Int32 × S), gd (inb (nI t) 12) v = v := fun v => gd_t (inb_n (by omega) (by omega))
  simp only [fX6_place, fX6_places]
  rw [has_n hn hC ht, Option.bind_some, Option.bind_some, if_neg (show ¬ (1 : Int32) = 0 by decide), if_neg (show ¬ (1 : Int32) = 0 by decide), show fX6_isWithin 0 0 3 u = some 1 from isW1 (x := 0) (a := 0) (b := 3) u (by omega) (by omega) (by omega), Option.bind_some, if_neg (show ¬ (1 : Int32) = 0 by decide)]
  simp only [ge, ncl (show t < 2147483648 by omega), (hC.2 t ht).1 5 (show 5 < 7 by omega)]
  rw [h5, if_neg (show ¬ nI 1 = 0 by decide), if_neg (show ¬ nI 1 = 0 by decide)]
  exact ⟨rfl, rfl⟩
