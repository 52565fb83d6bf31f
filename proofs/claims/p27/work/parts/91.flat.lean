/-! boxes with all trays out: setBox, setShare, add, setTray's lid -/
def Fx (D : Nat → Nat) (T : Nat → Nat → Nat) (n : Nat) : Bx := (fun k => if k = 4 then n else D k, T)
def FO (D : Nat → Nat) (T : Nat → Nat → Nat) (n : Nat) : Prop := (2 ≤ D 0 ∧ D 0 ≤ 10) ∧ (2 ≤ D 1 ∧ D 1 ≤ 10) ∧ (1 ≤ D 2 ∧ D 2 ≤ 30) ∧ D 3 ≤ 100 ∧ n ≤ 12 ∧ (∀ i k, 5 ≤ k → T i k = 0) ∧ ∀ i, i < n → (1 ≤ T i 0 ∧ T i 0 ≤ 10) ∧ (1 ≤ T i 1 ∧ T i 1 ≤ 10) ∧ (1 ≤ T i 2 ∧ T i 2 ≤ 9) ∧ T i 3 ≤ 9 ∧ T i 4 ≤ 1
def CF (u : S) (D : Nat → Nat) (T : Nat → Nat → Nat) (n : Nat) : Prop := (∀ k, k < 5 → u.1 (132 + 0) k = nI (if k = 4 then n else D k)) ∧ ∀ i k, i < n → k < 7 → u.1 (12 * 0 + i) k = nI (T i k)
section C91
variable {D : Nat → Nat} {T : Nat → Nat → Nat} {n : Nat} {u : S}
theorem FO.wf (h : FO D T n) : WF (Fx D T n) := by
  obtain ⟨h0, h1, h2, h3, h4, h5, h6⟩ := h
  refine ⟨h0, h1, h2, h3, h4, fun i hi => ?_, fun i j hi hj _ g => ?_⟩
  · obtain ⟨a0, a1, a2, a3, a4⟩ := h6 i hi
    have e : ∀ k, 5 ≤ k → T i k = 0 := h5 i
    refine ⟨a0, a1, a2, a3, a4, ?_, ?_, ?_, fun g => ?_⟩
    · show T i 5 ≤ 1; rw [e 5 (by omega)]; omega
    · show T i 6 ≤ 1; rw [e 6 (by omega)]; omega
    · show T i 7 ≤ 10 ∧ T i 8 ≤ 10 ∧ T i 9 ≤ 30
      rw [e 7 (by omega), e 8 (by omega), e 9 (by omega)]; omega
    · have g : T i 5 = 1 := g
      rw [e 5 (by omega)] at g; omega
  · have g : T i 5 = 1 := g
    rw [h5 i 5 (by omega)] at g; omega
theorem FO.rx (h : FO D T n) (hC : CF u D T n) (hH : HS u) : RX (Fx D T n) u :=
  ⟨h.wf, ⟨hC.1, fun i hi => ⟨fun k hk => hC.2 i k hi hk, fun g => by
    have g : T i 5 = 1 := g
    rw [h.2.2.2.2.2.1 i 5 (by omega)] at g; omega⟩⟩, fun i _ _ => h.2.2.2.2.2.1 i 6 (by omega), hH⟩
theorem CF.of (h : RX (Fx D T n) u) : CF u D T n := ⟨h.2.1.1, fun i k hi hk => (h.2.1.2 i hi).1 k hk⟩
theorem CF.ne {u' : S} (hC : CF u D T n) (hn : n ≤ 12) (h : ∀ j, inB 0 j → u'.1 j = u.1 j) : CF u' D T n :=
  ⟨fun k hk => by rw [h _ (Or.inl rfl)]; exact hC.1 k hk, fun i k hi hk => by rw [h _ (Or.inr ⟨by omega, by omega⟩)]; exact hC.2 i k hi hk⟩
theorem f_setBox (hO : FO D T 0) (hR : RX (Fx D T 0) u) {x y z : Nat} (hx : 2 ≤ x ∧ x ≤ 10) (hy : 2 ≤ y ∧ y ≤ 10) (hz : 1 ≤ z ∧ z ≤ 30) :
    ∃ u', fX6_setBox (nI x) (nI y) (nI z) u = some (0, u') ∧ FO (fun k => if k = 0 then x else if k = 1 then y else if k = 2 then z else D k) T 0 ∧ RX (Fx (fun k => if k = 0 then x else if k = 1 then y else if k = 2 then z else D k) T 0) u' := by
  obtain ⟨m, i1, i2, i3, i4⟩ := inside_bc hR.1 hR.2.1
  obtain ⟨u1, h1, hR1, -, -⟩ := c_record hR
  have hC1 := CF.of hR1
  have e1 : fX0_clear 0 u1 = some (clX u1 0 0) := clear_eq (b := 0) (n := 0) (by omega) (by omega) (hC1.1 4 (by omega))
  have hcl : ∀ j, (clX u1 0 0).1 j = u1.1 j := fun j => by
    funext k
    simp only [clX]
    rw [if_neg (by omega)]
  have hO' : FO (fun k => if k = 0 then x else if k = 1 then y else if k = 2 then z else D k) T 0 := ⟨hx, hy, hz, hO.2.2.2.1, by omega, hO.2.2.2.2.2.1, fun i hi => absurd hi (by omega)⟩
  refine ⟨up (up (up (clX u1 0 0) (132 + 0) 0 (nI x)) (132 + 0) 1 (nI y)) (132 + 0) 2 (nI z), ?_, hO', hO'.rx ⟨fun k hk => ?_, fun i k hi _ => absurd hi (by omega)⟩ (HS.of (u := u1) (by
    rw [up_ne _ _ _ _ (by omega), up_ne _ _ _ _ (by omega), up_ne _ _ _ _ (by omega), hcl]) hR1.2.2.2)⟩
  · simp only [fX6_setBox]
    rw [show fX6_isWithin (nI x) 2 10 u = some 1 from isW1 (a := 2) (b := 10) u hx.1 hx.2 (by omega), Option.bind_some, if_neg (show ¬ (1 : Int32) = 0 by decide), show fX6_isWithin (nI y) 2 10 u = some 1 from isW1 (a := 2) (b := 10) u hy.1 hy.2 (by omega), Option.bind_some, if_neg (show ¬ (1 : Int32) = 0 by decide), show fX6_isWithin (nI z) 1 30 u = some 1 from isW1 (a := 1) (b := 30) u hz.1 hz.2 (by omega), Option.bind_some, if_neg (show ¬ (1 : Int32) = 0 by decide), i1, Option.bind_some, i4, Option.bind_some, h1, Option.bind_some, e1, Option.bind_some, nm_k, nm_k, nm_k]
    rfl
  · have h0 := hC1.1 k hk
    rw [← hcl] at h0
    simp only [up_at]
    rcases (show k = 0 ∨ k = 1 ∨ k = 2 ∨ k = 3 ∨ k = 4 by omega) with rfl | rfl | rfl | rfl | rfl
    · rfl
    · rfl
    · rfl
    · exact h0
    · exact h0
theorem f_setShare (hO : FO D T n) (hR : RX (Fx D T n) u) {x : Nat} (hx : x ≤ 100) :
    ∃ u', fX6_setShare (nI x) u = some (nI (D 3), u') ∧ FO (fun k => if k = 3 then x else D k) T n ∧ RX (Fx (fun k => if k = 3 then x else D k) T n) u' := by
  obtain ⟨u1, h1, hR1, -, -⟩ := c_record hR
  have hC1 := CF.of hR1
  have hn := hO.2.2.2.2.1
  have hO' : FO (fun k => if k = 3 then x else D k) T n := ⟨hO.1, hO.2.1, hO.2.2.1, hx, hn, hO.2.2.2.2.2⟩
  refine ⟨up u1 (132 + 0) 3 (nI x), ?_, hO', hO'.rx ⟨fun k hk => ?_, fun i k hi hk => ?_⟩ (HS.of (u := u1) (up_ne _ _ _ _ (by omega)) hR1.2.2.2)⟩
  · simp only [fX6_setShare]
    rw [show fX6_isWithin (nI x) 0 100 u = some 1 from isW1 (a := 0) (b := 100) u (by omega) hx (by omega), Option.bind_some, if_neg (show ¬ (1 : Int32) = 0 by decide), h1, Option.bind_some, nm_k, (CF.of hR).1 3 (by omega)]
    rfl
  · have h0 := hC1.1 k hk
    simp only [up_at]
    rcases (show k = 0 ∨ k = 1 ∨ k = 2 ∨ k = 3 ∨ k = 4 by omega) with rfl | rfl | rfl | rfl | rfl
    · exact h0
    · exact h0
    · exact h0
    · rfl
    · exact h0
  · rw [up_ne _ _ _ _ (by omega)]
    exact hC1.2 i k hi hk
theorem f_add (hO : FO D T n) (hR : RX (Fx D T n) u) (hn : n < 12) {T' : Nat → Nat → Nat} (hO' : FO D T' (n + 1)) (hT : ∀ i k, i < n → k < 7 → T' i k = T i k) (h4 : T' n 4 = 0) :
    ∃ u', fX6_add (nI (T' n 0)) (nI (T' n 1)) (nI (T' n 2)) (nI (T' n 3)) u = some (nI n, u') ∧ RX (Fx D T' (n + 1)) u' := by
  obtain ⟨u1, h1, hR1, -, -⟩ := c_record hR
  have hC1 := CF.of hR1
  have hC := CF.of hR
  obtain ⟨a0, a1, a2, a3, -⟩ := hO'.2.2.2.2.2.2 n (by omega)
  have z5 : T' n 5 = 0 := hO'.2.2.2.2.2.1 n 5 (by omega)
  have z6 : T' n 6 = 0 := hO'.2.2.2.2.2.1 n 6 (by omega)
  have e4 : u1.1 (132 + 0) 4 = nI n := hC1.1 4 (by omega)
  have c4 : u.1 (132 + 0) 4 = nI n := hC.1 4 (by omega)
  obtain ⟨v, hv⟩ : ∃ v, v = up (up (up (up (up (up (up (up u1 (12 * 0 + n) 0 (nI (T' n 0))) (12 * 0 + n) 1 (nI (T' n 1))) (12 * 0 + n) 2 (nI (T' n 2))) (12 * 0 + n) 3 (nI (T' n 3))) (12 * 0 + n) 4 0) (12 * 0 + n) 5 0) (12 * 0 + n) 6 0) (132 + 0) 4 (nI (n + 1)) := ⟨_, rfl⟩
  have hv4 : v.1 (132 + 0) 4 = nI (n + 1) := by rw [hv]; simp [up]
  refine ⟨v, ?_, hO'.rx ⟨fun k hk => ?_, fun i k hi hk => ?_⟩ (HS.of (u := u1) (by
    rw [hv, up_ne _ _ _ _ (by omega), up_ne _ _ _ _ (by omega), up_ne _ _ _ _ (by omega), up_ne _ _ _ _ (by omega), up_ne _ _ _ _ (by omega), up_ne _ _ _ _ (by omega), up_ne _ _ _ _ (by omega), up_ne _ _ _ _ (by omega)]) hR1.2.2.2)⟩
  · simp only [fX6_add]
    rw [show fX6_isWithin (nI (T' n 0)) 1 10 u = some 1 from isW1 (a := 1) (b := 10) u a0.1 a0.2 (by omega), Option.bind_some, if_neg (show ¬ (1 : Int32) = 0 by decide), show fX6_isWithin (nI (T' n 1)) 1 10 u = some 1 from isW1 (a := 1) (b := 10) u a1.1 a1.2 (by omega), Option.bind_some, if_neg (show ¬ (1 : Int32) = 0 by decide), show fX6_isWithin (nI (T' n 2)) 1 9 u = some 1 from isW1 (a := 1) (b := 9) u a2.1 a2.2 (by omega), Option.bind_some, if_neg (show ¬ (1 : Int32) = 0 by decide), show fX6_isWithin (nI (T' n 3)) 0 9 u = some 1 from isW1 (a := 0) (b := 9) u (by omega) a3 (by omega), Option.bind_some, if_neg (show ¬ (1 : Int32) = 0 by decide), c4, show (12 : Int32) = nI 12 from rfl, if_pos (by rw [nlt (by omega) (by omega)]; omega), h1, Option.bind_some, e4, gd_t (inb_n (by omega) (by omega)), ncl (by omega)]
    simp only [fX5_become, fX5_leave, nm_k, Option.bind_some]
    have e5 : (up (up (up (up (up (up (up u1 (12 * 0 + n) 0 (nI (T' n 0))) (12 * 0 + n) 1 (nI (T' n 1))) (12 * 0 + n) 2 (nI (T' n 2))) (12 * 0 + n) 3 (nI (T' n 3))) (12 * 0 + n) 4 0) (12 * 0 + n) 5 0) (12 * 0 + n) 6 0).1 (132 + 0) 4 = nI n := by
      rw [up_ne _ _ _ _ (by omega), up_ne _ _ _ _ (by omega), up_ne _ _ _ _ (by omega), up_ne _ _ _ _ (by omega), up_ne _ _ _ _ (by omega), up_ne _ _ _ _ (by omega), up_ne _ _ _ _ (by omega)]
      exact e4
    rw [e5, show nI n + 1 = nI (n + 1) from nadd n 1, ← hv, hv4, show nI (n + 1) - 1 = nI n from nsub (a := n + 1) (b := 1) (by omega)]
  · by_cases k4 : k = 4
    · subst k4
      exact hv4
    · rw [hv, up_at, if_neg (by omega), up_ne _ _ _ _ (by omega), up_ne _ _ _ _ (by omega), up_ne _ _ _ _ (by omega), up_ne _ _ _ _ (by omega), up_ne _ _ _ _ (by omega), up_ne _ _ _ _ (by omega), up_ne _ _ _ _ (by omega), if_neg k4]
      have := hC1.1 k hk
      rwa [if_neg k4] at this
  · rw [hv, up_ne _ _ _ _ (by omega)]
    by_cases hin : i = n
    · subst hin
      simp only [up_at]
      rcases (show k = 0 ∨ k = 1 ∨ k = 2 ∨ k = 3 ∨ k = 4 ∨ k = 5 ∨ k = 6 by omega) with rfl | rfl | rfl | rfl | rfl | rfl | rfl <;> simp [h4, z5, z6] <;> rfl
    · rw [up_ne _ _ _ _ (by omega), up_ne _ _ _ _ (by omega), up_ne _ _ _ _ (by omega), up_ne _ _ _ _ (by omega), up_ne _ _ _ _ (by omega), up_ne _ _ _ _ (by omega), up_ne _ _ _ _ (by omega), hT i k (by omega) hk]
      exact hC1.2 i k (by omega) hk
theorem f_setTray (hO : FO D T n) (hR : RX (Fx D T n) u) {t : Nat} (ht : t < n) {T' : Nat → Nat → Nat} (hO' : FO D T' n) (hT : ∀ i k, i < n → k < 7 → ¬ (i = t ∧ k = 4) → T' i k = T i k) :
    ∃ u', fX6_setTray (nI t) 1 (nI (T' t 4)) u = some (nI (T t 4), u') ∧ RX (Fx D T' n) u' := by
  obtain ⟨u1, h1, hR1, -, -⟩ := c_record hR
  have hC1 := CF.of hR1
  have hC := CF.of hR
  have hn := hO.2.2.2.2.1
  have z5 : T t 5 = 0 := hO.2.2.2.2.2.1 t 5 (by omega)
  have b4 := (hO'.2.2.2.2.2.2 t ht).2.2.2.2
  refine ⟨up u1 (12 * 0 + t) 4 (nI (T' t 4)), ?_, hO'.rx ⟨fun k hk => ?_, fun i k hi hk => ?_⟩ (HS.of (u := u1) (up_ne _ _ _ _ (by omega)) hR1.2.2.2)⟩
  · simp only [fX6_setTray]
    rw [has_n (P := Fx D T n) hn hR.2.1 ht, Option.bind_some, if_neg (show ¬ (1 : Int32) = 0 by decide), show fX6_isWithin 1 0 1 u = some 1 from isW1 (x := 1) (a := 0) (b := 1) u (by omega) (by omega) (by omega), Option.bind_some, if_neg (show ¬ (1 : Int32) = 0 by decide), if_neg (show ¬ (1 : Int32) = 0 by decide), show fX6_isWithin (nI (T' t 4)) 0 1 u = some 1 from isW1 (a := 0) (b := 1) u (by omega) b4 (by omega), Option.bind_some, if_neg (show ¬ (1 : Int32) = 0 by decide), gd_t (inb_n (by omega) (by omega)), ncl (by omega), if_pos trivial, hC.2 t 5 ht (by omega), z5, if_pos nI_0, h1, if_neg (show ¬ (1 : Int32) = 0 by decide), Option.bind_some, if_neg (show ¬ (1 : Int32) = 0 by decide), nm_k, hC.2 t 4 ht (by omega)]
  · rw [up_ne _ _ _ _ (by omega)]
    exact hC1.1 k hk
  · by_cases hz : i = t ∧ k = 4
    · obtain ⟨rfl, rfl⟩ := hz
      exact up_get _ _ _ _
    · rw [up_at, if_neg (by omega), hT i k hi hk hz]
      exact hC1.2 i k hi hk
end C91
