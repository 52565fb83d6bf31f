/-! the next order -/
def pvt (o : Nat → Nat) : Nat → Option Nat
  | 0 => none
  | m + 1 => if o m ≤ o (m + 1) then some m else pvt o m
def scn (o : Nat → Nat) (p : Nat) : Nat → Nat
  | 0 => 0
  | m + 1 => if m + 1 ≤ p then m + 1 else if o p ≤ o (m + 1) then m + 1 else scn o p m
def swp (o : Nat → Nat) (a b : Nat) : Nat → Nat := fun k => if k = b then o a else if k = a then o b else o k
def rvs (o : Nat → Nat) (a b : Nat) : Nat → Nat := fun k => if a ≤ k ∧ k ≤ b then o (a + b - k) else o k
def nxt (o : Nat → Nat) (n : Nat) : Option (Nat × (Nat → Nat)) := match pvt o (n - 1) with
  | none => none
  | some p => some (p, rvs (swp o p (scn o p (n - 1))) (p + 1) (n - 1))
theorem pvt_lt {o : Nat → Nat} {p : Nat} : ∀ {m : Nat}, pvt o m = some p → p < m := by
  intro m
  induction m with
  | zero => intro h; cases h
  | succ m ih =>
    intro h
    rw [pvt] at h
    split at h
    · cases h; omega
    · have := ih h; omega
theorem scn_le {o : Nat → Nat} {p : Nat} : ∀ {m : Nat}, p ≤ m → p ≤ scn o p m ∧ scn o p m ≤ m := by
  intro m
  induction m with
  | zero => intro h; exact ⟨h, Nat.le_refl 0⟩
  | succ m ih =>
    intro h
    rw [scn]
    split
    · omega
    · split
      · omega
      · have := ih (by omega)
        omega
theorem Pm_pi {o : Nat → Nat} {n : Nat} (f : Nat → Nat) (h : Pm o n) (h1 : ∀ k, k < n → f k < n) (h2 : ∀ k, k < n → f (f k) = k) : Pm (fun k => o (f k)) n := by
  refine ⟨fun k hk => h.1 _ (h1 k hk), fun k l hk hl he => ?_, fun i hi => ?_⟩
  · have := h.2.1 _ _ (h1 k hk) (h1 l hl) he
    rw [← h2 k hk, ← h2 l hl, this]
  · obtain ⟨k, hk, e⟩ := h.2.2 i hi
    exact ⟨f k, h1 k hk, by show o (f (f k)) = i; rw [h2 k hk, e]⟩
theorem swp_Pm {o : Nat → Nat} {n a b : Nat} (h : Pm o n) (ha : a < n) (hb : b < n) : Pm (swp o a b) n := by
  have e : swp o a b = fun k => o ((fun k => if k = b then a else if k = a then b else k) k) := by
    funext k
    simp only [swp]
    split
    · rfl
    · split <;> rfl
  rw [e]
  refine Pm_pi (fun k => if k = b then a else if k = a then b else k) h (fun k hk => ?_) (fun k hk => ?_)
  · skip
    split
    · exact ha
    · split
      · exact hb
      · exact hk
  · skip
    by_cases h1 : k = b
    · rw [if_pos h1]
      by_cases h2 : a = b
      · rw [if_pos h2]; omega
      · rw [if_neg h2, if_pos rfl]; omega
    · rw [if_neg h1]
      by_cases h2 : k = a
      · rw [if_pos h2, if_pos rfl]; omega
      · rw [if_neg h2, if_neg h1, if_neg h2]
theorem rvs_Pm {o : Nat → Nat} {n a b : Nat} (h : Pm o n) (hb : b < n) : Pm (rvs o a b) n := by
  have e : rvs o a b = fun k => o ((fun k => if a ≤ k ∧ k ≤ b then a + b - k else k) k) := by
    funext k
    simp only [rvs]
    split <;> rfl
  rw [e]
  refine Pm_pi (fun k => if a ≤ k ∧ k ≤ b then a + b - k else k) h (fun k hk => ?_) (fun k hk => ?_)
  · skip
    split <;> omega
  · skip
    by_cases h1 : a ≤ k ∧ k ≤ b
    · rw [if_pos h1, if_pos (by omega)]; omega
    · rw [if_neg h1, if_neg h1]
theorem nxt_ok {o o' : Nat → Nat} {n p : Nat} (h : Pm o n) (hx : nxt o n = some (p, o')) : p < n ∧ Pm o' n ∧ ∀ k, k < p → o' k = o k := by
  unfold nxt at hx
  split at hx
  · cases hx
  · rename_i q hq
    have h1 := pvt_lt hq
    have h2 := scn_le (o := o) (p := q) (m := n - 1) (by omega)
    cases hx
    refine ⟨by omega, rvs_Pm (swp_Pm h (by omega) (by omega)) (by omega), fun k hk => ?_⟩
    simp only [rvs, swp]
    rw [if_neg (by omega), if_neg (by omega), if_neg (by omega)]
def stopsIn : Nat → (Nat → Nat) → Nat → Bool
  | 0, _, _ => false
  | r + 1, o, n => match nxt o n with
    | none => true
    | some q => stopsIn r q.2 n
def idO : Nat → Nat := fun k => k
theorem pv_run {o : Nat → Nat} {n : Nat} {step : Int32 → Option (Int32 ⊕ Int32)} (hneg : ∀ v, v < 0 → step v = some (.inl v)) (hs : ∀ m, m + 1 < n → step (nI m) = some (if o m ≤ o (m + 1) then .inl (nI m) else .inr (nI m + (-1)))) : ∀ m F, m < F → m < n → lp step F (nI m + (-1)) = some (match pvt o m with | none => -1 | some p => nI p) := by
  intro m
  induction m with
  | zero =>
    intro F hF _
    obtain ⟨F, rfl⟩ : ∃ F', F = F' + 1 := ⟨F - 1, by omega⟩
    exact lp_l (hneg _ (by decide))
  | succ m ih =>
    intro F hF hm
    obtain ⟨F, rfl⟩ : ∃ F', F = F' + 1 := ⟨F - 1, by omega⟩
    have h1 := hs m hm
    rw [npred, pvt]
    by_cases hb : o m ≤ o (m + 1)
    · rw [if_pos hb] at h1 ⊢
      exact lp_l h1
    · rw [if_neg hb] at h1 ⊢
      rw [lp_r h1]
      exact ih F (by omega) (by omega)
theorem scn_run {o : Nat → Nat} {n p : Nat} {step : Int32 → Option (Int32 ⊕ Int32)} (hs : ∀ m, p ≤ m → m < n → step (nI m) = some (if m ≤ p ∨ o p ≤ o m then .inl (nI m) else .inr (nI m + (-1)))) : ∀ m F, m < F → p ≤ m → m < n → lp step F (nI m) = some (nI (scn o p m)) := by
  intro m
  induction m with
  | zero =>
    intro F hF hp hm
    obtain ⟨F, rfl⟩ : ∃ F', F = F' + 1 := ⟨F - 1, by omega⟩
    have h1 := hs 0 hp hm
    rw [if_pos (Or.inl (by omega))] at h1
    exact lp_l h1
  | succ m ih =>
    intro F hF hp hm
    obtain ⟨F, rfl⟩ : ∃ F', F = F' + 1 := ⟨F - 1, by omega⟩
    have h1 := hs (m + 1) hp hm
    rw [scn]
    by_cases ha : m + 1 ≤ p
    · rw [if_pos (Or.inl ha)] at h1
      rw [if_pos ha]
      exact lp_l h1
    · by_cases hb : o p ≤ o (m + 1)
      · rw [if_pos (Or.inr hb)] at h1
        rw [if_neg ha, if_pos hb]
        exact lp_l h1
      · rw [if_neg (fun q => q.elim ha hb)] at h1
        rw [if_neg ha, if_neg hb, lp_r h1, npred]
        exact ih F (by omega) (by omega) (by omega)
/-- an array holds an order -/
def HoldsO (u : S) (c n : Nat) (o : Nat → Nat) : Prop := ∀ k, k < n → u.1 c k = nI (o k)
def sw2 (u : S) (c a b : Nat) : S := up (up u c a (u.1 c b)) c b (u.1 c a)
theorem sw2_ne {u : S} {c a b j : Nat} (h : j ≠ c) : (sw2 u c a b).1 j = u.1 j := by
  unfold sw2
  rw [up_ne _ _ _ _ h, up_ne _ _ _ _ h]
theorem sw2_o {u : S} {c n a b : Nat} {o : Nat → Nat} (h : HoldsO u c n o) (ha : a < n) (hb : b < n) : HoldsO (sw2 u c a b) c n (swp o a b) := by
  intro k hk
  unfold sw2 swp
  rw [up_at, up_at]
  by_cases h1 : k = b
  · rw [if_pos ⟨rfl, h1⟩, if_pos h1]
    exact h a ha
  · rw [if_neg (fun q => h1 q.2), if_neg h1]
    by_cases h2 : k = a
    · rw [if_pos ⟨rfl, h2⟩, if_pos h2]
      exact h b hb
    · rw [if_neg (fun q => h2 q.2), if_neg h2]
      exact h k hk
theorem swap_x {u : S} {a b : Nat} (ha : a < 12) (hb : b < 12) : fX3_swap (nI a) (nI b) u = some (sw2 u 165 a b) := by
  simp only [fX3_swap, nm_k]
  rw [gd_t (inb_n (by omega) (by omega)), gd_t (inb_n (by omega) (by omega)), gd_t (inb_n (by omega) (by omega)), gd_t (inb_n (by omega) (by omega)), ncl (by omega), ncl (by omega)]
  rfl
theorem swap_m {w : S} {a b : Nat} (ha : a < 12) (hb : b < 12) : fX7_swaps (nI a) (nI b) w = some (sw2 w 4 a b) := by
  simp only [fX7_swaps, nm_k]
  rw [gd_t (inb_n (by omega) (by omega)), gd_t (inb_n (by omega) (by omega)), gd_t (inb_n (by omega) (by omega)), gd_t (inb_n (by omega) (by omega)), ncl (by omega), ncl (by omega)]
  rfl
def rvI (o : Nat → Nat) (a b i : Nat) : Nat → Nat := fun k => if a ≤ k ∧ k ≤ b ∧ (k < a + i ∨ b < k + i) then o (a + b - k) else o k
theorem rvI_step {o : Nat → Nat} {a b i : Nat} (h : a + i < b - i) (hb : i ≤ b) : swp (rvI o a b i) (a + i) (b - i) = rvI o a b (i + 1) := by
  funext k
  simp only [swp, rvI]
  by_cases h1 : k = b - i
  · rw [if_pos h1, if_neg (by omega), if_pos (by omega), show a + b - k = a + i by omega]
  · rw [if_neg h1]
    by_cases h2 : k = a + i
    · rw [if_pos h2, if_neg (by omega), if_pos (by omega), show a + b - k = b - i by omega]
    · rw [if_neg h2]
      by_cases h3 : a ≤ k ∧ k ≤ b ∧ (k < a + i ∨ b < k + i)
      · rw [if_pos h3, if_pos (by omega)]
      · rw [if_neg h3, if_neg (by omega)]
theorem rvI_end {o : Nat → Nat} {a b i : Nat} (h : b - i ≤ a + i) (hab : a ≤ b) : rvI o a b i = rvs o a b := by
  funext k
  simp only [rvI, rvs]
  by_cases h1 : a ≤ k ∧ k ≤ b
  · rw [if_pos h1]
    by_cases h2 : k < a + i ∨ b < k + i
    · rw [if_pos (by omega)]
    · rw [if_neg (by omega), show a + b - k = k by omega]
  · rw [if_neg h1, if_neg (by omega)]
theorem rvI_0 {o : Nat → Nat} {a b : Nat} : rvI o a b 0 = o := by
  funext k
  simp only [rvI]
  rw [if_neg (by omega)]
theorem rev_x {u : S} {n a b : Nat} {o : Nat → Nat} (hn : n ≤ 12) (h : HoldsO u 165 n o) (hab : a ≤ b) (hb : b < n) : ∃ x y u', lp (gX3_stepToNextOrder_101) FU (nI a, nI b, u) = some (x, y, u') ∧ HoldsO u' 165 n (rvs o a b) ∧ (∀ j, j ≠ 165 → u'.1 j = u.1 j) ∧ u'.2 = u.2 := by
  obtain ⟨e, h1, x, y, u', rfl, h2, h3, h4⟩ := lp_go (step := gX3_stepToNextOrder_101) (a := (nI a, nI b, u)) (fun i st => ∃ u', st = (nI (a + i), nI (b - i), u') ∧ HoldsO u' 165 n (rvI o a b i) ∧ (∀ j, j ≠ 165 → u'.1 j = u.1 j) ∧ u'.2 = u.2) (fun st => ∃ x y u', st = (x, y, u') ∧ HoldsO u' 165 n (rvs o a b) ∧ (∀ j, j ≠ 165 → u'.1 j = u.1 j) ∧ u'.2 = u.2) ((b + 1 - a) / 2) ⟨u, rfl, by rw [rvI_0]; exact h, fun _ _ => rfl, rfl⟩ (by omega)
    (fun i st hi ⟨u', e, k1, k2, k3⟩ => by
      subst e
      left
      simp only [gX3_stepToNextOrder_101]
      rw [if_neg (by rw [nle (by omega) (by omega)]; omega), swap_x (by omega) (by omega), Option.bind_some, show nI (a + i) + 1 = nI (a + (i + 1)) from nadd _ 1, show nI (b - i) + (-1) = nI (b - (i + 1)) by rw [show b - i = (b - (i + 1)) + 1 by omega, npred]]
      exact ⟨_, rfl, _, rfl, by rw [← rvI_step (by omega) (by omega)]; exact sw2_o k1 (by omega) (by omega), fun j hj => by rw [sw2_ne hj, k2 j hj], k3⟩)
    (fun st ⟨u', e, k1, k2, k3⟩ => by
      subst e
      simp only [gX3_stepToNextOrder_101]
      rw [if_pos (by rw [nle (by omega) (by omega)]; omega)]
      exact ⟨_, rfl, _, _, u', rfl, by rw [← rvI_end (i := (b + 1 - a) / 2) (by omega) hab]; exact k1, k2, k3⟩)
  exact ⟨x, y, u', h1, h2, h3, h4⟩
theorem rev_m {u : S} {n a b : Nat} {o : Nat → Nat} (hn : n ≤ 12) (h : HoldsO u 4 n o) (hab : a ≤ b) (hb : b < n) : ∃ x y u', lp (gX7_ordersNext_86) FU (nI b, nI a, u) = some (x, y, u') ∧ HoldsO u' 4 n (rvs o a b) ∧ (∀ j, j ≠ 4 → u'.1 j = u.1 j) ∧ u'.2 = u.2 := by
  obtain ⟨e, h1, x, y, u', rfl, h2, h3, h4⟩ := lp_go (step := gX7_ordersNext_86) (a := (nI b, nI a, u)) (fun i st => ∃ u', st = (nI (b - i), nI (a + i), u') ∧ HoldsO u' 4 n (rvI o a b i) ∧ (∀ j, j ≠ 4 → u'.1 j = u.1 j) ∧ u'.2 = u.2) (fun st => ∃ x y u', st = (x, y, u') ∧ HoldsO u' 4 n (rvs o a b) ∧ (∀ j, j ≠ 4 → u'.1 j = u.1 j) ∧ u'.2 = u.2) ((b + 1 - a) / 2) ⟨u, rfl, by rw [rvI_0]; exact h, fun _ _ => rfl, rfl⟩ (by omega)
    (fun i st hi ⟨u', e, k1, k2, k3⟩ => by
      subst e
      left
      simp only [gX7_ordersNext_86]
      rw [if_neg (by rw [nle (by omega) (by omega)]; omega), swap_m (by omega) (by omega), Option.bind_some, show nI (a + i) + 1 = nI (a + (i + 1)) from nadd _ 1, show nI (b - i) + (-1) = nI (b - (i + 1)) by rw [show b - i = (b - (i + 1)) + 1 by omega, npred]]
      exact ⟨_, rfl, _, rfl, by rw [← rvI_step (by omega) (by omega)]; exact sw2_o k1 (by omega) (by omega), fun j hj => by rw [sw2_ne hj, k2 j hj], k3⟩)
    (fun st ⟨u', e, k1, k2, k3⟩ => by
      subst e
      simp only [gX7_ordersNext_86]
      rw [if_pos (by rw [nle (by omega) (by omega)]; omega)]
      exact ⟨_, rfl, _, _, u', rfl, by rw [← rvI_end (i := (b + 1 - a) / 2) (by omega) hab]; exact k1, k2, k3⟩)
  exact ⟨x, y, u', h1, h2, h3, h4⟩
theorem two_sub {n : Nat} (h : 1 ≤ n) : nI n - 2 = nI (n - 1) + (-1) := by
  obtain ⟨m, rfl⟩ : ∃ m, n = m + 1 := ⟨n - 1, by omega⟩
  rw [show m + 1 - 1 = m from rfl, show nI (m + 1) = nI m + nI 1 from (nadd m 1).symm, Int32.sub_eq_add_neg, Int32.add_assoc]
  congr 1
theorem step_x {u : S} {n : Nat} {o : Nat → Nat} (hn : n ≤ 12) (ho : ∀ k, k < n → o k < n) (h : HoldsO u 165 n o) (h4 : u.1 (132 + 9) 4 = nI n) : (nxt o n = none ∧ fX3_stepToNextOrder u = some (-9, u)) ∨ ∃ p o' u', nxt o n = some (p, o') ∧ fX3_stepToNextOrder u = some (nI p, u') ∧ HoldsO u' 165 n o' ∧ (∀ j, j ≠ 165 → u'.1 j = u.1 j) ∧ u'.2 = u.2 := by
  have hneg : ∀ v : Int32, v < 0 → gX3_stepToNextOrder_10 u v = some (.inl v) := fun v hv => by
    simp only [gX3_stepToNextOrder_10]
    rw [if_pos hv]
  by_cases h0 : n = 0
  · left
    subst h0
    refine ⟨rfl, ?_⟩
    have : lp (gX3_stepToNextOrder_10 u) FU (nI 0 - 2) = some (nI 0 - 2) := lp_l (F := 1999) (hneg _ (by decide))
    simp only [fX3_stepToNextOrder, h4, this, Option.bind_some]
    rw [if_neg (by decide)]
  · have hp := pv_run (o := o) (n := n) (step := gX3_stepToNextOrder_10 u) hneg (fun m hm => by
      have a1 := ho m (by omega)
      have a2 := ho (m + 1) hm
      simp only [gX3_stepToNextOrder_10]
      rw [if_neg (by rw [show (0 : Int32) = nI 0 from rfl, nlt (by omega) (by omega)]; omega), show nI m + 1 = nI (m + 1) from nadd m 1, gd_t (inb_n (by omega) (by omega)), gd_t (inb_n (by omega) (by omega)), ncl (by omega), ncl (by omega), show (163 + 2 : Nat) = 165 from rfl, h m (by omega), h (m + 1) hm]
      by_cases hb : o m ≤ o (m + 1)
      · rw [if_pos (by rw [nle (by omega) (by omega)]; exact hb), if_pos hb]
      · rw [if_neg (by rw [nle (by omega) (by omega)]; exact hb), if_neg hb]) (n - 1) FU (by unfold FU; omega) (by omega)
    rw [← two_sub (by omega)] at hp
    rcases hq : pvt o (n - 1) with _ | p
    · left
      rw [hq] at hp
      refine ⟨by unfold nxt; rw [hq], ?_⟩
      simp only [fX3_stepToNextOrder, h4, hp, Option.bind_some]
      rw [if_neg (by decide)]
    · right
      rw [hq] at hp
      have hpl := pvt_lt hq
      have hop := ho p (by omega)
      have hsc := scn_run (o := o) (n := n) (p := p) (step := gX3_stepToNextOrder_54 (nI p) u) (fun m hpm hm => by
        have a1 := ho m (by omega)
        simp only [gX3_stepToNextOrder_54]
        by_cases hmp : m ≤ p
        · rw [if_pos (by rw [nle (by omega) (by omega)]; exact hmp), if_pos (Or.inl hmp)]
        · rw [if_neg (by rw [nle (by omega) (by omega)]; exact hmp), gd_t (inb_n (by omega) (by omega)), gd_t (inb_n (by omega) (by omega)), ncl (by omega), ncl (by omega), show (163 + 2 : Nat) = 165 from rfl, h m hm, h p (by omega)]
          by_cases hb : o p ≤ o m
          · rw [if_pos (by rw [nle (by omega) (by omega)]; exact hb), if_pos (Or.inr hb)]
          · rw [if_neg (by rw [nle (by omega) (by omega)]; exact hb), if_neg (fun q => q.elim hmp hb)]) (n - 1) FU (by unfold FU; omega) (by omega) (by omega)
      have hsl := scn_le (o := o) (p := p) (m := n - 1) (by omega)
      have h4' : (sw2 u 165 p (scn o p (n - 1))).1 (132 + 9) 4 = nI n := by rw [sw2_ne (by omega)]; exact h4
      obtain ⟨x, y, u', r1, r2, r3, r4⟩ := rev_x (a := p + 1) (b := n - 1) hn (sw2_o h (show p < n by omega) (show scn o p (n - 1) < n by omega)) (by omega) (by omega)
      refine ⟨p, _, u', by unfold nxt; rw [hq], ?_, r2, fun j hj => by rw [r3 j hj, sw2_ne hj], by rw [r4]; rfl⟩
      simp only [fX3_stepToNextOrder, h4, hp, Option.bind_some]
      rw [if_pos (by rw [show (0 : Int32) = nI 0 from rfl, nle (by omega) (by omega)]; omega), show nI n - 1 = nI (n - 1) from nsub (b := 1) (by omega), hsc, Option.bind_some, swap_x (by omega) (by omega), Option.bind_some, h4', show nI n - 1 = nI (n - 1) from nsub (b := 1) (by omega), show nI p + 1 = nI (p + 1) from nadd p 1, r1, Option.bind_some]
theorem step_m {w : S} {n : Nat} {o : Nat → Nat} (hn : n ≤ 12) (ho : ∀ k, k < n → o k < n) (h : HoldsO w 4 n o) (h4 : ∀ w' : S, (∀ j, j ≠ 4 → w'.1 j = w.1 j) → fX7_trays w' = some (nI n)) : (nxt o n = none ∧ fX7_ordersNext w = some (0, w)) ∨ ∃ p o' w', nxt o n = some (p, o') ∧ fX7_ordersNext w = some (1, w') ∧ HoldsO w' 4 n o' ∧ (∀ j, j ≠ 4 → w'.1 j = w.1 j) ∧ w'.2 = w.2 := by
  have h4w := h4 w (fun _ _ => rfl)
  have hneg : ∀ v : Int32, v < 0 → gX7_ordersNext_7 w v = some (.inl v) := fun v hv => by
    simp only [gX7_ordersNext_7]
    rw [if_pos hv]
  by_cases h0 : n = 0
  · left
    subst h0
    refine ⟨rfl, ?_⟩
    have : lp (gX7_ordersNext_7 w) FU (nI 0 - 2) = some (nI 0 - 2) := lp_l (F := 1999) (hneg _ (by decide))
    simp only [fX7_ordersNext, h4w, this, Option.bind_some]
    rw [if_neg (by decide)]
  · have hp := pv_run (o := o) (n := n) (step := gX7_ordersNext_7 w) hneg (fun m hm => by
      have a1 := ho m (by omega)
      have a2 := ho (m + 1) hm
      simp only [gX7_ordersNext_7]
      rw [if_neg (by rw [show (0 : Int32) = nI 0 from rfl, nlt (by omega) (by omega)]; omega), show nI m + 1 = nI (m + 1) from nadd m 1, gd_t (inb_n (by omega) (by omega)), gd_t (inb_n (by omega) (by omega)), ncl (by omega), ncl (by omega), h m (by omega), h (m + 1) hm]
      by_cases hb : o m ≤ o (m + 1)
      · rw [if_pos (by rw [nle (by omega) (by omega)]; exact hb), if_pos hb]
      · rw [if_neg (by rw [nle (by omega) (by omega)]; exact hb), if_neg hb]) (n - 1) FU (by unfold FU; omega) (by omega)
    rw [← two_sub (by omega)] at hp
    rcases hq : pvt o (n - 1) with _ | p
    · left
      rw [hq] at hp
      refine ⟨by unfold nxt; rw [hq], ?_⟩
      simp only [fX7_ordersNext, h4w, hp, Option.bind_some]
      rw [if_neg (by decide)]
    · right
      rw [hq] at hp
      have hpl := pvt_lt hq
      have hop := ho p (by omega)
      have hsc := scn_run (o := o) (n := n) (p := p) (step := gX7_ordersNext_47 (nI p) w) (fun m hpm hm => by
        have a1 := ho m (by omega)
        simp only [gX7_ordersNext_47]
        rw [gd_t (inb_n (by omega) (by omega)), gd_t (inb_n (by omega) (by omega)), ncl (by omega), ncl (by omega), h m hm, h p (by omega)]
        by_cases hb : o p ≤ o m
        · rw [if_pos (by rw [nle (by omega) (by omega)]; exact hb), if_pos (Or.inr hb)]
        · have hmp : ¬ m ≤ p := fun q => by
            have : m = p := by omega
            subst this
            omega
          rw [if_neg (by rw [nle (by omega) (by omega)]; exact hb), if_neg (fun q => q.elim hmp hb)]) (n - 1) FU (by unfold FU; omega) (by omega) (by omega)
      have hsl := scn_le (o := o) (p := p) (m := n - 1) (by omega)
      have h4' := h4 (sw2 w 4 p (scn o p (n - 1))) (fun j hj => sw2_ne hj)
      obtain ⟨x, y, u', r1, r2, r3, r4⟩ := rev_m (a := p + 1) (b := n - 1) hn (sw2_o h (show p < n by omega) (show scn o p (n - 1) < n by omega)) (by omega) (by omega)
      refine ⟨p, _, u', by unfold nxt; rw [hq], ?_, r2, fun j hj => by rw [r3 j hj, sw2_ne hj], by rw [r4]; rfl⟩
      simp only [fX7_ordersNext, h4w, hp, Option.bind_some]
      rw [if_pos (by rw [show (0 : Int32) = nI 0 from rfl, nle (by omega) (by omega)]; omega), show nI n - 1 = nI (n - 1) from nsub (b := 1) (by omega), hsc, Option.bind_some, swap_m (by omega) (by omega), Option.bind_some, h4', Option.bind_some, show nI n - 1 = nI (n - 1) from nsub (b := 1) (by omega), show nI p + 1 = nI (p + 1) from nadd p 1, r1, Option.bind_some]
