def hbO (b : Nat) : Nat := if b = 0 then 1 else if b ≤ 8 then 3 + 14 * b else if b = 9 then 150 else 130
def adO (j : Nat) : Nat :=
  if j < 132 then hbO (j / 12) + 2 + j % 12 else if j < 143 then hbO (j - 132) else if j < 154 then hbO (j - 143) + 1
  else if j = 154 then 145 else if j = 155 then 166 else if j = 156 then 146 else if j = 157 then 167 else if j = 158 then 15 else if j = 159 then 16 else if j = 160 then 129 else if j = 161 then 144
  else if j = 162 then 147 else if j = 163 then 148 else if j = 164 then 149 else if j = 165 then 164 else if j = 166 then 165 else 0
set_option maxRecDepth 100000 in
theorem adO_inj : ∀ i, i < 168 → ∀ j, j < 168 → adO i = adO j → i = j := by decide +kernel
set_option maxRecDepth 100000 in
theorem adO_lt : ∀ i, i < 168 → adO i < 168 := by decide +kernel
theorem at_mem {D : va_G} {ws : va_W} {H : Heap} {x : Nat × va_E} (hP : va_P D vwCl ws H) (h : x ∈ ws) : va_at D vwCl x H := by
  obtain ⟨k, hk⟩ := List.getElem?_of_mem h
  exact hP k x hk
theorem at_eq {D : va_G} {a a' : Nat} {e e' : va_E} {H : Heap} (h : va_at D vwCl (a, e) H) (ha : a = a') (he : e = e') : va_at D vwCl (a', e') H := by subst ha; subst he; exact h
theorem at_row {D : va_G} {a a' n : Nat} {t : ClassId} {f g : Nat → Option Nat} {H : Heap} (h : va_at D vwCl (a, .inl (t, n, rfA f)) H) (ha : a = a') (he : ∀ j, j < n → f j = g j) : va_at D vwCl (a', .inl (t, n, rfA g)) H := by
  subst ha
  show H[a]? = some (vp_cell _ _)
  refine (show H[a]? = some (vp_cell _ _) from h).trans (congrArg some ?_)
  rw [vp_cell_q, vp_cell_q]
  exact arrV_congr (fun j hj => by rw [he j hj])
theorem box_in {y : Nat → ClassId} {B b : Nat} (hb : b < 11) {x : Nat × va_E} (hx : x ∈ wBox y (B + hbO b)) : x ∈ wMain y B := by
  have hs : b = 0 ∨ (1 ≤ b ∧ b ≤ 8) ∨ b = 9 ∨ b = 10 := by omega
  unfold wMain
  apply List.mem_cons_of_mem
  rcases hs with rfl | ⟨h1, h8⟩ | rfl | rfl
  · exact List.mem_append_left _ (List.mem_append_left _ (List.mem_append_left _ (List.mem_append_left _ hx)))
  · refine List.mem_append_left _ (List.mem_append_left _ (List.mem_append_left _ (List.mem_append_right _ ?_)))
    unfold wHist
    refine List.mem_cons_of_mem _ (List.mem_cons_of_mem _ ?_)
    unfold wBoxes
    refine List.mem_flatMap.mpr ⟨b - 1, List.mem_range.mpr (by omega), ?_⟩
    have he : B + hbO b = B + 15 + 2 + 14 * (b - 1) := by
      simp only [hbO]
      rw [if_neg (by omega), if_pos h8]
      omega
    rw [← he]
    exact hx
  · refine List.mem_append_right _ ?_
    unfold wPack
    refine List.mem_cons_of_mem _ (List.mem_append_left _ (List.mem_append_left _ (List.mem_append_left _ (List.mem_append_right _ ?_))))
    exact hx
  · refine List.mem_append_left _ (List.mem_append_left _ (List.mem_append_right _ ?_))
    unfold wText
    refine List.mem_cons_of_mem _ (List.mem_append_left _ ?_)
    exact hx
set_option maxRecDepth 100000 in
theorem world_X {D : va_G} {y : Nat → ClassId} {B : Nat} {H : Heap} (hP : va_P D vwCl (wMain y B) H) : va_P D vwCl (wx y (fun j => B + adO j) LX 168 u0) H := by
  intro k x hx
  obtain ⟨hk, rfl⟩ := wx_get hx
  have hs : k < 132 ∨ (∃ b, b < 11 ∧ k = 132 + b) ∨ (∃ b, b < 11 ∧ k = 143 + b) ∨ (154 ≤ k ∧ k < 168) := by
    by_cases h1 : k < 132
    · exact Or.inl h1
    · by_cases h2 : k < 143
      · exact Or.inr (Or.inl ⟨k - 132, by omega, by omega⟩)
      · by_cases h3 : k < 154
        · exact Or.inr (Or.inr (Or.inl ⟨k - 143, by omega, by omega⟩))
        · exact Or.inr (Or.inr (Or.inr ⟨by omega, hk⟩))
  rcases hs with h | ⟨b, hb, rfl⟩ | ⟨b, hb, rfl⟩ | ⟨h1, h2⟩
  · have hm := at_mem hP (box_in (b := k / 12) (by omega) (show (B + hbO (k / 12) + 2 + k % 12, .inr (5, zT)) ∈ wBox y (B + hbO (k / 12)) from List.mem_cons_of_mem _ (List.mem_cons_of_mem _ (List.mem_map.mpr ⟨k % 12, List.mem_range.mpr (Nat.mod_lt _ (by omega)), rfl⟩))))
    refine at_eq hm (by simp only [adO]; rw [if_pos h]; omega) ?_
    have hz : ∀ a, xv (fun j => B + adO j) u0 k a 0 = .int 0 := fun a => by
      simp only [xv, u0]
      rw [if_neg (by omega)]
    simp only [xc, ly_T h, hz]
    rfl
  · have hm := at_mem hP (box_in hb (show ((B + hbO b, .inr (0, [.int 6, .int 6, .int 12, .int 50, .int 0, .ref (B + hbO b + 1)])) : Nat × va_E) ∈ wBox y (B + hbO b) from List.mem_cons_self))
    refine at_eq hm (by simp only [adO]; rw [if_neg (by omega), if_pos (by omega), Nat.add_sub_cancel_left]) ?_
    have hz : ∀ a, u0.1 (132 + b) a = (if a = 0 then 6 else if a = 1 then 6 else if a = 2 then 12 else if a = 3 then 50 else 0) := fun a => by
      simp only [u0]
      rw [if_pos (by omega)]
    have hr : B + adO (143 + b) = B + hbO b + 1 := by
      simp only [adO]
      rw [if_neg (by omega), if_neg (by omega), if_pos (by omega), Nat.add_sub_cancel_left]
      omega
    simp only [xc, ly_B hb]
    rw [if_neg (by omega), if_neg (by omega), if_neg (by omega), if_neg (by omega)]
    have h6 : (List.range 6).map (fun k => xv (fun j => B + adO j) u0 (132 + b) k (if k = 5 then 143 + b + 2 else 0)) = [xv (fun j => B + adO j) u0 (132 + b) 0 0, xv (fun j => B + adO j) u0 (132 + b) 1 0, xv (fun j => B + adO j) u0 (132 + b) 2 0, xv (fun j => B + adO j) u0 (132 + b) 3 0, xv (fun j => B + adO j) u0 (132 + b) 4 0, xv (fun j => B + adO j) u0 (132 + b) 5 (143 + b + 2)] := rfl
    rw [h6]
    simp only [xv, hz, hr]
    rfl
  · have hm := at_mem hP (box_in hb (show ((B + hbO b + 1, .inl (y 3, 12, rfA (fun i => some (B + hbO b + 2 + i)))) : Nat × va_E) ∈ wBox y (B + hbO b) from List.mem_cons_of_mem _ List.mem_cons_self))
    have hc : xc y (fun j => B + adO j) LX u0 (143 + b) = .inl (y 3, 12, rfA (fun i => some (B + adO (12 * b + i)))) := by simp [xc, ly_R hb]
    show va_at D vwCl (B + adO (143 + b), xc y (fun j => B + adO j) LX u0 (143 + b)) H
    rw [hc]
    refine at_row hm (by simp only [adO]; rw [if_neg (by omega), if_neg (by omega), if_pos (by omega), Nat.add_sub_cancel_left]; omega) (fun j hj => ?_)
    simp only [adO]
    rw [if_pos (by omega), show (12 * b + j) / 12 = b by omega, show (12 * b + j) % 12 = j by omega]
    congr 1
    omega
  · have hm : ∀ x, x ∈ wMain y B → va_at D vwCl x H := fun x h => at_mem hP h
    have hH : ∀ x, x ∈ wHist y (B + 15) → va_at D vwCl x H := fun x h => hm x (List.mem_cons_of_mem _ (List.mem_append_left _ (List.mem_append_left _ (List.mem_append_left _ (List.mem_append_right _ h)))))
    have hT : ∀ x, x ∈ wText y (B + 129) → va_at D vwCl x H := fun x h => hm x (List.mem_cons_of_mem _ (List.mem_append_left _ (List.mem_append_left _ (List.mem_append_right _ h))))
    have hF : ∀ x, x ∈ wFind y (B + 145) → va_at D vwCl x H := fun x h => hm x (List.mem_cons_of_mem _ (List.mem_append_left _ (List.mem_append_right _ h)))
    have hQ : ∀ x, x ∈ wPack y (B + 147) → va_at D vwCl x H := fun x h => hm x (List.mem_cons_of_mem _ (List.mem_append_right _ h))
    have hs : k = 154 ∨ k = 155 ∨ k = 156 ∨ k = 157 ∨ k = 158 ∨ k = 159 ∨ k = 160 ∨ k = 161 ∨ k = 162 ∨ k = 163 ∨ k = 164 ∨ k = 165 ∨ k = 166 ∨ k = 167 := by omega
    rcases hs with rfl | rfl | rfl | rfl | rfl | rfl | rfl | rfl | rfl | rfl | rfl | rfl | rfl | rfl
    · exact hF _ List.mem_cons_self
    · exact hQ _ (List.mem_cons_of_mem _ (List.mem_append_right _ List.mem_cons_self))
    · exact hF _ (List.mem_cons_of_mem _ List.mem_cons_self)
    · exact hQ _ (List.mem_cons_of_mem _ (List.mem_append_right _ (List.mem_cons_of_mem _ List.mem_cons_self)))
    · exact hH _ List.mem_cons_self
    · have h9 := hH _ (List.mem_cons_of_mem _ List.mem_cons_self)
      show va_at D vwCl (B + adO 159, .inl (y 2, 8, rfA (fun i => some (B + adO (132 + (1 + i)))))) H
      refine at_row h9 rfl (fun j hj => ?_)
      have : adO (132 + (1 + j)) = 3 + 14 * (1 + j) := by
        simp only [adO]
        rw [if_neg (by omega), if_pos (by omega), Nat.add_sub_cancel_left]
        simp only [hbO]
        rw [if_neg (by omega), if_pos (by omega)]
      rw [this]
      congr 1
      omega
    · exact hT _ List.mem_cons_self
    · exact hT _ (List.mem_cons_of_mem _ (List.mem_append_right _ List.mem_cons_self))
    · exact hQ _ List.mem_cons_self
    · exact hQ _ (List.mem_cons_of_mem _ (List.mem_append_left _ (List.mem_append_left _ (List.mem_append_left _ (List.mem_append_left _ (List.mem_append_left _ List.mem_cons_self))))))
    · exact hQ _ (List.mem_cons_of_mem _ (List.mem_append_left _ (List.mem_append_left _ (List.mem_append_left _ (List.mem_append_left _ (List.mem_append_right _ List.mem_cons_self))))))
    · exact hQ _ (List.mem_cons_of_mem _ (List.mem_append_left _ (List.mem_append_left _ (List.mem_append_right _ List.mem_cons_self))))
    · exact hQ _ (List.mem_cons_of_mem _ (List.mem_append_left _ (List.mem_append_right _ List.mem_cons_self)))
    · exact hm _ List.mem_cons_self
theorem gMain {y : Nat → ClassId} {h : Nat} : Ctg (wMain y h) h :=
  Ctg.cons rfl (Ctg.app (n := 146) (Ctg.app (n := 144) (Ctg.app (n := 128) (Ctg.app (n := 14) gBox lBox (by simpa [Nat.add_assoc] using gHist (y := y) (h := h + 15))) (by simp [lBox, wHist, lBoxes]) (by simpa [Nat.add_assoc] using gText (y := y) (h := h + 129))) (by simp [lBox, wHist, lBoxes, wText]) (by simpa [Nat.add_assoc] using gFind (y := y) (h := h + 145))) (by simp [lBox, wHist, lBoxes, wText, wFind]) (by simpa [Nat.add_assoc] using gPack (y := y) (h := h + 147)))
set_option maxRecDepth 100000 in
theorem wc_X6_init : Cond.code yX6_init cX6_init 1 none ∈ lwT := lwT_t (List.mem_of_getElem? (i := 15) (by decide +kernel)) rfl
set_option maxRecDepth 100000 in
theorem wi_X6_init : Cond.instanceMethod yX6_init ∈ lwT := lwT_t (List.mem_of_getElem? (i := 14) (by decide +kernel)) rfl
set_option maxRecDepth 100000 in
theorem wl_L_21 : Cond.classLink RL 21 RX6 ∈ lwT := lwT_t (List.mem_of_getElem? (i := 11) (by decide +kernel)) rfl
set_option maxRecDepth 100000 in
theorem wm_L_87 : Cond.methodLink RL 87 yX6_init ∈ lwT := lwT_t (List.mem_of_getElem? (i := 13) (by decide +kernel)) rfl
set_option maxRecDepth 100000 in
theorem wo_X6 : Cond.instantiable RX6 5 ∈ lwT := lwT_t (List.mem_of_getElem? (i := 12) (by decide +kernel)) rfl
theorem hdc_X6_init : yX6_init.cls ≠ "java/lang/invoke/MethodHandle" ∧ yX6_init.cls ≠ "java/lang/invoke/VarHandle" ∧ (parseMethodDescriptor yX6_init.desc).map (fun d => d.parameters.length) = some 0 := by decide +kernel
