def hbO (b : Nat) : Nat := if b = 0 then 1 else if b ≤ 8 then 3 + 14 * b else if b = 9 then 150 else 130
def adO (j : Nat) : Nat :=
  if j < 132 then hbO (j / 12) + 2 + j % 12 else if j < 143 then hbO (j - 132) else if j < 154 then hbO (j - 143) + 1
  else if j = 154 then 145 else if j = 155 then 166 else if j = 156 then 146 else if j = 157 then 167 else if j = 158 then 15 else if j = 159 then 16 else if j = 160 then 129 else if j = 161 then 144
  else if j = 162 then 147 else if j = 163 then 148 else if j = 164 then 149 else if j = 165 then 164 else if j = 166 then 165 else 0
set_option maxRecDepth 100000 in
theorem adO_inj : ∀ i, i < 168 → ∀ j, j < 168 → adO i = adO j → i = j := by decide +kernel
set_option maxRecDepth 100000 in
theorem adO_lt : ∀ i, i < 168 → adO i < 168 := by decide +kernel
/-- the class's state at first -/
def u0 : S := (fun j k => if 132 ≤ j ∧ j < 143 then (if k = 0 then 6 else if k = 1 then 6 else if k = 2 then 12 else if k = 3 then 50 else 0) else 0, 0)
/-- the reference's state at first -/
def w0 : S := (fun j k => if j = 1 then pg0 k else 0, 0)
theorem at_mem {D : va_G} {ws : va_W} {H : Heap} {x : Nat × va_E} (hP : va_P D vwCl ws H) (h : x ∈ ws) : va_at D vwCl x H := by
  obtain ⟨k, hk⟩ := List.getElem?_of_mem h
  exact hP k x hk
theorem at_eq {D : va_G} {a a' : Nat} {e e' : va_E} {H : Heap} (h : va_at D vwCl (a, e) H) (ha : a = a') (he : e = e') : va_at D vwCl (a', e') H := by subst ha; subst he; exact h
theorem at_row {D : va_G} {a a' n : Nat} {t : ClassId} {f g : Nat → Option Nat} {H : Heap} (h : va_at D vwCl (a, .inl (t, n, rfA f)) H) (ha : a = a') (he : ∀ j, j < n → f j = g j) : va_at D vwCl (a', .inl (t, n, rfA g)) H := by
  subst ha
  show H[a]? = some (vp_cell _ _)
  refine (show H[a]? = some (vp_cell _ _) from h).trans (congrArg some ?_)
  rw [vp_cell_q, vp_cell_q]
  exact arrV_congr (fun j hj => by rw [he j hj])
theorem box_in {y : Nat → ClassId} {B b : Nat} (hb : b < 11) {x : Nat × va_E} (hx : x ∈ wBox y (B + hbO b)) : x ∈ wMain y B := by
  have hs : b = 0 ∨ (1 ≤ b ∧ b ≤ 8) ∨ b = 9 ∨ b = 10 := by omega
  unfold wMain
  apply List.mem_cons_of_mem
  rcases hs with rfl | ⟨h1, h8⟩ | rfl | rfl
  · exact List.mem_append_left _ (List.mem_append_left _ (List.mem_append_left _ (List.mem_append_left _ hx)))
  · refine List.mem_append_left _ (List.mem_append_left _ (List.mem_append_left _ (List.mem_append_right _ ?_)))
    unfold wHist
    refine List.mem_cons_of_mem _ (List.mem_cons_of_mem _ ?_)
    unfold wBoxes
    refine List.mem_flatMap.mpr ⟨b - 1, List.mem_range.mpr (by omega), ?_⟩
    have he : B + hbO b = B + 15 + 2 + 14 * (b - 1) := by
      simp only [hbO]
      rw [if_neg (by omega), if_pos h8]
      omega
    rw [← he]
    exact hx
  · refine List.mem_append_right _ ?_
    unfold wPack
    refine List.mem_cons_of_mem _ (List.mem_append_left _ (List.mem_append_left _ (List.mem_append_left _ (List.mem_append_right _ ?_))))
    exact hx
  · refine List.mem_append_left _ (List.mem_append_left _ (List.mem_append_right _ ?_))
    unfold wText
    refine List.mem_cons_of_mem _ (List.mem_append_left _ ?_)
    exact hx
set_option maxRecDepth 100000 in
theorem world_X {D : va_G} {y : Nat → ClassId} {B : Nat} {H : Heap} (hP : va_P D vwCl (wMain y B) H) : va_P D vwCl (wx y (fun j => B + adO j) LX 168 u0) H := by
  intro k x hx
  obtain ⟨hk, rfl⟩ := wx_get hx
  have hs : k < 132 ∨ (∃ b, b < 11 ∧ k = 132 + b) ∨ (∃ b, b < 11 ∧ k = 143 + b) ∨ (154 ≤ k ∧ k < 168) := by
    by_cases h1 : k < 132
    · exact Or.inl h1
    · by_cases h2 : k < 143
      · exact Or.inr (Or.inl ⟨k - 132, by omega, by omega⟩)
      · by_cases h3 : k < 154
        · exact Or.inr (Or.inr (Or.inl ⟨k - 143, by omega, by omega⟩))
        · exact Or.inr (Or.inr (Or.inr ⟨by omega, hk⟩))
  rcases hs with h | ⟨b, hb, rfl⟩ | ⟨b, hb, rfl⟩ | ⟨h1, h2⟩
  · have hm := at_mem hP (box_in (b := k / 12) (by omega) (show (B + hbO (k / 12) + 2 + k % 12, .inr (5, zT)) ∈ wBox y (B + hbO (k / 12)) from List.mem_cons_of_mem _ (List.mem_cons_of_mem _ (List.mem_map.mpr ⟨k % 12, List.mem_range.mpr (Nat.mod_lt _ (by omega)), rfl⟩))))
    refine at_eq hm (by simp only [adO]; rw [if_pos h]; omega) ?_
    have hz : ∀ a, xv (fun j => B + adO j) u0 k a 0 = .int 0 := fun a => by
      simp only [xv, u0]
      rw [if_neg (by omega)]
    simp only [xc, ly_T h, hz]
    rfl
  · have hm := at_mem hP (box_in hb (show ((B + hbO b, .inr (0, [.int 6, .int 6, .int 12, .int 50, .int 0, .ref (B + hbO b + 1)])) : Nat × va_E) ∈ wBox y (B + hbO b) from List.mem_cons_self))
    refine at_eq hm (by simp only [adO]; rw [if_neg (by omega), if_pos (by omega), Nat.add_sub_cancel_left]) ?_
    have hz : ∀ a, u0.1 (132 + b) a = (if a = 0 then 6 else if a = 1 then 6 else if a = 2 then 12 else if a = 3 then 50 else 0) := fun a => by
      simp only [u0]
      rw [if_pos (by omega)]
    have hr : B + adO (143 + b) = B + hbO b + 1 := by
      simp only [adO]
      rw [if_neg (by omega), if_neg (by omega), if_pos (by omega), Nat.add_sub_cancel_left]
      omega
    simp only [xc, ly_B hb]
    rw [if_neg (by omega), if_neg (by omega), if_neg (by omega), if_neg (by omega)]
    have h6 : (List.range 6).map (fun k => xv (fun j => B + adO j) u0 (132 + b) k (if k = 5 then 143 + b + 2 else 0)) = [xv (fun j => B + adO j) u0 (132 + b) 0 0, xv (fun j => B + adO j) u0 (132 + b) 1 0, xv (fun j => B + adO j) u0 (132 + b) 2 0, xv (fun j => B + adO j) u0 (132 + b) 3 0, xv (fun j => B + adO j) u0 (132 + b) 4 0, xv (fun j => B + adO j) u0 (132 + b) 5 (143 + b + 2)] := rfl
    rw [h6]
    simp only [xv, hz, hr]
    rfl
  · have hm := at_mem hP (box_in hb (show ((B + hbO b + 1, .inl (y 3, 12, rfA (fun i => some (B + hbO b + 2 + i)))) : Nat × va_E) ∈ wBox y (B + hbO b) from List.mem_cons_of_mem _ List.mem_cons_self))
    have hc : xc y (fun j => B + adO j) LX u0 (143 + b) = .inl (y 3, 12, rfA (fun i => some (B + adO (12 * b + i)))) := by simp [xc, ly_R hb]
    show va_at D vwCl (B + adO (143 + b), xc y (fun j => B + adO j) LX u0 (143 + b)) H
    rw [hc]
    refine at_row hm (by simp only [adO]; rw [if_neg (by omega), if_neg (by omega), if_pos (by omega), Nat.add_sub_cancel_left]; omega) (fun j hj => ?_)
    simp only [adO]
    rw [if_pos (by omega), show (12 * b + j) / 12 = b by omega, show (12 * b + j) % 12 = j by omega]
    congr 1
    omega
  · have hm : ∀ x, x ∈ wMain y B → va_at D vwCl x H := fun x h => at_mem hP h
    have hH : ∀ x, x ∈ wHist y (B + 15) → va_at D vwCl x H := fun x h => hm x (List.mem_cons_of_mem _ (List.mem_append_left _ (List.mem_append_left _ (List.mem_append_left _ (List.mem_append_right _ h)))))
    have hT : ∀ x, x ∈ wText y (B + 129) → va_at D vwCl x H := fun x h => hm x (List.mem_cons_of_mem _ (List.mem_append_left _ (List.mem_append_left _ (List.mem_append_right _ h))))
    have hF : ∀ x, x ∈ wFind y (B + 145) → va_at D vwCl x H := fun x h => hm x (List.mem_cons_of_mem _ (List.mem_append_left _ (List.mem_append_right _ h)))
    have hQ : ∀ x, x ∈ wPack y (B + 147) → va_at D vwCl x H := fun x h => hm x (List.mem_cons_of_mem _ (List.mem_append_right _ h))
    have hs : k = 154 ∨ k = 155 ∨ k = 156 ∨ k = 157 ∨ k = 158 ∨ k = 159 ∨ k = 160 ∨ k = 161 ∨ k = 162 ∨ k = 163 ∨ k = 164 ∨ k = 165 ∨ k = 166 ∨ k = 167 := by omega
    rcases hs with rfl | rfl | rfl | rfl | rfl | rfl | rfl | rfl | rfl | rfl | rfl | rfl | rfl | rfl
    · exact hF _ List.mem_cons_self
    · exact hQ _ (List.mem_cons_of_mem _ (List.mem_append_right _ List.mem_cons_self))
    · exact hF _ (List.mem_cons_of_mem _ List.mem_cons_self)
    · exact hQ _ (List.mem_cons_of_mem _ (List.mem_append_right _ (List.mem_cons_of_mem _ List.mem_cons_self)))
    · exact hH _ List.mem_cons_self
    · have h9 := hH _ (List.mem_cons_of_mem _ List.mem_cons_self)
      show va_at D vwCl (B + adO 159, .inl (y 2, 8, rfA (fun i => some (B + adO (132 + (1 + i)))))) H
      refine at_row h9 rfl (fun j hj => ?_)
      have : adO (132 + (1 + j)) = 3 + 14 * (1 + j) := by
        simp only [adO]
        rw [if_neg (by omega), if_pos (by omega), Nat.add_sub_cancel_left]
        simp only [hbO]
        rw [if_neg (by omega), if_pos (by omega)]
      rw [this]
      congr 1
      omega
    · exact hT _ List.mem_cons_self
    · exact hT _ (List.mem_cons_of_mem _ (List.mem_append_right _ List.mem_cons_self))
    · exact hQ _ List.mem_cons_self
    · exact hQ _ (List.mem_cons_of_mem _ (List.mem_append_left _ (List.mem_append_left _ (List.mem_append_left _ (List.mem_append_left _ (List.mem_append_left _ List.mem_cons_self))))))
    · exact hQ _ (List.mem_cons_of_mem _ (List.mem_append_left _ (List.mem_append_left _ (List.mem_append_left _ (List.mem_append_left _ (List.mem_append_right _ List.mem_cons_self))))))
    · exact hQ _ (List.mem_cons_of_mem _ (List.mem_append_left _ (List.mem_append_left _ (List.mem_append_right _ List.mem_cons_self))))
    · exact hQ _ (List.mem_cons_of_mem _ (List.mem_append_left _ (List.mem_append_right _ List.mem_cons_self)))
    · exact hm _ List.mem_cons_self
set_option maxRecDepth 100000 in
theorem world_M {D : va_G} {y : Nat → ClassId} {B : Nat} {H : Heap} (hP : va_P D vwCl (wMod y B) H) : va_P D vwCl (wx y (fun j => B + j) LM 8 w0) H := by
  intro k x hx
  obtain ⟨hk, rfl⟩ := wx_get hx
  have hs : k = 0 ∨ k = 1 ∨ k = 2 ∨ k = 3 ∨ k = 4 ∨ k = 5 ∨ k = 6 ∨ k = 7 := by omega
  rcases hs with rfl | rfl | rfl | rfl | rfl | rfl | rfl | rfl
  · exact hP 0 _ rfl
  · exact hP 1 _ rfl
  · exact hP 2 _ rfl
  · exact hP 3 _ rfl
  · exact hP 4 _ rfl
  · exact hP 5 _ rfl
  · exact hP 6 _ rfl
  · exact hP 7 _ rfl
-- WHOLE
set_option maxRecDepth 100000 in
theorem wc_X6_init : Cond.code yX6_init cX6_init 1 none ∈ lwT := lwT_t (List.mem_of_getElem? (i := 16) (by decide +kernel)) rfl
set_option maxRecDepth 100000 in
theorem wc_X7_init : Cond.code yX7_init cX7_init 1 none ∈ lwT := lwT_t (List.mem_of_getElem? (i := 665) (by decide +kernel)) rfl
set_option maxRecDepth 100000 in
theorem wi_X6_init : Cond.instanceMethod yX6_init ∈ lwT := lwT_t (List.mem_of_getElem? (i := 15) (by decide +kernel)) rfl
set_option maxRecDepth 100000 in
theorem wi_X7_init : Cond.instanceMethod yX7_init ∈ lwT := lwT_t (List.mem_of_getElem? (i := 664) (by decide +kernel)) rfl
set_option maxRecDepth 100000 in
theorem wl_L_10 : Cond.classLink RL 10 RX7 ∈ lwT := lwT_t (List.mem_of_getElem? (i := 661) (by decide +kernel)) rfl
set_option maxRecDepth 100000 in
theorem wl_L_7 : Cond.classLink RL 7 RX6 ∈ lwT := lwT_t (List.mem_of_getElem? (i := 12) (by decide +kernel)) rfl
set_option maxRecDepth 100000 in
theorem wm_L_12 : Cond.methodLink RL 12 yX7_init ∈ lwT := lwT_t (List.mem_of_getElem? (i := 663) (by decide +kernel)) rfl
set_option maxRecDepth 100000 in
theorem wm_L_9 : Cond.methodLink RL 9 yX6_init ∈ lwT := lwT_t (List.mem_of_getElem? (i := 14) (by decide +kernel)) rfl
set_option maxRecDepth 100000 in
theorem wo_X6 : Cond.instantiable RX6 5 ∈ lwT := lwT_t (List.mem_of_getElem? (i := 13) (by decide +kernel)) rfl
set_option maxRecDepth 100000 in
theorem wo_X7 : Cond.instantiable RX7 21 ∈ lwT := lwT_t (List.mem_of_getElem? (i := 662) (by decide +kernel)) rfl
theorem hdc_X6_init : yX6_init.cls ≠ "java/lang/invoke/MethodHandle" ∧ yX6_init.cls ≠ "java/lang/invoke/VarHandle" ∧ (parseMethodDescriptor yX6_init.desc).map (fun d => d.parameters.length) = some 0 := by decide +kernel
theorem hdc_X7_init : yX7_init.cls ≠ "java/lang/invoke/MethodHandle" ∧ yX7_init.cls ≠ "java/lang/invoke/VarHandle" ∧ (parseMethodDescriptor yX7_init.desc).map (fun d => d.parameters.length) = some 0 := by decide +kernel
theorem gMain {y : Nat → ClassId} {h : Nat} : Ctg (wMain y h) h :=
  Ctg.cons rfl (Ctg.app (n := 146) (Ctg.app (n := 144) (Ctg.app (n := 128) (Ctg.app (n := 14) gBox lBox (by simpa [Nat.add_assoc] using gHist (y := y) (h := h + 15))) (by simp [lBox, wHist, lBoxes]) (by simpa [Nat.add_assoc] using gText (y := y) (h := h + 129))) (by simp [lBox, wHist, lBoxes, wText]) (by simpa [Nat.add_assoc] using gFind (y := y) (h := h + 145))) (by simp [lBox, wHist, lBoxes, wText, wFind]) (by simpa [Nat.add_assoc] using gPack (y := y) (h := h + 147)))
theorem gMod {y : Nat → ClassId} {h : Nat} : Ctg (wMod y h) h := by
  intro k x hx
  match k, hx with
  | 0, hx => cases hx; rfl
  | 1, hx => cases hx; rfl
  | 2, hx => cases hx; rfl
  | 3, hx => cases hx; rfl
  | 4, hx => cases hx; rfl
  | 5, hx => cases hx; rfl
  | 6, hx => cases hx; rfl
  | 7, hx => cases hx; rfl
  | k + 8, hx => simp [wMod] at hx
set_option maxRecDepth 100000 in
set_option maxHeartbeats 4000000 in
/-- the law from its entry, over an invariant that holds at first and is kept by every call -/
theorem whole_startR {Rl : S → S → Prop} (hR0 : Rl u0 w0) (h0 : Sim_setBox Rl) (h1 : Sim_setShare Rl) (h2 : Sim_type Rl) (h3 : Sim_clearText Rl) (h4 : Sim_load Rl) (h5 : Sim_faultKind Rl) (h6 : Sim_add Rl) (h7 : Sim_drop Rl) (h8 : Sim_setTray Rl) (h9 : Sim_letDown Rl) (h10 : Sim_takeOut Rl) (h11 : Sim_empty Rl) (h12 : Sim_tray Rl) (h13 : Sim_seen Rl) (h14 : Sim_place Rl) (h15 : Sim_places Rl) (h16 : Sim_pack Rl) (h17 : Sim_packBest Rl) (h18 : Sim_ifPacked Rl) (h19 : Sim_play Rl) (h20 : Sim_liftsTo Rl) (h21 : Sim_undo Rl) (h22 : Sim_count Rl) (h23 : Sim_digest Rl) {p : Program} {e : Env} {s : State} {m : MethodId} {below : List Frame} {meth : Method} {c : Code} (l : Launch) {b L : Nat} {xs : Nat → Int32} (hL : L ≤ 2560) (C0 : lw_At p s m meth c b L xs) : W p l e room_1 s m #[Value.ref b] below meth c s.heap [] 0 0 (lw_Z below #[Value.ref b] s) (entryFrame m ([Value.ref b] : List Value).toArray 4) := by
  obtain ⟨hx, hb, hr, hml, hown, hts, hX, hbl, hlocks, hgv⟩ := id C0
  have hT : ∀ w ∈ lwT, w.before #[Value.ref b] s = true := fun w h => hts w (lwT_in w h)
  have CF : CallFix p m c code 4 s #[Value.ref b] lwT RL := ⟨hx, hb, hml, hown, hT⟩
  obtain ⟨c0, i0, hK0⟩ := u_known (C := RX0) (T := TX0) (N := 6) (n := 6) hT inX0 (hT _ wo_X0)
  obtain ⟨c1, i1, hK1⟩ := u_known (C := RX1) (T := TX1) (N := 9) (n := 9) hT inX1 (hT _ wo_X1)
  obtain ⟨c2, i2, hK2⟩ := u_known (C := RX2) (T := TX2) (N := 3) (n := 3) hT inX2 (hT _ wo_X2)
  obtain ⟨c3, i3, hK3⟩ := u_known (C := RX3) (T := TX3) (N := 6) (n := 6) hT inX3 (hT _ wo_X3)
  obtain ⟨c4, i4, hK4⟩ := u_known (C := RX4) (T := TX4) (N := 6) (n := 6) hT inX4 (hT _ wo_X4)
  obtain ⟨c5, i5, hK5⟩ := u_known (C := RX5) (T := TX5) (N := 14) (n := 14) hT inX5 (hT _ wo_X5)
  obtain ⟨c6, i6, hK6⟩ := u_known (C := RX6) (T := TX6) (N := 5) (n := 5) hT inX6 (hT _ wo_X6)
  obtain ⟨c7, i7, hK7⟩ := u_known (C := RX7) (T := TX7) (N := 21) (n := 21) hT inX7 (hT _ wo_X7)
  obtain ⟨D, hKc⟩ : ∃ D : va_G, ∀ (k : Nat) (q : vw_C), vwCl[k]? = some q → u_Kn s q.1 q.2.1 q.2.2 (D.1 k) (D.2 k) := by
    refine ⟨(fun k => match k with | 0 => c0 | 1 => c1 | 2 => c2 | 3 => c3 | 4 => c4 | 5 => c5 | 6 => c6 | _ => c7, fun k => match k with | 0 => i0 | 1 => i1 | 2 => i2 | 3 => i3 | 4 => i4 | 5 => i5 | 6 => i6 | _ => i7), ?_⟩
    intro k q hq
    match k, hq with
    | 0, hq => cases hq; exact hK0
    | 1, hq => cases hq; exact hK1
    | 2, hq => cases hq; exact hK2
    | 3, hq => cases hq; exact hK3
    | 4, hq => cases hq; exact hK4
    | 5, hq => cases hq; exact hK5
    | 6, hq => cases hq; exact hK6
    | 7, hq => cases hq; exact hK7
    | k + 8, hq => simp [vwCl] at hq
  obtain ⟨y0, k0, p0, e0, f0, g0⟩ := Cond.arrayClass_spec (hT _ wa_int)
  obtain ⟨y1, k1, p1, e1, f1, g1⟩ := Cond.arrayClass_spec (hT _ wa_char)
  obtain ⟨p2, y2, k2, d2, _, f2, g2, e2⟩ := Cond.arrayOver_spec (n := "TrayBox$Box") (hts _ (List.mem_append_right _ (List.mem_of_getElem? (i := 140) (by decide +kernel))))
  obtain ⟨p3, y3, k3, d3, _, f3, g3, e3⟩ := Cond.arrayOver_spec (n := "TrayBox$Tray") (hts _ (List.mem_append_right _ (List.mem_of_getElem? (i := 27) (by decide +kernel))))
  obtain ⟨y, hy0, hy1, hy2, hy3⟩ : ∃ y : Nat → ClassId, y 0 = y0 ∧ y 1 = y1 ∧ y 2 = y2 ∧ y 3 = y3 := ⟨fun k => if k = 0 then y0 else if k = 1 then y1 else if k = 2 then y2 else y3, rfl, rfl, rfl, rfl⟩
  subst hy0; subst hy1; subst hy2; subst hy3
  have hK : va_K D vwCl (xT y) s := by
    refine ⟨hKc, fun k q hk => ?_⟩
    match k, hk with
    | 0, hk => cases hk; exact ⟨fun n z => ⟨fun k h => (by cases h), k0, f0, p0, g0⟩, e0⟩
    | 1, hk => cases hk; exact ⟨fun n z => ⟨fun k h => (by cases h), k1, f1, p1, g1⟩, e1⟩
    | 2, hk => cases hk; exact ⟨fun n z => ⟨fun k h => (by cases h), k2, f2, p2, g2⟩, k2, p2, f2, g2, d2, e2⟩
    | 3, hk => cases hk; exact ⟨fun n z => ⟨fun k h => (by cases h), k3, f3, p3, g3⟩, k3, p3, f3, g3, d3, e3⟩
    | k + 4, hk => simp [xT] at hk
  have hXC : XC D y s := ⟨hK, ⟨va_Nw.of rfl (hts _ (List.mem_append_right _ (List.mem_of_getElem? (i := 29) (by decide +kernel)))), va_Nw.of rfl (hts _ (List.mem_append_right _ (List.mem_of_getElem? (i := 155) (by decide +kernel)))), va_Nw.of rfl (hts _ (List.mem_append_right _ (List.mem_of_getElem? (i := 186) (by decide +kernel)))), va_Nw.of rfl (hts _ (List.mem_append_right _ (List.mem_of_getElem? (i := 234) (by decide +kernel)))), va_Nw.of rfl (hts _ (List.mem_append_right _ (List.mem_of_getElem? (i := 241) (by decide +kernel))))⟩, va_AO.of (hts _ (List.mem_append_right _ (List.mem_of_getElem? (i := 27) (by decide +kernel)))), va_AO.of (hts _ (List.mem_append_right _ (List.mem_of_getElem? (i := 140) (by decide +kernel))))⟩
  have hXK : XK D y s := ⟨hK, va_Nw.of rfl (hts _ (List.mem_append_right _ (List.mem_of_getElem? (i := 364) (by decide +kernel))))⟩
  have hA : ∀ q : Nat, s.heap.size ≤ q → (fun q : Nat => s.heap.size ≤ q) q := fun _ h => h
  have hS : va_S (fun q : Nat => s.heap.size ≤ q) s.heap s.heap [] := va_S.rf
  have hP : va_P D vwCl [] s.heap := fun k q h => by simp at h
  have hD : va_D (fun q : Nat => s.heap.size ≤ q) [] := ⟨fun i j p q h => by simp at h, fun k q h => by simp at h⟩
  have hl := lv_entry ([.ref b]) (n := 4) (Nat.le_of_ble_eq_true rfl)
  rw [lg_entry_eq]
  generalize (lg_sl ([.ref b]) ++ List.replicate (4 - (lg_sl ([.ref b])).length) Slot.unset).toArray = ls at hl ⊢
  have hl : lv_has ls 4 [(0, .ref b)] := hl
  obtain ⟨B, hB⟩ : ∃ B, B = s.heap.size := ⟨_, rfl⟩
  refine y_new (pc := 0) (ci := 6) (fs := [.null, .null, .null, .null, .null]) (T := TX6) (N := 5) CF inX6 tyX6_ok wl_L_7 wo_X6 wn_X6 hK hP hD hS hA rfl (by decide +kernel) (Nat.le_of_ble_eq_true rfl) (Nat.le_of_ble_eq_true rfl) (q := B) hB.symm dL_law_0 (fun H hP hD hS hz => ?_)
  refine lv_dup (pc := 3) hx hb dL_law_3 rfl ?_
  refine y_ctor (pc := 4) (n := 167) (ms := 2419) (w1 := wMain y B) (q := B) hz hP hD hS hA (y_run CF hXC hl.1 (q := B) hz hP (nX6_init l D y B) rfl wc_X6_init wm_L_9 wi_X6_init wn_X6 rfl ⟨rfl, rfl⟩ hdc_X6_init ⟨Nat.le_of_ble_eq_true rfl, Nat.le_of_ble_eq_true rfl⟩ (Nat.le_of_ble_eq_true rfl) dL_law_4 ⟨Nat.le_of_ble_eq_true rfl, Nat.le_of_ble_eq_true rfl⟩) (Ctg.D gMain) (fun H locs hP hD hS hz => ?_)
  refine lv_astore_n (pc := 7) (lv' := [(1, .ref B), (0, .ref b)]) hx hb dL_law_7 rfl hl (by decide) rfl (fun ls hl => ?_)
  refine y_new (pc := 8) (ci := 7) (fs := [.null, .int 0, .null, .int 0, .int 0, .null, .int 0, .int 0, .int 0, .int 0, .int 0, .int 0, .int 0, .int 0, .int 0, .int 0, .null, .null, .null, .null, .long 0]) (T := TX7) (N := 21) CF inX7 tyX7_ok wl_L_10 wo_X7 wn_X7 hK hP hD hS hA rfl (by decide +kernel) (Nat.le_of_ble_eq_true rfl) (Nat.le_of_ble_eq_true rfl) (q := B + 168) (by omega) dL_law_8 (fun H hP hD hS hz => ?_)
  refine lv_dup (pc := 11) hx hb dL_law_11 rfl ?_
  refine y_ctor (pc := 12) (n := 7) (ms := 1615) (w1 := wMod y (B + 168)) (q := B + 168) hz hP hD hS hA (y_run CF hXC hl.1 (q := B + 168) hz hP (nX7_init l D y (B + 168)) rfl wc_X7_init wm_L_12 wi_X7_init wn_X7 rfl ⟨rfl, rfl⟩ hdc_X7_init ⟨Nat.le_of_ble_eq_true rfl, Nat.le_of_ble_eq_true rfl⟩ (Nat.le_of_ble_eq_true rfl) dL_law_12 ⟨Nat.le_of_ble_eq_true rfl, Nat.le_of_ble_eq_true rfl⟩) (Ctg.D gMod) (fun H locs hP hD hS hz => ?_)
  refine lv_astore_n (pc := 15) (lv' := [(2, .ref (B + 168)), (1, .ref B), (0, .ref b)]) hx hb dL_law_15 rfl hl (by decide) rfl (fun ls hl => ?_)
  refine lv_iconst (v := 0) (pc := 16) hx hb dL_law_16 (by decide) ?_
  refine lv_istore_n (pc := 17) (lv' := [(3, .int 0), (2, .ref (B + 168)), (1, .ref B), (0, .ref b)]) hx hb dL_law_17 rfl hl (by decide) rfl (fun ls hl => ?_)
  refine W.widen (k := 600000) (n := 7302250) (Nat.le_of_ble_eq_true rfl) (Nat.le_of_ble_eq_true rfl) ?_
  have hP1 : va_P D vwCl (wMain y B) H := fun k x hx => hP k x (by
    have hk := (List.getElem?_eq_some_iff.mp hx).1
    rw [List.nil_append, List.getElem?_append_left hk]; exact hx)
  have hP2 : va_P D vwCl (wMod y (B + 168)) H := fun k x hx => hP ((wMain y B).length + k) x (by
    rw [List.nil_append, List.getElem?_append_right (by omega)]; simpa using hx)
  refine law_loop (ad := fun j => B + adO j) (am := fun j => B + 168 + j) h0 h1 h2 h3 h4 h5 h6 h7 h8 h9 h10 h11 h12 h13 h14 h15 h16 h17 h18 h19 h20 h21 h22 h23 hL hr hlocks CF hXK ⟨?_, ?_, ?_, ?_, ?_⟩ hX hbl 3000 0 (by omega) (by omega) H locs ls u0 w0 0 nI_0.symm (by omega) hR0 ⟨world_X hP1, world_M hP2, hS⟩ hl
  · intro i j hi hj h
    have h : B + adO i = B + adO j := h
    exact adO_inj i hi j hj (by omega)
  · intro i j hi hj h
    have h : B + 168 + i = B + 168 + j := h
    omega
  · intro j hj
    show s.heap.size ≤ B + adO j
    omega
  · intro j hj
    show s.heap.size ≤ B + 168 + j
    omega
  · intro i j hi hj
    have := adO_lt i hi
    show B + adO i ≠ B + 168 + j
    omega
