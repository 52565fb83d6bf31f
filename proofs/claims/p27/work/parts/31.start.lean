
set_option maxRecDepth 100000 in
set_option maxHeartbeats 4000000 in
theorem whole_startF (l : Launch) {b L : Nat} {xs : Nat → Int32} {o : Int32 × S} (ho : o.1 = 1) (hf : fL_law L xs u0 = some o) {p : Program} {e : Env} {s : State} {m : MethodId} {below : List Frame} {meth : Method} {c : Code} (C0 : lw_At p s m meth c b L xs) : W p l e room_1 s m #[Value.ref b] below meth c s.heap [] 0 0 (lw_Z below #[Value.ref b] s) (entryFrame m ([Value.ref b] : List Value).toArray 5) := by
  obtain ⟨hx, hb, hr, hml, hown, hts, hX, hbl, hlocks, hgv⟩ := id C0
  have hT : ∀ w ∈ lwT, w.before #[Value.ref b] s = true := fun w h => hts w (lwT_in w h)
  have CF : CallFix p m c cL_law 5 s #[Value.ref b] lwT RL := ⟨hx, hb, hml, hown, hT⟩
  obtain ⟨c0, i0, hK0⟩ := u_known (C := RX0) (T := TX0) (N := 6) (n := 6) hT inX0 (hT _ wo_X0)
  obtain ⟨c1, i1, hK1⟩ := u_known (C := RX1) (T := TX1) (N := 9) (n := 9) hT inX1 (hT _ wo_X1)
  obtain ⟨c2, i2, hK2⟩ := u_known (C := RX2) (T := TX2) (N := 3) (n := 3) hT inX2 (hT _ wo_X2)
  obtain ⟨c3, i3, hK3⟩ := u_known (C := RX3) (T := TX3) (N := 6) (n := 6) hT inX3 (hT _ wo_X3)
  obtain ⟨c4, i4, hK4⟩ := u_known (C := RX4) (T := TX4) (N := 6) (n := 6) hT inX4 (hT _ wo_X4)
  obtain ⟨c5, i5, hK5⟩ := u_known (C := RX5) (T := TX5) (N := 14) (n := 14) hT inX5 (hT _ wo_X5)
  obtain ⟨c6, i6, hK6⟩ := u_known (C := RX6) (T := TX6) (N := 5) (n := 5) hT inX6 (hT _ wo_X6)
  obtain ⟨D, hKc⟩ : ∃ D : va_G, ∀ (k : Nat) (q : vw_C), vwCl[k]? = some q → u_Kn s q.1 q.2.1 q.2.2 (D.1 k) (D.2 k) := by
    refine ⟨(fun k => match k with | 0 => c0 | 1 => c1 | 2 => c2 | 3 => c3 | 4 => c4 | 5 => c5 | _ => c6, fun k => match k with | 0 => i0 | 1 => i1 | 2 => i2 | 3 => i3 | 4 => i4 | 5 => i5 | _ => i6), ?_⟩
    intro k q hq
    match k, hq with
    | 0, hq => cases hq; exact hK0
    | 1, hq => cases hq; exact hK1
    | 2, hq => cases hq; exact hK2
    | 3, hq => cases hq; exact hK3
    | 4, hq => cases hq; exact hK4
    | 5, hq => cases hq; exact hK5
    | 6, hq => cases hq; exact hK6
    | k + 7, hq => simp [vwCl] at hq
  obtain ⟨y0, k0, p0, e0, f0, g0⟩ := Cond.arrayClass_spec (hT _ wa_int)
  obtain ⟨y1, k1, p1, e1, f1, g1⟩ := Cond.arrayClass_spec (hT _ wa_char)
  obtain ⟨p2, y2, k2, d2, _, f2, g2, e2⟩ := Cond.arrayOver_spec (n := "TrayBox$Box") (hts _ (List.mem_append_right _ (List.mem_of_getElem? (i := 135) (by decide +kernel))))
  obtain ⟨p3, y3, k3, d3, _, f3, g3, e3⟩ := Cond.arrayOver_spec (n := "TrayBox$Tray") (hts _ (List.mem_append_right _ (List.mem_of_getElem? (i := 26) (by decide +kernel))))
  obtain ⟨y, hy0, hy1, hy2, hy3⟩ : ∃ y : Nat → ClassId, y 0 = y0 ∧ y 1 = y1 ∧ y 2 = y2 ∧ y 3 = y3 := ⟨fun k => if k = 0 then y0 else if k = 1 then y1 else if k = 2 then y2 else y3, rfl, rfl, rfl, rfl⟩
  subst hy0; subst hy1; subst hy2; subst hy3
  have hK : va_K D vwCl (xT y) s := by
    refine ⟨hKc, fun k q hk => ?_⟩
    match k, hk with
    | 0, hk => cases hk; exact ⟨fun n z => ⟨fun k h => (by cases h), k0, f0, p0, g0⟩, e0⟩
    | 1, hk => cases hk; exact ⟨fun n z => ⟨fun k h => (by cases h), k1, f1, p1, g1⟩, e1⟩
    | 2, hk => cases hk; exact ⟨fun n z => ⟨fun k h => (by cases h), k2, f2, p2, g2⟩, k2, p2, f2, g2, d2, e2⟩
    | 3, hk => cases hk; exact ⟨fun n z => ⟨fun k h => (by cases h), k3, f3, p3, g3⟩, k3, p3, f3, g3, d3, e3⟩
    | k + 4, hk => simp [xT] at hk
  have hXC : XK D y s := ⟨hK, ⟨va_Nw.of rfl (hts _ (List.mem_append_right _ (List.mem_of_getElem? (i := 28) (by decide +kernel)))), va_Nw.of rfl (hts _ (List.mem_append_right _ (List.mem_of_getElem? (i := 150) (by decide +kernel)))), va_Nw.of rfl (hts _ (List.mem_append_right _ (List.mem_of_getElem? (i := 176) (by decide +kernel)))), va_Nw.of rfl (hts _ (List.mem_append_right _ (List.mem_of_getElem? (i := 224) (by decide +kernel)))), va_Nw.of rfl (hts _ (List.mem_append_right _ (List.mem_of_getElem? (i := 231) (by decide +kernel))))⟩, va_AO.of (hts _ (List.mem_append_right _ (List.mem_of_getElem? (i := 26) (by decide +kernel)))), va_AO.of (hts _ (List.mem_append_right _ (List.mem_of_getElem? (i := 135) (by decide +kernel))))⟩
  have hA : ∀ q : Nat, s.heap.size ≤ q → (fun q : Nat => s.heap.size ≤ q) q := fun _ h => h
  have hS : va_S (fun q : Nat => s.heap.size ≤ q) s.heap s.heap [] := va_S.rf
  have hP : va_P D vwCl [] s.heap := fun k q h => by simp at h
  have hD : va_D (fun q : Nat => s.heap.size ≤ q) [] := ⟨fun i j p q h => by simp at h, fun k q h => by simp at h⟩
  have hl := lv_entry ([.ref b]) (n := 5) (Nat.le_of_ble_eq_true rfl)
  rw [lg_entry_eq]
  generalize (lg_sl ([.ref b]) ++ List.replicate (5 - (lg_sl ([.ref b])).length) Slot.unset).toArray = ls at hl ⊢
  have hl : lv_has ls 5 [(0, .ref b)] := hl
  obtain ⟨B, hB⟩ : ∃ B, B = s.heap.size := ⟨_, rfl⟩
  refine y_new (pc := 0) (ci := 6) (fs := [.null, .null, .null, .null, .null]) (T := TX6) (N := 5) CF inX6 tyX6_ok wl_L_21 wo_X6 wn_X6 hK hP hD hS hA rfl (by decide +kernel) (Nat.le_of_ble_eq_true rfl) (Nat.le_of_ble_eq_true rfl) (q := B) hB.symm dL_law_0 (fun H hP hD hS hz => ?_)
  refine lv_dup (pc := 3) hx hb dL_law_3 rfl ?_
  refine y_ctor (pc := 4) (n := 167) (ms := 2419) (w1 := wMain y B) (q := B) hz hP hD hS hA (y_run CF hXC hl.1 (q := B) hz hP (nX6_init l D y B) rfl wc_X6_init wm_L_87 wi_X6_init wn_X6 rfl ⟨rfl, rfl⟩ hdc_X6_init ⟨Nat.le_of_ble_eq_true rfl, Nat.le_of_ble_eq_true rfl⟩ (Nat.le_of_ble_eq_true rfl) dL_law_4 ⟨Nat.le_of_ble_eq_true rfl, Nat.le_of_ble_eq_true rfl⟩) (Ctg.D gMain) (fun H locs hP hD hS hz => ?_)
  refine lv_astore_n (pc := 7) (lv' := [(1, .ref B), (0, .ref b)]) hx hb dL_law_7 rfl hl (by decide) rfl (fun ls hl => ?_)
  have hP1 : va_P D vwCl (wMain y B) H := fun k x hx => hP k x (by rw [List.nil_append]; exact hx)
  have hnew : ∀ j, j < 168 → s.heap.size ≤ (fun j => B + adO j) j := fun j _ => by
    show s.heap.size ≤ B + adO j
    omega
  refine z_forget (locs' := []) (fun x hx h => absurd h (Nat.not_lt.mpr (hS.2.2 x hx))) ?_
  refine law_walk (ad := fun j => B + adO j) l (fun i j hi hj h => ?_) hnew CF hXC hr hlocks hX hbl ?_ ho hf ⟨world_X hP1, hS.1, fun q h1 _ => hS.2.1 q h1 (Nat.not_le.mpr h1), fun x hx => by cases hx⟩ hl
  · have h : B + adO i = B + adO j := h
    exact adO_inj i hi j hj (by omega)
  · rintro ⟨j, hj, h⟩
    have := hnew j hj
    rw [← h] at this
    omega
