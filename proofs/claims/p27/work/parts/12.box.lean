def wX0_copyTrays : List Cond := .code yX0_copyTrays cX0_copyTrays 3 none :: lwT
def rX0_copyTrays : Room := { frames := 1, cells := 0, slots := 0, locals := 21 }
set_option maxRecDepth 100000 in
set_option maxHeartbeats 4000000 in
theorem kX0_copyTrays (l : Launch) (D : va_G) (y : Nat → ClassId) (ad : Nat → Nat) (hI : XI ad 168) (v0 : Nat) (hv0 : v0 < 11) (v1 : Nat) (hv1 : v1 < 11) (u : S) {o : S} (hf : fX0_copyTrays v0 v1 u = some o) : Met l yX0_copyTrays wX0_copyTrays rX0_copyTrays (va_Pc [.ref (ad (132 + v0)), .ref (ad (132 + v1))] (XW D y ad LX 168 u)) (XQv D y ad LX 168 o) 0 0 (XA ad 168) := by
  refine x_met (bytes := cX0_copyTrays) (maxL := 3) (ret := none) (own := RX0) (by decide) rfl rfl (Nat.le_of_ble_eq_true rfl) (fun p e s m below meth c ls C0 hK hk hr hw hl => ?_)
  have hl : lv_has ls 3 [(0, .ref (ad (132 + v0))), (1, .ref (ad (132 + v1)))] := hl
  unfold fX0_copyTrays at hf
  refine lv_aload_n (pc := 0) C0.1 C0.2.1 dX0_copyTrays_0 rfl (lv_at hl 0 rfl) ?_
  refine lv_aload_n (pc := 1) C0.1 C0.2.1 dX0_copyTrays_1 rfl (lv_at hl 1 rfl) ?_
  refine x_get (pc := 2) (v := .int (u.1 (132 + v1) 4)) C0 hK hw (jy_B hv1) (ly_B hv1) rfl inX0 4 (by decide) wf_X0_35 rfl rfl dX0_copyTrays_2 ?_
  obtain ⟨u1, hu, hf⟩ := nm_f hf
  refine x_put (pc := 5) hI C0 hK hw (jy_B hv0) (ly_B hv0) rfl inX0 tyX0_ok nmX0 4 (by decide) wf_X0_35 rfl rfl rfl hu rfl rfl dX0_copyTrays_5 (fun H locs hw => ?_)
  refine lv_iconst (v := 0) (pc := 8) C0.1 C0.2.1 dX0_copyTrays_8 (by decide) ?_
  refine lv_istore_n (pc := 9) (lv' := [(2, .int 0), (0, .ref (ad (132 + v0))), (1, .ref (ad (132 + v1)))]) C0.1 C0.2.1 dX0_copyTrays_9 rfl hl (by decide) rfl (fun ls hl => ?_)
  obtain ⟨e2, he2, hf⟩ := bd_e hf
  refine X_loop (pc := 10) (xpc := 39) (fu := fun a1 => a1.2) (fl := fun a1 => [(2, .int a1.1), (0, .ref (ad (132 + v0))), (1, .ref (ad (132 + v1)))]) (fun a1 r hf hE hG H locs ls hw hl => ?_) he2 (fun H locs ls hw hl => ?_) hw hl
  · unfold gX0_copyTrays_10 at hf
    refine lv_iload_n (pc := 10) C0.1 C0.2.1 dX0_copyTrays_10 rfl (lv_at hl 0 rfl) ?_
    refine lv_aload_n (pc := 11) C0.1 C0.2.1 dX0_copyTrays_11 rfl (lv_at hl 1 rfl) ?_
    refine x_get (pc := 12) (v := .int (a1.2.1 (132 + v0) 4)) C0 hK hw (jy_B hv0) (ly_B hv0) rfl inX0 4 (by decide) wf_X0_35 rfl rfl dX0_copyTrays_12 ?_
    refine lv_icmp_ge (tgt := 39) (pc := 15) C0.1 C0.2.1 dX0_copyTrays_15 (by decide) (fun hc => ?_) (fun hc => ?_)
    · have hf := if_t hf hc
      exact hE _ (Option.some.inj hf).symm H locs ls hw (lv_sub hl [0, 1, 2] rfl)
    · have hf := if_f hf hc
      refine lv_aload_n (pc := 18) C0.1 C0.2.1 dX0_copyTrays_18 rfl (lv_at hl 1 rfl) ?_
      refine x_get (pc := 19) (v := .ref (ad (143 + v0))) C0 hK hw (jy_B hv0) (ly_B hv0) rfl inX0 5 (by decide) wf_X0_26 rfl rfl dX0_copyTrays_19 ?_
      refine lv_iload_n (pc := 22) C0.1 C0.2.1 dX0_copyTrays_22 rfl (lv_at hl 0 rfl) ?_
      obtain ⟨hi, hf⟩ := gd_e hf
      have hT3 : 12 * v0 + a1.1.toNatClampNeg < 132 := tb hv0 (inb_lt hi)
      refine x_aldT (pc := 23) (t := 12 * v0 + a1.1.toNatClampNeg) C0 hK hw (jy_R hv0) (ly_R hv0) hi rfl dX0_copyTrays_23 ?_
      refine lv_aload_n (pc := 24) C0.1 C0.2.1 dX0_copyTrays_24 rfl (lv_at hl 2 rfl) ?_
      refine x_get (pc := 25) (v := .ref (ad (143 + v1))) C0 hK hw (jy_B hv1) (ly_B hv1) rfl inX0 5 (by decide) wf_X0_26 rfl rfl dX0_copyTrays_25 ?_
      refine lv_iload_n (pc := 28) C0.1 C0.2.1 dX0_copyTrays_28 rfl (lv_at hl 0 rfl) ?_
      obtain ⟨hi, hf⟩ := gd_e hf
      have hT4 : 12 * v1 + a1.1.toNatClampNeg < 132 := tb hv1 (inb_lt hi)
      refine x_aldT (pc := 29) (t := 12 * v1 + a1.1.toNatClampNeg) C0 hK hw (jy_R hv1) (ly_R hv1) hi rfl dX0_copyTrays_29 ?_
      obtain ⟨q5, hq5, hf⟩ := bd_e hf
      refine x_backv (pc := 30) hw (x_runV (pc := 30) (As := [.ref (ad (12 * v1 + a1.1.toNatClampNeg))]) (rest := []) C0 hK hw hl.1 ⟨Nat.zero_le _, Nat.zero_le _⟩ (kX5_copyFrom l D y ad hI (12 * v0 + a1.1.toNatClampNeg) hT3 (12 * v1 + a1.1.toNatClampNeg) hT4 a1.2 hq5) (jy_T hT3) (ly_T hT3) rfl rfl wc_X5_copyFrom wm_X0_38 wi_X5_copyFrom ws_X5_copyFrom wn_X5 ⟨rfl, rfl⟩ hd_X5_copyFrom rfl ⟨Nat.le_of_ble_eq_true rfl, Nat.le_of_ble_eq_true rfl⟩ (Nat.le_of_ble_eq_true rfl) dX0_copyTrays_30) (fun H locs hw => ?_)
      refine lv_iinc (pc := 33) (v := a1.1 + 1) (lv' := [(2, .int (a1.1 + 1)), (0, .ref (ad (132 + v0))), (1, .ref (ad (132 + v1)))]) C0.1 C0.2.1 dX0_copyTrays_33 hl (k := 0) rfl rfl (by decide) rfl (fun ls hl => ?_)
      refine lv_goto (tgt := 10) (pc := 36) C0.1 C0.2.1 dX0_copyTrays_36 (by decide) ?_
      exact hG _ (Option.some.inj hf).symm H locs ls hw (lv_sub hl [0, 1, 2] rfl)
  · skip
    exact x_vret (pc := 39) C0 hK hk hr hw (Option.some.inj hf) dX0_copyTrays_39
def wX0_copyFrom : List Cond := .code yX0_copyFrom cX0_copyFrom 2 none :: lwT
def rX0_copyFrom : Room := { frames := 2, cells := 0, slots := 0, locals := 43 }
set_option maxRecDepth 100000 in
set_option maxHeartbeats 4000000 in
theorem kX0_copyFrom (l : Launch) (D : va_G) (y : Nat → ClassId) (ad : Nat → Nat) (hI : XI ad 168) (v0 : Nat) (hv0 : v0 < 11) (v1 : Nat) (hv1 : v1 < 11) (u : S) {o : S} (hf : fX0_copyFrom v0 v1 u = some o) : Met l yX0_copyFrom wX0_copyFrom rX0_copyFrom (va_Pc [.ref (ad (132 + v0)), .ref (ad (132 + v1))] (XW D y ad LX 168 u)) (XQv D y ad LX 168 o) 0 0 (XA ad 168) := by
  refine x_met (bytes := cX0_copyFrom) (maxL := 2) (ret := none) (own := RX0) (by decide) rfl rfl (Nat.le_of_ble_eq_true rfl) (fun p e s m below meth c ls C0 hK hk hr hw hl => ?_)
  have hl : lv_has ls 2 [(0, .ref (ad (132 + v0))), (1, .ref (ad (132 + v1)))] := hl
  unfold fX0_copyFrom at hf
  refine lv_aload_n (pc := 0) C0.1 C0.2.1 dX0_copyFrom_0 rfl (lv_at hl 0 rfl) ?_
  refine lv_aload_n (pc := 1) C0.1 C0.2.1 dX0_copyFrom_1 rfl (lv_at hl 1 rfl) ?_
  refine x_get (pc := 2) (v := .int (u.1 (132 + v1) 0)) C0 hK hw (jy_B hv1) (ly_B hv1) rfl inX0 0 (by decide) wf_X0_9 rfl rfl dX0_copyFrom_2 ?_
  obtain ⟨u1, hu, hf⟩ := nm_f hf
  refine x_put (pc := 5) hI C0 hK hw (jy_B hv0) (ly_B hv0) rfl inX0 tyX0_ok nmX0 0 (by decide) wf_X0_9 rfl rfl rfl hu rfl rfl dX0_copyFrom_5 (fun H locs hw => ?_)
  refine lv_aload_n (pc := 8) C0.1 C0.2.1 dX0_copyFrom_8 rfl (lv_at hl 0 rfl) ?_
  refine lv_aload_n (pc := 9) C0.1 C0.2.1 dX0_copyFrom_9 rfl (lv_at hl 1 rfl) ?_
  refine x_get (pc := 10) (v := .int (u1.1 (132 + v1) 1)) C0 hK hw (jy_B hv1) (ly_B hv1) rfl inX0 1 (by decide) wf_X0_15 rfl rfl dX0_copyFrom_10 ?_
  obtain ⟨u2, hu, hf⟩ := nm_f hf
  refine x_put (pc := 13) hI C0 hK hw (jy_B hv0) (ly_B hv0) rfl inX0 tyX0_ok nmX0 1 (by decide) wf_X0_15 rfl rfl rfl hu rfl rfl dX0_copyFrom_13 (fun H locs hw => ?_)
  refine lv_aload_n (pc := 16) C0.1 C0.2.1 dX0_copyFrom_16 rfl (lv_at hl 0 rfl) ?_
  refine lv_aload_n (pc := 17) C0.1 C0.2.1 dX0_copyFrom_17 rfl (lv_at hl 1 rfl) ?_
  refine x_get (pc := 18) (v := .int (u2.1 (132 + v1) 2)) C0 hK hw (jy_B hv1) (ly_B hv1) rfl inX0 2 (by decide) wf_X0_18 rfl rfl dX0_copyFrom_18 ?_
  obtain ⟨u3, hu, hf⟩ := nm_f hf
  refine x_put (pc := 21) hI C0 hK hw (jy_B hv0) (ly_B hv0) rfl inX0 tyX0_ok nmX0 2 (by decide) wf_X0_18 rfl rfl rfl hu rfl rfl dX0_copyFrom_21 (fun H locs hw => ?_)
  refine lv_aload_n (pc := 24) C0.1 C0.2.1 dX0_copyFrom_24 rfl (lv_at hl 0 rfl) ?_
  refine lv_aload_n (pc := 25) C0.1 C0.2.1 dX0_copyFrom_25 rfl (lv_at hl 1 rfl) ?_
  refine x_get (pc := 26) (v := .int (u3.1 (132 + v1) 3)) C0 hK hw (jy_B hv1) (ly_B hv1) rfl inX0 3 (by decide) wf_X0_21 rfl rfl dX0_copyFrom_26 ?_
  obtain ⟨u4, hu, hf⟩ := nm_f hf
  refine x_put (pc := 29) hI C0 hK hw (jy_B hv0) (ly_B hv0) rfl inX0 tyX0_ok nmX0 3 (by decide) wf_X0_21 rfl rfl rfl hu rfl rfl dX0_copyFrom_29 (fun H locs hw => ?_)
  refine lv_aload_n (pc := 32) C0.1 C0.2.1 dX0_copyFrom_32 rfl (lv_at hl 0 rfl) ?_
  refine lv_aload_n (pc := 33) C0.1 C0.2.1 dX0_copyFrom_33 rfl (lv_at hl 1 rfl) ?_
  obtain ⟨q5, hq5, hf⟩ := bd_e hf
  refine x_backv (pc := 34) hw (x_runV (pc := 34) (As := [.ref (ad (132 + v1))]) (rest := []) C0 hK hw hl.1 ⟨Nat.zero_le _, Nat.zero_le _⟩ (kX0_copyTrays l D y ad hI v0 hv0 v1 hv1 u4 hq5) (jy_B hv0) (ly_B hv0) rfl rfl wc_X0_copyTrays wm_X0_31 wi_X0_copyTrays ws_X0_copyTrays wn_X0 ⟨rfl, rfl⟩ hd_X0_copyTrays rfl ⟨Nat.le_of_ble_eq_true rfl, Nat.le_of_ble_eq_true rfl⟩ (Nat.le_of_ble_eq_true rfl) dX0_copyFrom_34) (fun H locs hw => ?_)
  exact x_vret (pc := 37) C0 hK hk hr hw (Option.some.inj hf) dX0_copyFrom_37
def wX0_clear : List Cond := .code yX0_clear cX0_clear 2 none :: lwT
def rX0_clear : Room := { frames := 1, cells := 0, slots := 0, locals := 20 }
set_option maxRecDepth 100000 in
set_option maxHeartbeats 4000000 in
theorem kX0_clear (l : Launch) (D : va_G) (y : Nat → ClassId) (ad : Nat → Nat) (hI : XI ad 168) (v0 : Nat) (hv0 : v0 < 11) (u : S) {o : S} (hf : fX0_clear v0 u = some o) : Met l yX0_clear wX0_clear rX0_clear (va_Pc [.ref (ad (132 + v0))] (XW D y ad LX 168 u)) (XQv D y ad LX 168 o) 0 0 (XA ad 168) := by
  refine x_met (bytes := cX0_clear) (maxL := 2) (ret := none) (own := RX0) (by decide) rfl rfl (Nat.le_of_ble_eq_true rfl) (fun p e s m below meth c ls C0 hK hk hr hw hl => ?_)
  have hl : lv_has ls 2 [(0, .ref (ad (132 + v0)))] := hl
  unfold fX0_clear at hf
  refine lv_iconst (v := 0) (pc := 0) C0.1 C0.2.1 dX0_clear_0 (by decide) ?_
  refine lv_istore_n (pc := 1) (lv' := [(1, .int 0), (0, .ref (ad (132 + v0)))]) C0.1 C0.2.1 dX0_clear_1 rfl hl (by decide) rfl (fun ls hl => ?_)
  obtain ⟨e1, he1, hf⟩ := bd_e hf
  refine X_loop (pc := 2) (xpc := 25) (fu := fun a1 => a1.2) (fl := fun a1 => [(1, .int a1.1), (0, .ref (ad (132 + v0)))]) (fun a1 r hf hE hG H locs ls hw hl => ?_) he1 (fun H locs ls hw hl => ?_) hw hl
  · unfold gX0_clear_2 at hf
    refine lv_iload_n (pc := 2) C0.1 C0.2.1 dX0_clear_2 rfl (lv_at hl 0 rfl) ?_
    refine lv_aload_n (pc := 3) C0.1 C0.2.1 dX0_clear_3 rfl (lv_at hl 1 rfl) ?_
    refine x_get (pc := 4) (v := .int (a1.2.1 (132 + v0) 4)) C0 hK hw (jy_B hv0) (ly_B hv0) rfl inX0 4 (by decide) wf_X0_35 rfl rfl dX0_clear_4 ?_
    refine lv_icmp_ge (tgt := 25) (pc := 7) C0.1 C0.2.1 dX0_clear_7 (by decide) (fun hc => ?_) (fun hc => ?_)
    · have hf := if_t hf hc
      exact hE _ (Option.some.inj hf).symm H locs ls hw (lv_sub hl [0, 1] rfl)
    · have hf := if_f hf hc
      refine lv_aload_n (pc := 10) C0.1 C0.2.1 dX0_clear_10 rfl (lv_at hl 1 rfl) ?_
      refine x_get (pc := 11) (v := .ref (ad (143 + v0))) C0 hK hw (jy_B hv0) (ly_B hv0) rfl inX0 5 (by decide) wf_X0_26 rfl rfl dX0_clear_11 ?_
      refine lv_iload_n (pc := 14) C0.1 C0.2.1 dX0_clear_14 rfl (lv_at hl 0 rfl) ?_
      obtain ⟨hi, hf⟩ := gd_e hf
      have hT2 : 12 * v0 + a1.1.toNatClampNeg < 132 := tb hv0 (inb_lt hi)
      refine x_aldT (pc := 15) (t := 12 * v0 + a1.1.toNatClampNeg) C0 hK hw (jy_R hv0) (ly_R hv0) hi rfl dX0_clear_15 ?_
      obtain ⟨q3, hq3, hf⟩ := bd_e hf
      refine x_backv (pc := 16) hw (x_runV (pc := 16) (As := []) (rest := []) C0 hK hw hl.1 ⟨Nat.zero_le _, Nat.zero_le _⟩ (kX5_leave l D y ad hI (12 * v0 + a1.1.toNatClampNeg) hT2 a1.2 hq3) (jy_T hT2) (ly_T hT2) rfl rfl wc_X5_leave wm_X0_42 wi_X5_leave ws_X5_leave wn_X5 ⟨rfl, rfl⟩ hd_X5_leave rfl ⟨Nat.le_of_ble_eq_true rfl, Nat.le_of_ble_eq_true rfl⟩ (Nat.le_of_ble_eq_true rfl) dX0_clear_16) (fun H locs hw => ?_)
      refine lv_iinc (pc := 19) (v := a1.1 + 1) (lv' := [(1, .int (a1.1 + 1)), (0, .ref (ad (132 + v0)))]) C0.1 C0.2.1 dX0_clear_19 hl (k := 0) rfl rfl (by decide) rfl (fun ls hl => ?_)
      refine lv_goto (tgt := 2) (pc := 22) C0.1 C0.2.1 dX0_clear_22 (by decide) ?_
      exact hG _ (Option.some.inj hf).symm H locs ls hw (lv_sub hl [0, 1] rfl)
  · skip
    exact x_vret (pc := 25) C0 hK hk hr hw (Option.some.inj hf) dX0_clear_25
def wX0_has : List Cond := .code yX0_has cX0_has 2 (some .boolean) :: lwT
def rX0_has : Room := { frames := 0, cells := 0, slots := 0, locals := 0 }
set_option maxRecDepth 100000 in
set_option maxHeartbeats 4000000 in
theorem kX0_has (l : Launch) (D : va_G) (y : Nat → ClassId) (ad : Nat → Nat) (hI : XI ad 168) (v0 : Nat) (hv0 : v0 < 11) (v1 : Int32) (u : S) {o : Int32} (hf : fX0_has v0 v1 u = some o) : Met l yX0_has wX0_has rX0_has (va_Pc [.ref (ad (132 + v0)), .int v1] (XW D y ad LX 168 u)) (XQi D y ad LX 168 (o, u)) 0 0 (XA ad 168) := by
  refine x_met (bytes := cX0_has) (maxL := 2) (ret := (some .boolean)) (own := RX0) (by decide) rfl rfl (Nat.le_of_ble_eq_true rfl) (fun p e s m below meth c ls C0 hK hk hr hw hl => ?_)
  have hl : lv_has ls 2 [(0, .ref (ad (132 + v0))), (1, .int v1)] := hl
  unfold fX0_has at hf
  refine lv_iload_n (pc := 0) C0.1 C0.2.1 dX0_has_0 rfl (lv_at hl 1 rfl) ?_
  refine lv_if_lt (tgt := 16) (pc := 1) C0.1 C0.2.1 dX0_has_1 (by decide) (fun hc => ?_) (fun hc => ?_)
  · have hf := if_t hf hc
    refine lv_iconst (v := 0) (pc := 16) C0.1 C0.2.1 dX0_has_16 (by decide) ?_
    exact x_zret (pc := 17) C0 hK hk hr hw rfl (congrArg (fun z => (z, u)) (Option.some.inj hf)) dX0_has_17
  · have hf := if_f hf hc
    refine lv_iload_n (pc := 4) C0.1 C0.2.1 dX0_has_4 rfl (lv_at hl 1 rfl) ?_
    refine lv_aload_n (pc := 5) C0.1 C0.2.1 dX0_has_5 rfl (lv_at hl 0 rfl) ?_
    refine x_get (pc := 6) (v := .int (u.1 (132 + v0) 4)) C0 hK hw (jy_B hv0) (ly_B hv0) rfl inX0 4 (by decide) wf_X0_35 rfl rfl dX0_has_6 ?_
    refine lv_icmp_ge (tgt := 16) (pc := 9) C0.1 C0.2.1 dX0_has_9 (by decide) (fun hc => ?_) (fun hc => ?_)
    · have hf := if_t hf hc
      refine lv_iconst (v := 0) (pc := 16) C0.1 C0.2.1 dX0_has_16 (by decide) ?_
      exact x_zret (pc := 17) C0 hK hk hr hw rfl (congrArg (fun z => (z, u)) (Option.some.inj hf)) dX0_has_17
    · have hf := if_f hf hc
      refine lv_iconst (v := 1) (pc := 12) C0.1 C0.2.1 dX0_has_12 (by decide) ?_
      refine lv_goto (tgt := 17) (pc := 13) C0.1 C0.2.1 dX0_has_13 (by decide) ?_
      exact x_zret (pc := 17) C0 hK hk hr hw rfl (congrArg (fun z => (z, u)) (Option.some.inj hf)) dX0_has_17
def wX0_encloses : List Cond := .code yX0_encloses cX0_encloses 5 (some .boolean) :: lwT
def rX0_encloses : Room := { frames := 1, cells := 0, slots := 0, locals := 21 }
set_option maxRecDepth 100000 in
set_option maxHeartbeats 4000000 in
theorem kX0_encloses (l : Launch) (D : va_G) (y : Nat → ClassId) (ad : Nat → Nat) (hI : XI ad 168) (v0 : Nat) (hv0 : v0 < 11) (v1 : Nat) (hv1 : v1 < 132) (v2 : Int32) (v3 : Int32) (v4 : Int32) (u : S) {o : Int32} (hf : fX0_encloses v0 v1 v2 v3 v4 u = some o) : Met l yX0_encloses wX0_encloses rX0_encloses (va_Pc [.ref (ad (132 + v0)), .ref (ad v1), .int v2, .int v3, .int v4] (XW D y ad LX 168 u)) (XQi D y ad LX 168 (o, u)) 0 0 (XA ad 168) := by
  refine x_met (bytes := cX0_encloses) (maxL := 5) (ret := (some .boolean)) (own := RX0) (by decide) rfl rfl (Nat.le_of_ble_eq_true rfl) (fun p e s m below meth c ls C0 hK hk hr hw hl => ?_)
  have hl : lv_has ls 5 [(0, .ref (ad (132 + v0))), (1, .ref (ad v1)), (2, .int v2), (3, .int v3), (4, .int v4)] := hl
  unfold fX0_encloses at hf
  refine lv_iload_n (pc := 0) C0.1 C0.2.1 dX0_encloses_0 rfl (lv_at hl 2 rfl) ?_
  refine lv_if_lt (tgt := 42) (pc := 1) C0.1 C0.2.1 dX0_encloses_1 (by decide) (fun hc => ?_) (fun hc => ?_)
  · have hf := if_t hf hc
    refine lv_iconst (v := 0) (pc := 42) C0.1 C0.2.1 dX0_encloses_42 (by decide) ?_
    exact x_zret (pc := 43) C0 hK hk hr hw rfl (congrArg (fun z => (z, u)) (Option.some.inj hf)) dX0_encloses_43
  · have hf := if_f hf hc
    refine lv_iload_n (pc := 4) C0.1 C0.2.1 dX0_encloses_4 rfl (lv_at hl 2 rfl) ?_
    refine lv_aload_n (pc := 5) C0.1 C0.2.1 dX0_encloses_5 rfl (lv_at hl 0 rfl) ?_
    refine x_get (pc := 6) (v := .int (u.1 (132 + v0) 0)) C0 hK hw (jy_B hv0) (ly_B hv0) rfl inX0 0 (by decide) wf_X0_9 rfl rfl dX0_encloses_6 ?_
    refine lv_aload_n (pc := 9) C0.1 C0.2.1 dX0_encloses_9 rfl (lv_at hl 1 rfl) ?_
    refine lv_iload (pc := 10) C0.1 C0.2.1 dX0_encloses_10 (lv_at hl 4 rfl) ?_
    obtain ⟨q1, hq1, hf⟩ := bd_e hf
    refine x_backp (pc := 12) hw (x_runV (pc := 12) (As := [.int v4]) (rest := [.int (u.1 (132 + v0) 0), .int v2]) C0 hK hw hl.1 ⟨Nat.zero_le _, Nat.zero_le _⟩ (kX5_alongX l D y ad hI v1 hv1 v4 u hq1) (jy_T hv1) (ly_T hv1) rfl rfl wc_X5_alongX wm_X0_45 wi_X5_alongX ws_X5_alongX wn_X5 ⟨rfl, rfl⟩ hd_X5_alongX rfl ⟨Nat.le_of_ble_eq_true rfl, Nat.le_of_ble_eq_true rfl⟩ (Nat.le_of_ble_eq_true rfl) dX0_encloses_12) (fun H locs hw => ?_)
    refine lv_isub (pc := 15) C0.1 C0.2.1 dX0_encloses_15 ?_
    refine lv_icmp_gt (tgt := 42) (pc := 16) C0.1 C0.2.1 dX0_encloses_16 (by decide) (fun hc => ?_) (fun hc => ?_)
    · have hf := if_t hf hc
      refine lv_iconst (v := 0) (pc := 42) C0.1 C0.2.1 dX0_encloses_42 (by decide) ?_
      exact x_zret (pc := 43) C0 hK hk hr hw rfl (congrArg (fun z => (z, u)) (Option.some.inj hf)) dX0_encloses_43
    · have hf := if_f hf hc
      refine lv_iload_n (pc := 19) C0.1 C0.2.1 dX0_encloses_19 rfl (lv_at hl 3 rfl) ?_
      refine lv_if_lt (tgt := 42) (pc := 20) C0.1 C0.2.1 dX0_encloses_20 (by decide) (fun hc => ?_) (fun hc => ?_)
      · have hf := if_t hf hc
        refine lv_iconst (v := 0) (pc := 42) C0.1 C0.2.1 dX0_encloses_42 (by decide) ?_
        exact x_zret (pc := 43) C0 hK hk hr hw rfl (congrArg (fun z => (z, u)) (Option.some.inj hf)) dX0_encloses_43
      · have hf := if_f hf hc
        refine lv_iload_n (pc := 23) C0.1 C0.2.1 dX0_encloses_23 rfl (lv_at hl 3 rfl) ?_
        refine lv_aload_n (pc := 24) C0.1 C0.2.1 dX0_encloses_24 rfl (lv_at hl 0 rfl) ?_
        refine x_get (pc := 25) (v := .int (u.1 (132 + v0) 1)) C0 hK hw (jy_B hv0) (ly_B hv0) rfl inX0 1 (by decide) wf_X0_15 rfl rfl dX0_encloses_25 ?_
        refine lv_aload_n (pc := 28) C0.1 C0.2.1 dX0_encloses_28 rfl (lv_at hl 1 rfl) ?_
        refine lv_iload (pc := 29) C0.1 C0.2.1 dX0_encloses_29 (lv_at hl 4 rfl) ?_
        obtain ⟨q2, hq2, hf⟩ := bd_e hf
        refine x_backp (pc := 31) hw (x_runV (pc := 31) (As := [.int v4]) (rest := [.int (u.1 (132 + v0) 1), .int v3]) C0 hK hw hl.1 ⟨Nat.zero_le _, Nat.zero_le _⟩ (kX5_alongY l D y ad hI v1 hv1 v4 u hq2) (jy_T hv1) (ly_T hv1) rfl rfl wc_X5_alongY wm_X0_49 wi_X5_alongY ws_X5_alongY wn_X5 ⟨rfl, rfl⟩ hd_X5_alongY rfl ⟨Nat.le_of_ble_eq_true rfl, Nat.le_of_ble_eq_true rfl⟩ (Nat.le_of_ble_eq_true rfl) dX0_encloses_31) (fun H locs hw => ?_)
        refine lv_isub (pc := 34) C0.1 C0.2.1 dX0_encloses_34 ?_
        refine lv_icmp_gt (tgt := 42) (pc := 35) C0.1 C0.2.1 dX0_encloses_35 (by decide) (fun hc => ?_) (fun hc => ?_)
        · have hf := if_t hf hc
          refine lv_iconst (v := 0) (pc := 42) C0.1 C0.2.1 dX0_encloses_42 (by decide) ?_
          exact x_zret (pc := 43) C0 hK hk hr hw rfl (congrArg (fun z => (z, u)) (Option.some.inj hf)) dX0_encloses_43
        · have hf := if_f hf hc
          refine lv_iconst (v := 1) (pc := 38) C0.1 C0.2.1 dX0_encloses_38 (by decide) ?_
          refine lv_goto (tgt := 43) (pc := 39) C0.1 C0.2.1 dX0_encloses_39 (by decide) ?_
          exact x_zret (pc := 43) C0 hK hk hr hw rfl (congrArg (fun z => (z, u)) (Option.some.inj hf)) dX0_encloses_43
def wX0_highestFloor : List Cond := .code yX0_highestFloor cX0_highestFloor 2 (some .int) :: lwT
def rX0_highestFloor : Room := { frames := 1, cells := 0, slots := 0, locals := 20 }
set_option maxRecDepth 100000 in
set_option maxHeartbeats 4000000 in
theorem kX0_highestFloor (l : Launch) (D : va_G) (y : Nat → ClassId) (ad : Nat → Nat) (hI : XI ad 168) (v0 : Nat) (hv0 : v0 < 11) (v1 : Nat) (hv1 : v1 < 132) (u : S) {o : Int32} (hf : fX0_highestFloor v0 v1 u = some o) : Met l yX0_highestFloor wX0_highestFloor rX0_highestFloor (va_Pc [.ref (ad (132 + v0)), .ref (ad v1)] (XW D y ad LX 168 u)) (XQi D y ad LX 168 (o, u)) 0 0 (XA ad 168) := by
  refine x_met (bytes := cX0_highestFloor) (maxL := 2) (ret := (some .int)) (own := RX0) (by decide) rfl rfl (Nat.le_of_ble_eq_true rfl) (fun p e s m below meth c ls C0 hK hk hr hw hl => ?_)
  have hl : lv_has ls 2 [(0, .ref (ad (132 + v0))), (1, .ref (ad v1))] := hl
  unfold fX0_highestFloor at hf
  refine lv_aload_n (pc := 0) C0.1 C0.2.1 dX0_highestFloor_0 rfl (lv_at hl 0 rfl) ?_
  refine x_get (pc := 1) (v := .int (u.1 (132 + v0) 2)) C0 hK hw (jy_B hv0) (ly_B hv0) rfl inX0 2 (by decide) wf_X0_18 rfl rfl dX0_highestFloor_1 ?_
  refine lv_aload_n (pc := 4) C0.1 C0.2.1 dX0_highestFloor_4 rfl (lv_at hl 1 rfl) ?_
  obtain ⟨q1, hq1, hf⟩ := bd_e hf
  refine x_backp (pc := 5) hw (x_runV (pc := 5) (As := []) (rest := [.int (u.1 (132 + v0) 2)]) C0 hK hw hl.1 ⟨Nat.zero_le _, Nat.zero_le _⟩ (kX5_tall l D y ad hI v1 hv1 u hq1) (jy_T hv1) (ly_T hv1) rfl rfl wc_X5_tall wm_X0_52 wi_X5_tall ws_X5_tall wn_X5 ⟨rfl, rfl⟩ hd_X5_tall rfl ⟨Nat.le_of_ble_eq_true rfl, Nat.le_of_ble_eq_true rfl⟩ (Nat.le_of_ble_eq_true rfl) dX0_highestFloor_5) (fun H locs hw => ?_)
  refine lv_isub (pc := 8) C0.1 C0.2.1 dX0_highestFloor_8 ?_
  exact x_iret (pc := 9) C0 hK hk hr hw (congrArg (fun z => (z, u)) (Option.some.inj hf)) dX0_highestFloor_9
def wX0_inside : List Cond := .code yX0_inside cX0_inside 3 (some .int) :: lwT
def rX0_inside : Room := { frames := 0, cells := 0, slots := 0, locals := 0 }
set_option maxRecDepth 100000 in
set_option maxHeartbeats 4000000 in
theorem kX0_inside (l : Launch) (D : va_G) (y : Nat → ClassId) (ad : Nat → Nat) (hI : XI ad 168) (v0 : Nat) (hv0 : v0 < 11) (u : S) {o : Int32} (hf : fX0_inside v0 u = some o) : Met l yX0_inside wX0_inside rX0_inside (va_Pc [.ref (ad (132 + v0))] (XW D y ad LX 168 u)) (XQi D y ad LX 168 (o, u)) 0 0 (XA ad 168) := by
  refine x_met (bytes := cX0_inside) (maxL := 3) (ret := (some .int)) (own := RX0) (by decide) rfl rfl (Nat.le_of_ble_eq_true rfl) (fun p e s m below meth c ls C0 hK hk hr hw hl => ?_)
  have hl : lv_has ls 3 [(0, .ref (ad (132 + v0)))] := hl
  unfold fX0_inside at hf
  refine lv_iconst (v := 0) (pc := 0) C0.1 C0.2.1 dX0_inside_0 (by decide) ?_
  refine lv_istore_n (pc := 1) (lv' := [(1, .int 0), (0, .ref (ad (132 + v0)))]) C0.1 C0.2.1 dX0_inside_1 rfl hl (by decide) rfl (fun ls hl => ?_)
  refine lv_iconst (v := 0) (pc := 2) C0.1 C0.2.1 dX0_inside_2 (by decide) ?_
  refine lv_istore_n (pc := 3) (lv' := [(2, .int 0), (1, .int 0), (0, .ref (ad (132 + v0)))]) C0.1 C0.2.1 dX0_inside_3 rfl hl (by decide) rfl (fun ls hl => ?_)
  obtain ⟨e1, he1, hf⟩ := bd_e hf
  refine X_loop (pc := 4) (xpc := 36) (fu := fun a1 => u) (fl := fun a1 => [(2, .int a1.2), (1, .int a1.1), (0, .ref (ad (132 + v0)))]) (fun a1 r hf hE hG H locs ls hw hl => ?_) he1 (fun H locs ls hw hl => ?_) hw hl
  · unfold gX0_inside_4 at hf
    refine lv_iload_n (pc := 4) C0.1 C0.2.1 dX0_inside_4 rfl (lv_at hl 0 rfl) ?_
    refine lv_aload_n (pc := 5) C0.1 C0.2.1 dX0_inside_5 rfl (lv_at hl 2 rfl) ?_
    refine x_get (pc := 6) (v := .int (u.1 (132 + v0) 4)) C0 hK hw (jy_B hv0) (ly_B hv0) rfl inX0 4 (by decide) wf_X0_35 rfl rfl dX0_inside_6 ?_
    refine lv_icmp_ge (tgt := 36) (pc := 9) C0.1 C0.2.1 dX0_inside_9 (by decide) (fun hc => ?_) (fun hc => ?_)
    · have hf := if_t hf hc
      exact hE _ (Option.some.inj hf).symm H locs ls hw (lv_sub hl [0, 1, 2] rfl)
    · have hf := if_f hf hc
      refine lv_aload_n (pc := 12) C0.1 C0.2.1 dX0_inside_12 rfl (lv_at hl 2 rfl) ?_
      refine x_get (pc := 13) (v := .ref (ad (143 + v0))) C0 hK hw (jy_B hv0) (ly_B hv0) rfl inX0 5 (by decide) wf_X0_26 rfl rfl dX0_inside_13 ?_
      refine lv_iload_n (pc := 16) C0.1 C0.2.1 dX0_inside_16 rfl (lv_at hl 0 rfl) ?_
      obtain ⟨hi, hf⟩ := gd_e hf
      have hT2 : 12 * v0 + a1.2.toNatClampNeg < 132 := tb hv0 (inb_lt hi)
      refine x_aldT (pc := 17) (t := 12 * v0 + a1.2.toNatClampNeg) C0 hK hw (jy_R hv0) (ly_R hv0) hi rfl dX0_inside_17 ?_
      refine x_get (pc := 18) (v := .int (u.1 (12 * v0 + a1.2.toNatClampNeg) 5)) C0 hK hw (jy_T hT2) (ly_T hT2) rfl inX5 5 (by decide) wf_X0_56 rfl rfl dX0_inside_18 ?_
      refine lv_if_eq (tgt := 30) (pc := 21) C0.1 C0.2.1 dX0_inside_21 (by decide) (fun hc => ?_) (fun hc => ?_)
      · have hf := if_t hf hc
        refine lv_iinc (pc := 30) (v := a1.2 + 1) (lv' := [(2, .int (a1.2 + 1)), (1, .int a1.1), (0, .ref (ad (132 + v0)))]) C0.1 C0.2.1 dX0_inside_30 hl (k := 0) rfl rfl (by decide) rfl (fun ls hl => ?_)
        refine lv_goto (tgt := 4) (pc := 33) C0.1 C0.2.1 dX0_inside_33 (by decide) ?_
        exact hG _ (Option.some.inj hf).symm H locs ls hw (lv_sub hl [0, 1, 2] rfl)
      · have hf := if_f hf hc
        refine lv_iload_n (pc := 24) C0.1 C0.2.1 dX0_inside_24 rfl (lv_at hl 1 rfl) ?_
        refine lv_iconst (v := 1) (pc := 25) C0.1 C0.2.1 dX0_inside_25 (by decide) ?_
        refine lv_iload_n (pc := 26) C0.1 C0.2.1 dX0_inside_26 rfl (lv_at hl 0 rfl) ?_
        refine lv_ishl (pc := 27) C0.1 C0.2.1 dX0_inside_27 ?_
        refine lv_ior (pc := 28) C0.1 C0.2.1 dX0_inside_28 ?_
        refine lv_istore_n (pc := 29) (lv' := [(1, .int (a1.1 ||| (1 <<< (a1.2 &&& 31)))), (2, .int a1.2), (0, .ref (ad (132 + v0)))]) C0.1 C0.2.1 dX0_inside_29 rfl hl (by decide) rfl (fun ls hl => ?_)
        refine lv_iinc (pc := 30) (v := a1.2 + 1) (lv' := [(2, .int (a1.2 + 1)), (1, .int (a1.1 ||| (1 <<< (a1.2 &&& 31)))), (0, .ref (ad (132 + v0)))]) C0.1 C0.2.1 dX0_inside_30 hl (k := 1) rfl rfl (by decide) rfl (fun ls hl => ?_)
        refine lv_goto (tgt := 4) (pc := 33) C0.1 C0.2.1 dX0_inside_33 (by decide) ?_
        exact hG _ (Option.some.inj hf).symm H locs ls hw (lv_sub hl [0, 1, 2] rfl)
  · skip
    refine lv_iload_n (pc := 36) C0.1 C0.2.1 dX0_inside_36 rfl (lv_at hl 1 rfl) ?_
    exact x_iret (pc := 37) C0 hK hk hr hw (congrArg (fun z => (z, u)) (Option.some.inj hf)) dX0_inside_37
def wX0_uppermost : List Cond := .code yX0_uppermost cX0_uppermost 6 (some .int) :: lwT
def rX0_uppermost : Room := { frames := 1, cells := 0, slots := 0, locals := 22 }
set_option maxRecDepth 100000 in
set_option maxHeartbeats 4000000 in
theorem kX0_uppermost (l : Launch) (D : va_G) (y : Nat → ClassId) (ad : Nat → Nat) (hI : XI ad 168) (v0 : Nat) (hv0 : v0 < 11) (v1 : Int32) (v2 : Int32) (u : S) {o : Int32} (hf : fX0_uppermost v0 v1 v2 u = some o) : Met l yX0_uppermost wX0_uppermost rX0_uppermost (va_Pc [.ref (ad (132 + v0)), .int v1, .int v2] (XW D y ad LX 168 u)) (XQi D y ad LX 168 (o, u)) 0 0 (XA ad 168) := by
  refine x_met (bytes := cX0_uppermost) (maxL := 6) (ret := (some .int)) (own := RX0) (by decide) rfl rfl (Nat.le_of_ble_eq_true rfl) (fun p e s m below meth c ls C0 hK hk hr hw hl => ?_)
  have hl : lv_has ls 6 [(0, .ref (ad (132 + v0))), (1, .int v1), (2, .int v2)] := hl
  unfold fX0_uppermost at hf
  refine lv_bipush (v := (-9)) (pc := 0) C0.1 C0.2.1 dX0_uppermost_0 (by decide) ?_
  refine lv_istore_n (pc := 2) (lv' := [(3, .int (-9)), (0, .ref (ad (132 + v0))), (1, .int v1), (2, .int v2)]) C0.1 C0.2.1 dX0_uppermost_2 rfl hl (by decide) rfl (fun ls hl => ?_)
  refine lv_iconst (v := 0) (pc := 3) C0.1 C0.2.1 dX0_uppermost_3 (by decide) ?_
  refine lv_istore (pc := 4) (lv' := [(4, .int 0), (3, .int (-9)), (0, .ref (ad (132 + v0))), (1, .int v1), (2, .int v2)]) C0.1 C0.2.1 dX0_uppermost_4 hl (by decide) rfl (fun ls hl => ?_)
  refine lv_iconst (v := 0) (pc := 6) C0.1 C0.2.1 dX0_uppermost_6 (by decide) ?_
  refine lv_istore (pc := 7) (lv' := [(5, .int 0), (4, .int 0), (3, .int (-9)), (0, .ref (ad (132 + v0))), (1, .int v1), (2, .int v2)]) C0.1 C0.2.1 dX0_uppermost_7 hl (by decide) rfl (fun ls hl => ?_)
  obtain ⟨e1, he1, hf⟩ := bd_e hf
  refine X_loop (pc := 9) (xpc := 69) (fu := fun a1 => u) (fl := fun a1 => [(5, .int a1.2.2), (4, .int a1.2.1), (3, .int a1.1), (0, .ref (ad (132 + v0))), (1, .int v1), (2, .int v2)]) (fun a1 r hf hE hG H locs ls hw hl => ?_) he1 (fun H locs ls hw hl => ?_) hw hl
  · unfold gX0_uppermost_9 at hf
    refine lv_iload (pc := 9) C0.1 C0.2.1 dX0_uppermost_9 (lv_at hl 0 rfl) ?_
    refine lv_aload_n (pc := 11) C0.1 C0.2.1 dX0_uppermost_11 rfl (lv_at hl 3 rfl) ?_
    refine x_get (pc := 12) (v := .int (u.1 (132 + v0) 4)) C0 hK hw (jy_B hv0) (ly_B hv0) rfl inX0 4 (by decide) wf_X0_35 rfl rfl dX0_uppermost_12 ?_
    refine lv_icmp_ge (tgt := 69) (pc := 15) C0.1 C0.2.1 dX0_uppermost_15 (by decide) (fun hc => ?_) (fun hc => ?_)
    · have hf := if_t hf hc
      exact hE _ (Option.some.inj hf).symm H locs ls hw (lv_sub hl [0, 1, 2, 3, 4, 5] rfl)
    · have hf := if_f hf hc
      refine lv_aload_n (pc := 18) C0.1 C0.2.1 dX0_uppermost_18 rfl (lv_at hl 3 rfl) ?_
      refine x_get (pc := 19) (v := .ref (ad (143 + v0))) C0 hK hw (jy_B hv0) (ly_B hv0) rfl inX0 5 (by decide) wf_X0_26 rfl rfl dX0_uppermost_19 ?_
      refine lv_iload (pc := 22) C0.1 C0.2.1 dX0_uppermost_22 (lv_at hl 0 rfl) ?_
      obtain ⟨hi, hf⟩ := gd_e hf
      have hT2 : 12 * v0 + a1.2.2.toNatClampNeg < 132 := tb hv0 (inb_lt hi)
      refine x_aldT (pc := 24) (t := 12 * v0 + a1.2.2.toNatClampNeg) C0 hK hw (jy_R hv0) (ly_R hv0) hi rfl dX0_uppermost_24 ?_
      refine lv_iload_n (pc := 25) C0.1 C0.2.1 dX0_uppermost_25 rfl (lv_at hl 4 rfl) ?_
      refine lv_iload_n (pc := 26) C0.1 C0.2.1 dX0_uppermost_26 rfl (lv_at hl 5 rfl) ?_
      obtain ⟨q3, hq3, hf⟩ := bd_e hf
      refine x_backp (pc := 27) hw (x_runV (pc := 27) (As := [.int v1, .int v2]) (rest := []) C0 hK hw hl.1 ⟨Nat.zero_le _, Nat.zero_le _⟩ (kX5_covers l D y ad hI (12 * v0 + a1.2.2.toNatClampNeg) hT2 v1 v2 u hq3) (jy_T hT2) (ly_T hT2) rfl rfl wc_X5_covers wm_X0_60 wi_X5_covers ws_X5_covers wn_X5 ⟨rfl, rfl⟩ hd_X5_covers rfl ⟨Nat.le_of_ble_eq_true rfl, Nat.le_of_ble_eq_true rfl⟩ (Nat.le_of_ble_eq_true rfl) dX0_uppermost_27) (fun H locs hw => ?_)
      refine lv_if_eq (tgt := 63) (pc := 30) C0.1 C0.2.1 dX0_uppermost_30 (by decide) (fun hc => ?_) (fun hc => ?_)
      · have hf := if_t hf hc
        refine lv_iinc (pc := 63) (v := a1.2.2 + 1) (lv' := [(5, .int (a1.2.2 + 1)), (4, .int a1.2.1), (3, .int a1.1), (0, .ref (ad (132 + v0))), (1, .int v1), (2, .int v2)]) C0.1 C0.2.1 dX0_uppermost_63 hl (k := 0) rfl rfl (by decide) rfl (fun ls hl => ?_)
        refine lv_goto (tgt := 9) (pc := 66) C0.1 C0.2.1 dX0_uppermost_66 (by decide) ?_
        exact hG _ (Option.some.inj hf).symm H locs ls hw (lv_sub hl [0, 1, 2, 3, 4, 5] rfl)
      · have hf := if_f hf hc
        refine lv_aload_n (pc := 33) C0.1 C0.2.1 dX0_uppermost_33 rfl (lv_at hl 3 rfl) ?_
        refine x_get (pc := 34) (v := .ref (ad (143 + v0))) C0 hK hw (jy_B hv0) (ly_B hv0) rfl inX0 5 (by decide) wf_X0_26 rfl rfl dX0_uppermost_34 ?_
        refine lv_iload (pc := 37) C0.1 C0.2.1 dX0_uppermost_37 (lv_at hl 0 rfl) ?_
        obtain ⟨hi, hf⟩ := gd_e hf
        have hT4 : 12 * v0 + a1.2.2.toNatClampNeg < 132 := tb hv0 (inb_lt hi)
        refine x_aldT (pc := 39) (t := 12 * v0 + a1.2.2.toNatClampNeg) C0 hK hw (jy_R hv0) (ly_R hv0) hi rfl dX0_uppermost_39 ?_
        refine x_get (pc := 40) (v := .int (u.1 (12 * v0 + a1.2.2.toNatClampNeg) 12)) C0 hK hw (jy_T hT4) (ly_T hT4) rfl inX5 12 (by decide) wf_X0_64 rfl rfl dX0_uppermost_40 ?_
        refine lv_iload (pc := 43) C0.1 C0.2.1 dX0_uppermost_43 (lv_at hl 1 rfl) ?_
        refine lv_icmp_le (tgt := 63) (pc := 45) C0.1 C0.2.1 dX0_uppermost_45 (by decide) (fun hc => ?_) (fun hc => ?_)
        · have hf := if_t hf hc
          refine lv_iinc (pc := 63) (v := a1.2.2 + 1) (lv' := [(5, .int (a1.2.2 + 1)), (4, .int a1.2.1), (3, .int a1.1), (0, .ref (ad (132 + v0))), (1, .int v1), (2, .int v2)]) C0.1 C0.2.1 dX0_uppermost_63 hl (k := 0) rfl rfl (by decide) rfl (fun ls hl => ?_)
          refine lv_goto (tgt := 9) (pc := 66) C0.1 C0.2.1 dX0_uppermost_66 (by decide) ?_
          exact hG _ (Option.some.inj hf).symm H locs ls hw (lv_sub hl [0, 1, 2, 3, 4, 5] rfl)
        · have hf := if_f hf hc
          refine lv_iload (pc := 48) C0.1 C0.2.1 dX0_uppermost_48 (lv_at hl 0 rfl) ?_
          refine lv_istore_n (pc := 50) (lv' := [(3, .int a1.2.2), (5, .int a1.2.2), (4, .int a1.2.1), (0, .ref (ad (132 + v0))), (1, .int v1), (2, .int v2)]) C0.1 C0.2.1 dX0_uppermost_50 rfl hl (by decide) rfl (fun ls hl => ?_)
          refine lv_aload_n (pc := 51) C0.1 C0.2.1 dX0_uppermost_51 rfl (lv_at hl 3 rfl) ?_
          refine x_get (pc := 52) (v := .ref (ad (143 + v0))) C0 hK hw (jy_B hv0) (ly_B hv0) rfl inX0 5 (by decide) wf_X0_26 rfl rfl dX0_uppermost_52 ?_
          refine lv_iload (pc := 55) C0.1 C0.2.1 dX0_uppermost_55 (lv_at hl 1 rfl) ?_
          obtain ⟨hi, hf⟩ := gd_e hf
          have hT5 : 12 * v0 + a1.2.2.toNatClampNeg < 132 := tb hv0 (inb_lt hi)
          refine x_aldT (pc := 57) (t := 12 * v0 + a1.2.2.toNatClampNeg) C0 hK hw (jy_R hv0) (ly_R hv0) hi rfl dX0_uppermost_57 ?_
          refine x_get (pc := 58) (v := .int (u.1 (12 * v0 + a1.2.2.toNatClampNeg) 12)) C0 hK hw (jy_T hT5) (ly_T hT5) rfl inX5 12 (by decide) wf_X0_64 rfl rfl dX0_uppermost_58 ?_
          refine lv_istore (pc := 61) (lv' := [(4, .int (u.1 (12 * v0 + a1.2.2.toNatClampNeg) 12)), (3, .int a1.2.2), (5, .int a1.2.2), (0, .ref (ad (132 + v0))), (1, .int v1), (2, .int v2)]) C0.1 C0.2.1 dX0_uppermost_61 hl (by decide) rfl (fun ls hl => ?_)
          refine lv_iinc (pc := 63) (v := a1.2.2 + 1) (lv' := [(5, .int (a1.2.2 + 1)), (4, .int (u.1 (12 * v0 + a1.2.2.toNatClampNeg) 12)), (3, .int a1.2.2), (0, .ref (ad (132 + v0))), (1, .int v1), (2, .int v2)]) C0.1 C0.2.1 dX0_uppermost_63 hl (k := 2) rfl rfl (by decide) rfl (fun ls hl => ?_)
          refine lv_goto (tgt := 9) (pc := 66) C0.1 C0.2.1 dX0_uppermost_66 (by decide) ?_
          exact hG _ (Option.some.inj hf).symm H locs ls hw (lv_sub hl [0, 1, 2, 3, 4, 5] rfl)
  · skip
    refine lv_iload_n (pc := 69) C0.1 C0.2.1 dX0_uppermost_69 rfl (lv_at hl 2 rfl) ?_
    exact x_iret (pc := 70) C0 hK hk hr hw (congrArg (fun z => (z, u)) (Option.some.inj hf)) dX0_uppermost_70
def wX0_lyingOn : List Cond := .code yX0_lyingOn cX0_lyingOn 4 (some .int) :: lwT
def rX0_lyingOn : Room := { frames := 1, cells := 0, slots := 0, locals := 21 }
set_option maxRecDepth 100000 in
set_option maxHeartbeats 4000000 in
theorem kX0_lyingOn (l : Launch) (D : va_G) (y : Nat → ClassId) (ad : Nat → Nat) (hI : XI ad 168) (v0 : Nat) (hv0 : v0 < 11) (v1 : Int32) (u : S) {o : Int32} (hf : fX0_lyingOn v0 v1 u = some o) : Met l yX0_lyingOn wX0_lyingOn rX0_lyingOn (va_Pc [.ref (ad (132 + v0)), .int v1] (XW D y ad LX 168 u)) (XQi D y ad LX 168 (o, u)) 0 0 (XA ad 168) := by
  refine x_met (bytes := cX0_lyingOn) (maxL := 4) (ret := (some .int)) (own := RX0) (by decide) rfl rfl (Nat.le_of_ble_eq_true rfl) (fun p e s m below meth c ls C0 hK hk hr hw hl => ?_)
  have hl : lv_has ls 4 [(0, .ref (ad (132 + v0))), (1, .int v1)] := hl
  unfold fX0_lyingOn at hf
  refine lv_iconst (v := 0) (pc := 0) C0.1 C0.2.1 dX0_lyingOn_0 (by decide) ?_
  refine lv_istore_n (pc := 1) (lv' := [(2, .int 0), (0, .ref (ad (132 + v0))), (1, .int v1)]) C0.1 C0.2.1 dX0_lyingOn_1 rfl hl (by decide) rfl (fun ls hl => ?_)
  refine lv_iconst (v := 0) (pc := 2) C0.1 C0.2.1 dX0_lyingOn_2 (by decide) ?_
  refine lv_istore_n (pc := 3) (lv' := [(3, .int 0), (2, .int 0), (0, .ref (ad (132 + v0))), (1, .int v1)]) C0.1 C0.2.1 dX0_lyingOn_3 rfl hl (by decide) rfl (fun ls hl => ?_)
  obtain ⟨e1, he1, hf⟩ := bd_e hf
  refine X_loop (pc := 4) (xpc := 42) (fu := fun a1 => u) (fl := fun a1 => [(3, .int a1.2), (2, .int a1.1), (0, .ref (ad (132 + v0))), (1, .int v1)]) (fun a1 r hf hE hG H locs ls hw hl => ?_) he1 (fun H locs ls hw hl => ?_) hw hl
  · unfold gX0_lyingOn_4 at hf
    refine lv_iload_n (pc := 4) C0.1 C0.2.1 dX0_lyingOn_4 rfl (lv_at hl 0 rfl) ?_
    refine lv_aload_n (pc := 5) C0.1 C0.2.1 dX0_lyingOn_5 rfl (lv_at hl 2 rfl) ?_
    refine x_get (pc := 6) (v := .int (u.1 (132 + v0) 4)) C0 hK hw (jy_B hv0) (ly_B hv0) rfl inX0 4 (by decide) wf_X0_35 rfl rfl dX0_lyingOn_6 ?_
    refine lv_icmp_ge (tgt := 42) (pc := 9) C0.1 C0.2.1 dX0_lyingOn_9 (by decide) (fun hc => ?_) (fun hc => ?_)
    · have hf := if_t hf hc
      exact hE _ (Option.some.inj hf).symm H locs ls hw (lv_sub hl [0, 1, 2, 3] rfl)
    · have hf := if_f hf hc
      refine lv_aload_n (pc := 12) C0.1 C0.2.1 dX0_lyingOn_12 rfl (lv_at hl 2 rfl) ?_
      refine x_get (pc := 13) (v := .ref (ad (143 + v0))) C0 hK hw (jy_B hv0) (ly_B hv0) rfl inX0 5 (by decide) wf_X0_26 rfl rfl dX0_lyingOn_13 ?_
      refine lv_iload_n (pc := 16) C0.1 C0.2.1 dX0_lyingOn_16 rfl (lv_at hl 0 rfl) ?_
      obtain ⟨hi, hf⟩ := gd_e hf
      have hT2 : 12 * v0 + a1.2.toNatClampNeg < 132 := tb hv0 (inb_lt hi)
      refine x_aldT (pc := 17) (t := 12 * v0 + a1.2.toNatClampNeg) C0 hK hw (jy_R hv0) (ly_R hv0) hi rfl dX0_lyingOn_17 ?_
      refine lv_aload_n (pc := 18) C0.1 C0.2.1 dX0_lyingOn_18 rfl (lv_at hl 2 rfl) ?_
      refine x_get (pc := 19) (v := .ref (ad (143 + v0))) C0 hK hw (jy_B hv0) (ly_B hv0) rfl inX0 5 (by decide) wf_X0_26 rfl rfl dX0_lyingOn_19 ?_
      refine lv_iload_n (pc := 22) C0.1 C0.2.1 dX0_lyingOn_22 rfl (lv_at hl 3 rfl) ?_
      obtain ⟨hi, hf⟩ := gd_e hf
      have hT3 : 12 * v0 + v1.toNatClampNeg < 132 := tb hv0 (inb_lt hi)
      refine x_aldT (pc := 23) (t := 12 * v0 + v1.toNatClampNeg) C0 hK hw (jy_R hv0) (ly_R hv0) hi rfl dX0_lyingOn_23 ?_
      obtain ⟨q4, hq4, hf⟩ := bd_e hf
      refine x_backp (pc := 24) hw (x_runV (pc := 24) (As := [.ref (ad (12 * v0 + v1.toNatClampNeg))]) (rest := []) C0 hK hw hl.1 ⟨Nat.zero_le _, Nat.zero_le _⟩ (kX5_liesOn l D y ad hI (12 * v0 + a1.2.toNatClampNeg) hT2 (12 * v0 + v1.toNatClampNeg) hT3 u hq4) (jy_T hT2) (ly_T hT2) rfl rfl wc_X5_liesOn wm_X0_71 wi_X5_liesOn ws_X5_liesOn wn_X5 ⟨rfl, rfl⟩ hd_X5_liesOn rfl ⟨Nat.le_of_ble_eq_true rfl, Nat.le_of_ble_eq_true rfl⟩ (Nat.le_of_ble_eq_true rfl) dX0_lyingOn_24) (fun H locs hw => ?_)
      refine lv_if_eq (tgt := 36) (pc := 27) C0.1 C0.2.1 dX0_lyingOn_27 (by decide) (fun hc => ?_) (fun hc => ?_)
      · have hf := if_t hf hc
        refine lv_iinc (pc := 36) (v := a1.2 + 1) (lv' := [(3, .int (a1.2 + 1)), (2, .int a1.1), (0, .ref (ad (132 + v0))), (1, .int v1)]) C0.1 C0.2.1 dX0_lyingOn_36 hl (k := 0) rfl rfl (by decide) rfl (fun ls hl => ?_)
        refine lv_goto (tgt := 4) (pc := 39) C0.1 C0.2.1 dX0_lyingOn_39 (by decide) ?_
        exact hG _ (Option.some.inj hf).symm H locs ls hw (lv_sub hl [0, 1, 2, 3] rfl)
      · have hf := if_f hf hc
        refine lv_iload_n (pc := 30) C0.1 C0.2.1 dX0_lyingOn_30 rfl (lv_at hl 1 rfl) ?_
        refine lv_iconst (v := 1) (pc := 31) C0.1 C0.2.1 dX0_lyingOn_31 (by decide) ?_
        refine lv_iload_n (pc := 32) C0.1 C0.2.1 dX0_lyingOn_32 rfl (lv_at hl 0 rfl) ?_
        refine lv_ishl (pc := 33) C0.1 C0.2.1 dX0_lyingOn_33 ?_
        refine lv_ior (pc := 34) C0.1 C0.2.1 dX0_lyingOn_34 ?_
        refine lv_istore_n (pc := 35) (lv' := [(2, .int (a1.1 ||| (1 <<< (a1.2 &&& 31)))), (3, .int a1.2), (0, .ref (ad (132 + v0))), (1, .int v1)]) C0.1 C0.2.1 dX0_lyingOn_35 rfl hl (by decide) rfl (fun ls hl => ?_)
        refine lv_iinc (pc := 36) (v := a1.2 + 1) (lv' := [(3, .int (a1.2 + 1)), (2, .int (a1.1 ||| (1 <<< (a1.2 &&& 31)))), (0, .ref (ad (132 + v0))), (1, .int v1)]) C0.1 C0.2.1 dX0_lyingOn_36 hl (k := 1) rfl rfl (by decide) rfl (fun ls hl => ?_)
        refine lv_goto (tgt := 4) (pc := 39) C0.1 C0.2.1 dX0_lyingOn_39 (by decide) ?_
        exact hG _ (Option.some.inj hf).symm H locs ls hw (lv_sub hl [0, 1, 2, 3] rfl)
  · skip
    refine lv_iload_n (pc := 42) C0.1 C0.2.1 dX0_lyingOn_42 rfl (lv_at hl 1 rfl) ?_
    exact x_iret (pc := 43) C0 hK hk hr hw (congrArg (fun z => (z, u)) (Option.some.inj hf)) dX0_lyingOn_43
def wX0_isFree : List Cond := .code yX0_isFree cX0_isFree 2 (some .boolean) :: lwT
def rX0_isFree : Room := { frames := 2, cells := 0, slots := 0, locals := 44 }
set_option maxRecDepth 100000 in
set_option maxHeartbeats 4000000 in
theorem kX0_isFree (l : Launch) (D : va_G) (y : Nat → ClassId) (ad : Nat → Nat) (hI : XI ad 168) (v0 : Nat) (hv0 : v0 < 11) (v1 : Int32) (u : S) {o : Int32} (hf : fX0_isFree v0 v1 u = some o) : Met l yX0_isFree wX0_isFree rX0_isFree (va_Pc [.ref (ad (132 + v0)), .int v1] (XW D y ad LX 168 u)) (XQi D y ad LX 168 (o, u)) 0 0 (XA ad 168) := by
  refine x_met (bytes := cX0_isFree) (maxL := 2) (ret := (some .boolean)) (own := RX0) (by decide) rfl rfl (Nat.le_of_ble_eq_true rfl) (fun p e s m below meth c ls C0 hK hk hr hw hl => ?_)
  have hl : lv_has ls 2 [(0, .ref (ad (132 + v0))), (1, .int v1)] := hl
  unfold fX0_isFree at hf
  refine lv_aload_n (pc := 0) C0.1 C0.2.1 dX0_isFree_0 rfl (lv_at hl 0 rfl) ?_
  refine lv_iload_n (pc := 1) C0.1 C0.2.1 dX0_isFree_1 rfl (lv_at hl 1 rfl) ?_
  obtain ⟨q1, hq1, hf⟩ := bd_e hf
  refine x_backp (pc := 2) hw (x_runV (pc := 2) (As := [.int v1]) (rest := []) C0 hK hw hl.1 ⟨Nat.zero_le _, Nat.zero_le _⟩ (kX0_lyingOn l D y ad hI v0 hv0 v1 u hq1) (jy_B hv0) (ly_B hv0) rfl rfl wc_X0_lyingOn wm_X0_67 wi_X0_lyingOn ws_X0_lyingOn wn_X0 ⟨rfl, rfl⟩ hd_X0_lyingOn rfl ⟨Nat.le_of_ble_eq_true rfl, Nat.le_of_ble_eq_true rfl⟩ (Nat.le_of_ble_eq_true rfl) dX0_isFree_2) (fun H locs hw => ?_)
  refine lv_if_ne (tgt := 12) (pc := 5) C0.1 C0.2.1 dX0_isFree_5 (by decide) (fun hc => ?_) (fun hc => ?_)
  · have hf := if_f hf hc
    refine lv_iconst (v := 0) (pc := 12) C0.1 C0.2.1 dX0_isFree_12 (by decide) ?_
    exact x_zret (pc := 13) C0 hK hk hr hw rfl (congrArg (fun z => (z, u)) (Option.some.inj hf)) dX0_isFree_13
  · have hf := if_t hf hc
    refine lv_iconst (v := 1) (pc := 8) C0.1 C0.2.1 dX0_isFree_8 (by decide) ?_
    refine lv_goto (tgt := 13) (pc := 9) C0.1 C0.2.1 dX0_isFree_9 (by decide) ?_
    exact x_zret (pc := 13) C0 hK hk hr hw rfl (congrArg (fun z => (z, u)) (Option.some.inj hf)) dX0_isFree_13
def wX0_above : List Cond := .code yX0_above cX0_above 8 (some .int) :: lwT
def rX0_above : Room := { frames := 2, cells := 0, slots := 0, locals := 44 }
set_option maxRecDepth 100000 in
set_option maxHeartbeats 4000000 in
theorem kX0_above (l : Launch) (D : va_G) (y : Nat → ClassId) (ad : Nat → Nat) (hI : XI ad 168) (v0 : Nat) (hv0 : v0 < 11) (v1 : Int32) (v2 : Int32) (u : S) {o : Int32} (hf : fX0_above v0 v1 v2 u = some o) : Met l yX0_above wX0_above rX0_above (va_Pc [.ref (ad (132 + v0)), .int v1, .int v2] (XW D y ad LX 168 u)) (XQi D y ad LX 168 (o, u)) 0 0 (XA ad 168) := by
  refine x_met (bytes := cX0_above) (maxL := 8) (ret := (some .int)) (own := RX0) (by decide) rfl rfl (Nat.le_of_ble_eq_true rfl) (fun p e s m below meth c ls C0 hK hk hr hw hl => ?_)
  have hl : lv_has ls 8 [(0, .ref (ad (132 + v0))), (1, .int v1), (2, .int v2)] := hl
  unfold fX0_above at hf
  refine lv_iconst (v := 0) (pc := 0) C0.1 C0.2.1 dX0_above_0 (by decide) ?_
  refine lv_istore_n (pc := 1) (lv' := [(3, .int 0), (0, .ref (ad (132 + v0))), (1, .int v1), (2, .int v2)]) C0.1 C0.2.1 dX0_above_1 rfl hl (by decide) rfl (fun ls hl => ?_)
  refine lv_aload_n (pc := 2) C0.1 C0.2.1 dX0_above_2 rfl (lv_at hl 1 rfl) ?_
  refine lv_iload_n (pc := 3) C0.1 C0.2.1 dX0_above_3 rfl (lv_at hl 2 rfl) ?_
  obtain ⟨q1, hq1, hf⟩ := bd_e hf
  refine x_backp (pc := 4) hw (x_runV (pc := 4) (As := [.int v1]) (rest := []) C0 hK hw hl.1 ⟨Nat.zero_le _, Nat.zero_le _⟩ (kX0_lyingOn l D y ad hI v0 hv0 v1 u hq1) (jy_B hv0) (ly_B hv0) rfl rfl wc_X0_lyingOn wm_X0_67 wi_X0_lyingOn ws_X0_lyingOn wn_X0 ⟨rfl, rfl⟩ hd_X0_lyingOn rfl ⟨Nat.le_of_ble_eq_true rfl, Nat.le_of_ble_eq_true rfl⟩ (Nat.le_of_ble_eq_true rfl) dX0_above_4) (fun H locs hw => ?_)
  refine lv_iload_n (pc := 7) C0.1 C0.2.1 dX0_above_7 rfl (lv_at hl 3 rfl) ?_
  refine lv_iand (pc := 8) C0.1 C0.2.1 dX0_above_8 ?_
  refine lv_istore (pc := 9) (lv' := [(4, .int (q1 &&& v2)), (3, .int 0), (0, .ref (ad (132 + v0))), (1, .int v1), (2, .int v2)]) C0.1 C0.2.1 dX0_above_9 hl (by decide) rfl (fun ls hl => ?_)
  refine lv_iconst (v := 0) (pc := 11) C0.1 C0.2.1 dX0_above_11 (by decide) ?_
  refine lv_istore (pc := 12) (lv' := [(5, .int 0), (4, .int (q1 &&& v2)), (3, .int 0), (0, .ref (ad (132 + v0))), (1, .int v1), (2, .int v2)]) C0.1 C0.2.1 dX0_above_12 hl (by decide) rfl (fun ls hl => ?_)
  obtain ⟨e2, he2, hf⟩ := bd_e hf
  refine X_loop (pc := 14) (xpc := 85) (fu := fun a1 => u) (fl := fun a1 => [(5, .int a1.2.2), (4, .int a1.2.1), (3, .int a1.1), (0, .ref (ad (132 + v0))), (1, .int v1), (2, .int v2)]) (fun a1 r hf hE hG H locs ls hw hl => ?_) he2 (fun H locs ls hw hl => ?_) hw hl
  · unfold gX0_above_14 at hf
    refine lv_iload (pc := 14) C0.1 C0.2.1 dX0_above_14 (lv_at hl 0 rfl) ?_
    refine lv_bipush (v := 12) (pc := 16) C0.1 C0.2.1 dX0_above_16 (by decide) ?_
    refine lv_icmp_ge (tgt := 85) (pc := 18) C0.1 C0.2.1 dX0_above_18 (by decide) (fun hc => ?_) (fun hc => ?_)
    · have hf := if_t hf hc
      exact hE _ (Option.some.inj hf).symm H locs ls hw (lv_sub hl [0, 1, 2, 3, 4, 5] rfl)
    · have hf := if_f hf hc
      refine lv_iload (pc := 21) C0.1 C0.2.1 dX0_above_21 (lv_at hl 1 rfl) ?_
      refine lv_iload_n (pc := 23) C0.1 C0.2.1 dX0_above_23 rfl (lv_at hl 2 rfl) ?_
      refine lv_icmp_eq (tgt := 85) (pc := 24) C0.1 C0.2.1 dX0_above_24 (by decide) (fun hc => ?_) (fun hc => ?_)
      · have hf := if_t hf hc
        exact hE _ (Option.some.inj hf).symm H locs ls hw (lv_sub hl [0, 1, 2, 3, 4, 5] rfl)
      · have hf := if_f hf hc
        refine lv_iload (pc := 27) C0.1 C0.2.1 dX0_above_27 (lv_at hl 1 rfl) ?_
        refine lv_iload_n (pc := 29) C0.1 C0.2.1 dX0_above_29 rfl (lv_at hl 2 rfl) ?_
        refine lv_iconst (v := (-1)) (pc := 30) C0.1 C0.2.1 dX0_above_30 (by decide) ?_
        refine lv_ixor (pc := 31) C0.1 C0.2.1 dX0_above_31 ?_
        refine lv_iand (pc := 32) C0.1 C0.2.1 dX0_above_32 ?_
        refine lv_istore (pc := 33) (lv' := [(6, .int (a1.2.1 &&& (a1.1 ^^^ (-1)))), (5, .int a1.2.2), (4, .int a1.2.1), (3, .int a1.1), (0, .ref (ad (132 + v0))), (1, .int v1), (2, .int v2)]) C0.1 C0.2.1 dX0_above_33 hl (by decide) rfl (fun ls hl => ?_)
        refine lv_iload (pc := 35) C0.1 C0.2.1 dX0_above_35 (lv_at hl 2 rfl) ?_
        refine lv_istore_n (pc := 37) (lv' := [(3, .int a1.2.1), (6, .int (a1.2.1 &&& (a1.1 ^^^ (-1)))), (5, .int a1.2.2), (4, .int a1.2.1), (0, .ref (ad (132 + v0))), (1, .int v1), (2, .int v2)]) C0.1 C0.2.1 dX0_above_37 rfl hl (by decide) rfl (fun ls hl => ?_)
        refine lv_iconst (v := 0) (pc := 38) C0.1 C0.2.1 dX0_above_38 (by decide) ?_
        refine lv_istore (pc := 39) (lv' := [(7, .int 0), (3, .int a1.2.1), (6, .int (a1.2.1 &&& (a1.1 ^^^ (-1)))), (5, .int a1.2.2), (4, .int a1.2.1), (0, .ref (ad (132 + v0))), (1, .int v1), (2, .int v2)]) C0.1 C0.2.1 dX0_above_39 hl (by decide) rfl (fun ls hl => ?_)
        obtain ⟨e3, he3, hf⟩ := bd_e hf
        refine X_loop (pc := 41) (xpc := 79) (fu := fun a2 => u) (fl := fun a2 => [(7, .int a2.2), (3, .int a1.2.1), (6, .int (a1.2.1 &&& (a1.1 ^^^ (-1)))), (5, .int a1.2.2), (4, .int a2.1), (0, .ref (ad (132 + v0))), (1, .int v1), (2, .int v2)]) (fun a2 r hf hE hG H locs ls hw hl => ?_) he3 (fun H locs ls hw hl => ?_) hw hl
        · unfold gX0_above_41 at hf
          refine lv_iload (pc := 41) C0.1 C0.2.1 dX0_above_41 (lv_at hl 0 rfl) ?_
          refine lv_aload_n (pc := 43) C0.1 C0.2.1 dX0_above_43 rfl (lv_at hl 5 rfl) ?_
          refine x_get (pc := 44) (v := .int (u.1 (132 + v0) 4)) C0 hK hw (jy_B hv0) (ly_B hv0) rfl inX0 4 (by decide) wf_X0_35 rfl rfl dX0_above_44 ?_
          refine lv_icmp_ge (tgt := 79) (pc := 47) C0.1 C0.2.1 dX0_above_47 (by decide) (fun hc => ?_) (fun hc => ?_)
          · have hf := if_t hf hc
            exact hE _ (Option.some.inj hf).symm H locs ls hw (lv_sub hl [0, 1, 2, 3, 4, 5, 6, 7] rfl)
          · have hf := if_f hf hc
            refine lv_iload (pc := 50) C0.1 C0.2.1 dX0_above_50 (lv_at hl 2 rfl) ?_
            refine lv_iconst (v := 1) (pc := 52) C0.1 C0.2.1 dX0_above_52 (by decide) ?_
            refine lv_iload (pc := 53) C0.1 C0.2.1 dX0_above_53 (lv_at hl 0 rfl) ?_
            refine lv_ishl (pc := 55) C0.1 C0.2.1 dX0_above_55 ?_
            refine lv_iand (pc := 56) C0.1 C0.2.1 dX0_above_56 ?_
            refine lv_if_eq (tgt := 73) (pc := 57) C0.1 C0.2.1 dX0_above_57 (by decide) (fun hc => ?_) (fun hc => ?_)
            · have hf := if_t hf hc
              refine lv_iinc (pc := 73) (v := a2.2 + 1) (lv' := [(7, .int (a2.2 + 1)), (3, .int a1.2.1), (6, .int (a1.2.1 &&& (a1.1 ^^^ (-1)))), (5, .int a1.2.2), (4, .int a2.1), (0, .ref (ad (132 + v0))), (1, .int v1), (2, .int v2)]) C0.1 C0.2.1 dX0_above_73 hl (k := 0) rfl rfl (by decide) rfl (fun ls hl => ?_)
              refine lv_goto (tgt := 41) (pc := 76) C0.1 C0.2.1 dX0_above_76 (by decide) ?_
              exact hG _ (Option.some.inj hf).symm H locs ls hw (lv_sub hl [0, 1, 2, 3, 4, 5, 6, 7] rfl)
            · have hf := if_f hf hc
              refine lv_iload (pc := 60) C0.1 C0.2.1 dX0_above_60 (lv_at hl 4 rfl) ?_
              refine lv_aload_n (pc := 62) C0.1 C0.2.1 dX0_above_62 rfl (lv_at hl 5 rfl) ?_
              refine lv_iload (pc := 63) C0.1 C0.2.1 dX0_above_63 (lv_at hl 0 rfl) ?_
              obtain ⟨q4, hq4, hf⟩ := bd_e hf
              refine x_backp (pc := 65) hw (x_runV (pc := 65) (As := [.int a2.2]) (rest := [.int a2.1]) C0 hK hw hl.1 ⟨Nat.zero_le _, Nat.zero_le _⟩ (kX0_lyingOn l D y ad hI v0 hv0 a2.2 u hq4) (jy_B hv0) (ly_B hv0) rfl rfl wc_X0_lyingOn wm_X0_67 wi_X0_lyingOn ws_X0_lyingOn wn_X0 ⟨rfl, rfl⟩ hd_X0_lyingOn rfl ⟨Nat.le_of_ble_eq_true rfl, Nat.le_of_ble_eq_true rfl⟩ (Nat.le_of_ble_eq_true rfl) dX0_above_65) (fun H locs hw => ?_)
              refine lv_iload_n (pc := 68) C0.1 C0.2.1 dX0_above_68 rfl (lv_at hl 7 rfl) ?_
              refine lv_iand (pc := 69) C0.1 C0.2.1 dX0_above_69 ?_
              refine lv_ior (pc := 70) C0.1 C0.2.1 dX0_above_70 ?_
              refine lv_istore (pc := 71) (lv' := [(4, .int (a2.1 ||| (q4 &&& v2))), (7, .int a2.2), (3, .int a1.2.1), (6, .int (a1.2.1 &&& (a1.1 ^^^ (-1)))), (5, .int a1.2.2), (0, .ref (ad (132 + v0))), (1, .int v1), (2, .int v2)]) C0.1 C0.2.1 dX0_above_71 hl (by decide) rfl (fun ls hl => ?_)
              refine lv_iinc (pc := 73) (v := a2.2 + 1) (lv' := [(7, .int (a2.2 + 1)), (4, .int (a2.1 ||| (q4 &&& v2))), (3, .int a1.2.1), (6, .int (a1.2.1 &&& (a1.1 ^^^ (-1)))), (5, .int a1.2.2), (0, .ref (ad (132 + v0))), (1, .int v1), (2, .int v2)]) C0.1 C0.2.1 dX0_above_73 hl (k := 1) rfl rfl (by decide) rfl (fun ls hl => ?_)
              refine lv_goto (tgt := 41) (pc := 76) C0.1 C0.2.1 dX0_above_76 (by decide) ?_
              exact hG _ (Option.some.inj hf).symm H locs ls hw (lv_sub hl [0, 2, 3, 4, 1, 5, 6, 7] rfl)
        · skip
          refine lv_iinc (pc := 79) (v := a1.2.2 + 1) (lv' := [(5, .int (a1.2.2 + 1)), (7, .int e3.2), (3, .int a1.2.1), (6, .int (a1.2.1 &&& (a1.1 ^^^ (-1)))), (4, .int e3.1), (0, .ref (ad (132 + v0))), (1, .int v1), (2, .int v2)]) C0.1 C0.2.1 dX0_above_79 hl (k := 3) rfl rfl (by decide) rfl (fun ls hl => ?_)
          refine lv_goto (tgt := 14) (pc := 82) C0.1 C0.2.1 dX0_above_82 (by decide) ?_
          exact hG _ (Option.some.inj hf).symm H locs ls hw (lv_sub hl [0, 4, 2, 5, 6, 7] rfl)
  · skip
    refine lv_iload (pc := 85) C0.1 C0.2.1 dX0_above_85 (lv_at hl 1 rfl) ?_
    exact x_iret (pc := 87) C0 hK hk hr hw (congrArg (fun z => (z, u)) (Option.some.inj hf)) dX0_above_87
def wX0_lateOnes : List Cond := .code yX0_lateOnes cX0_lateOnes 5 (some .int) :: lwT
def rX0_lateOnes : Room := { frames := 0, cells := 0, slots := 0, locals := 0 }
set_option maxRecDepth 100000 in
set_option maxHeartbeats 4000000 in
theorem kX0_lateOnes (l : Launch) (D : va_G) (y : Nat → ClassId) (ad : Nat → Nat) (hI : XI ad 168) (v0 : Nat) (hv0 : v0 < 11) (v1 : Int32) (v2 : Int32) (u : S) {o : Int32} (hf : fX0_lateOnes v0 v1 v2 u = some o) : Met l yX0_lateOnes wX0_lateOnes rX0_lateOnes (va_Pc [.ref (ad (132 + v0)), .int v1, .int v2] (XW D y ad LX 168 u)) (XQi D y ad LX 168 (o, u)) 0 0 (XA ad 168) := by
  refine x_met (bytes := cX0_lateOnes) (maxL := 5) (ret := (some .int)) (own := RX0) (by decide) rfl rfl (Nat.le_of_ble_eq_true rfl) (fun p e s m below meth c ls C0 hK hk hr hw hl => ?_)
  have hl : lv_has ls 5 [(0, .ref (ad (132 + v0))), (1, .int v1), (2, .int v2)] := hl
  unfold fX0_lateOnes at hf
  refine lv_iconst (v := 0) (pc := 0) C0.1 C0.2.1 dX0_lateOnes_0 (by decide) ?_
  refine lv_istore_n (pc := 1) (lv' := [(3, .int 0), (0, .ref (ad (132 + v0))), (1, .int v1), (2, .int v2)]) C0.1 C0.2.1 dX0_lateOnes_1 rfl hl (by decide) rfl (fun ls hl => ?_)
  refine lv_iconst (v := 0) (pc := 2) C0.1 C0.2.1 dX0_lateOnes_2 (by decide) ?_
  refine lv_istore (pc := 3) (lv' := [(4, .int 0), (3, .int 0), (0, .ref (ad (132 + v0))), (1, .int v1), (2, .int v2)]) C0.1 C0.2.1 dX0_lateOnes_3 hl (by decide) rfl (fun ls hl => ?_)
  obtain ⟨e1, he1, hf⟩ := bd_e hf
  refine X_loop (pc := 5) (xpc := 46) (fu := fun a1 => u) (fl := fun a1 => [(4, .int a1.2), (3, .int a1.1), (0, .ref (ad (132 + v0))), (1, .int v1), (2, .int v2)]) (fun a1 r hf hE hG H locs ls hw hl => ?_) he1 (fun H locs ls hw hl => ?_) hw hl
  · unfold gX0_lateOnes_5 at hf
    refine lv_iload (pc := 5) C0.1 C0.2.1 dX0_lateOnes_5 (lv_at hl 0 rfl) ?_
    refine lv_aload_n (pc := 7) C0.1 C0.2.1 dX0_lateOnes_7 rfl (lv_at hl 2 rfl) ?_
    refine x_get (pc := 8) (v := .int (u.1 (132 + v0) 4)) C0 hK hw (jy_B hv0) (ly_B hv0) rfl inX0 4 (by decide) wf_X0_35 rfl rfl dX0_lateOnes_8 ?_
    refine lv_icmp_ge (tgt := 46) (pc := 11) C0.1 C0.2.1 dX0_lateOnes_11 (by decide) (fun hc => ?_) (fun hc => ?_)
    · have hf := if_t hf hc
      exact hE _ (Option.some.inj hf).symm H locs ls hw (lv_sub hl [0, 1, 2, 3, 4] rfl)
    · have hf := if_f hf hc
      refine lv_iload_n (pc := 14) C0.1 C0.2.1 dX0_lateOnes_14 rfl (lv_at hl 3 rfl) ?_
      refine lv_iconst (v := 1) (pc := 15) C0.1 C0.2.1 dX0_lateOnes_15 (by decide) ?_
      refine lv_iload (pc := 16) C0.1 C0.2.1 dX0_lateOnes_16 (lv_at hl 0 rfl) ?_
      refine lv_ishl (pc := 18) C0.1 C0.2.1 dX0_lateOnes_18 ?_
      refine lv_iand (pc := 19) C0.1 C0.2.1 dX0_lateOnes_19 ?_
      refine lv_if_eq (tgt := 40) (pc := 20) C0.1 C0.2.1 dX0_lateOnes_20 (by decide) (fun hc => ?_) (fun hc => ?_)
      · have hf := if_t hf hc
        refine lv_iinc (pc := 40) (v := a1.2 + 1) (lv' := [(4, .int (a1.2 + 1)), (3, .int a1.1), (0, .ref (ad (132 + v0))), (1, .int v1), (2, .int v2)]) C0.1 C0.2.1 dX0_lateOnes_40 hl (k := 0) rfl rfl (by decide) rfl (fun ls hl => ?_)
        refine lv_goto (tgt := 5) (pc := 43) C0.1 C0.2.1 dX0_lateOnes_43 (by decide) ?_
        exact hG _ (Option.some.inj hf).symm H locs ls hw (lv_sub hl [0, 1, 2, 3, 4] rfl)
      · have hf := if_f hf hc
        refine lv_aload_n (pc := 23) C0.1 C0.2.1 dX0_lateOnes_23 rfl (lv_at hl 2 rfl) ?_
        refine x_get (pc := 24) (v := .ref (ad (143 + v0))) C0 hK hw (jy_B hv0) (ly_B hv0) rfl inX0 5 (by decide) wf_X0_26 rfl rfl dX0_lateOnes_24 ?_
        refine lv_iload (pc := 27) C0.1 C0.2.1 dX0_lateOnes_27 (lv_at hl 0 rfl) ?_
        obtain ⟨hi, hf⟩ := gd_e hf
        have hT2 : 12 * v0 + a1.2.toNatClampNeg < 132 := tb hv0 (inb_lt hi)
        refine x_aldT (pc := 29) (t := 12 * v0 + a1.2.toNatClampNeg) C0 hK hw (jy_R hv0) (ly_R hv0) hi rfl dX0_lateOnes_29 ?_
        refine x_get (pc := 30) (v := .int (u.1 (12 * v0 + a1.2.toNatClampNeg) 3)) C0 hK hw (jy_T hT2) (ly_T hT2) rfl inX5 3 (by decide) wf_X0_81 rfl rfl dX0_lateOnes_30 ?_
        refine lv_iload_n (pc := 33) C0.1 C0.2.1 dX0_lateOnes_33 rfl (lv_at hl 4 rfl) ?_
        refine lv_icmp_le (tgt := 40) (pc := 34) C0.1 C0.2.1 dX0_lateOnes_34 (by decide) (fun hc => ?_) (fun hc => ?_)
        · have hf := if_t hf hc
          refine lv_iinc (pc := 40) (v := a1.2 + 1) (lv' := [(4, .int (a1.2 + 1)), (3, .int a1.1), (0, .ref (ad (132 + v0))), (1, .int v1), (2, .int v2)]) C0.1 C0.2.1 dX0_lateOnes_40 hl (k := 0) rfl rfl (by decide) rfl (fun ls hl => ?_)
          refine lv_goto (tgt := 5) (pc := 43) C0.1 C0.2.1 dX0_lateOnes_43 (by decide) ?_
          exact hG _ (Option.some.inj hf).symm H locs ls hw (lv_sub hl [0, 1, 2, 3, 4] rfl)
        · have hf := if_f hf hc
          refine lv_iinc (pc := 37) (v := a1.1 + 1) (lv' := [(3, .int (a1.1 + 1)), (4, .int a1.2), (0, .ref (ad (132 + v0))), (1, .int v1), (2, .int v2)]) C0.1 C0.2.1 dX0_lateOnes_37 hl (k := 1) rfl rfl (by decide) rfl (fun ls hl => ?_)
          refine lv_iinc (pc := 40) (v := a1.2 + 1) (lv' := [(4, .int (a1.2 + 1)), (3, .int (a1.1 + 1)), (0, .ref (ad (132 + v0))), (1, .int v1), (2, .int v2)]) C0.1 C0.2.1 dX0_lateOnes_40 hl (k := 1) rfl rfl (by decide) rfl (fun ls hl => ?_)
          refine lv_goto (tgt := 5) (pc := 43) C0.1 C0.2.1 dX0_lateOnes_43 (by decide) ?_
          exact hG _ (Option.some.inj hf).symm H locs ls hw (lv_sub hl [0, 1, 2, 3, 4] rfl)
  · skip
    refine lv_iload_n (pc := 46) C0.1 C0.2.1 dX0_lateOnes_46 rfl (lv_at hl 1 rfl) ?_
    exact x_iret (pc := 47) C0 hK hk hr hw (congrArg (fun z => (z, u)) (Option.some.inj hf)) dX0_lateOnes_47
def wX0_faultOf : List Cond := .code yX0_faultOf cX0_faultOf 2 (some .int) :: lwT
def rX0_faultOf : Room := { frames := 3, cells := 0, slots := 0, locals := 71 }
set_option maxRecDepth 100000 in
set_option maxHeartbeats 4000000 in
theorem kX0_faultOf (l : Launch) (D : va_G) (y : Nat → ClassId) (ad : Nat → Nat) (hI : XI ad 168) (v0 : Nat) (hv0 : v0 < 11) (v1 : Int32) (u : S) {o : Int32} (hf : fX0_faultOf v0 v1 u = some o) : Met l yX0_faultOf wX0_faultOf rX0_faultOf (va_Pc [.ref (ad (132 + v0)), .int v1] (XW D y ad LX 168 u)) (XQi D y ad LX 168 (o, u)) 0 0 (XA ad 168) := by
  refine x_met (bytes := cX0_faultOf) (maxL := 2) (ret := (some .int)) (own := RX0) (by decide) rfl rfl (Nat.le_of_ble_eq_true rfl) (fun p e s m below meth c ls C0 hK hk hr hw hl => ?_)
  have hl : lv_has ls 2 [(0, .ref (ad (132 + v0))), (1, .int v1)] := hl
  unfold fX0_faultOf at hf
  refine lv_aload_n (pc := 0) C0.1 C0.2.1 dX0_faultOf_0 rfl (lv_at hl 0 rfl) ?_
  refine lv_aload_n (pc := 1) C0.1 C0.2.1 dX0_faultOf_1 rfl (lv_at hl 0 rfl) ?_
  refine lv_iload_n (pc := 2) C0.1 C0.2.1 dX0_faultOf_2 rfl (lv_at hl 1 rfl) ?_
  refine lv_aload_n (pc := 3) C0.1 C0.2.1 dX0_faultOf_3 rfl (lv_at hl 0 rfl) ?_
  obtain ⟨q1, hq1, hf⟩ := bd_e hf
  refine x_backp (pc := 4) hw (x_runV (pc := 4) (As := []) (rest := [.int v1, .ref (ad (132 + v0)), .ref (ad (132 + v0))]) C0 hK hw hl.1 ⟨Nat.zero_le _, Nat.zero_le _⟩ (kX0_inside l D y ad hI v0 hv0 u hq1) (jy_B hv0) (ly_B hv0) rfl rfl wc_X0_inside wm_X0_75 wi_X0_inside ws_X0_inside wn_X0 ⟨rfl, rfl⟩ hd_X0_inside rfl ⟨Nat.le_of_ble_eq_true rfl, Nat.le_of_ble_eq_true rfl⟩ (Nat.le_of_ble_eq_true rfl) dX0_faultOf_4) (fun H locs hw => ?_)
  obtain ⟨q2, hq2, hf⟩ := bd_e hf
  refine x_backp (pc := 7) hw (x_runV (pc := 7) (As := [.int v1, .int q1]) (rest := [.ref (ad (132 + v0))]) C0 hK hw hl.1 ⟨Nat.zero_le _, Nat.zero_le _⟩ (kX0_above l D y ad hI v0 hv0 v1 q1 u hq2) (jy_B hv0) (ly_B hv0) rfl rfl wc_X0_above wm_X0_77 wi_X0_above ws_X0_above wn_X0 ⟨rfl, rfl⟩ hd_X0_above rfl ⟨Nat.le_of_ble_eq_true rfl, Nat.le_of_ble_eq_true rfl⟩ (Nat.le_of_ble_eq_true rfl) dX0_faultOf_7) (fun H locs hw => ?_)
  refine lv_aload_n (pc := 10) C0.1 C0.2.1 dX0_faultOf_10 rfl (lv_at hl 0 rfl) ?_
  refine x_get (pc := 11) (v := .ref (ad (143 + v0))) C0 hK hw (jy_B hv0) (ly_B hv0) rfl inX0 5 (by decide) wf_X0_26 rfl rfl dX0_faultOf_11 ?_
  refine lv_iload_n (pc := 14) C0.1 C0.2.1 dX0_faultOf_14 rfl (lv_at hl 1 rfl) ?_
  obtain ⟨hi, hf⟩ := gd_e hf
  have hT3 : 12 * v0 + v1.toNatClampNeg < 132 := tb hv0 (inb_lt hi)
  refine x_aldT (pc := 15) (t := 12 * v0 + v1.toNatClampNeg) C0 hK hw (jy_R hv0) (ly_R hv0) hi rfl dX0_faultOf_15 ?_
  refine x_get (pc := 16) (v := .int (u.1 (12 * v0 + v1.toNatClampNeg) 3)) C0 hK hw (jy_T hT3) (ly_T hT3) rfl inX5 3 (by decide) wf_X0_81 rfl rfl dX0_faultOf_16 ?_
  obtain ⟨q4, hq4, hf⟩ := bd_e hf
  refine x_backp (pc := 19) hw (x_runV (pc := 19) (As := [.int q2, .int (u.1 (12 * v0 + v1.toNatClampNeg) 3)]) (rest := []) C0 hK hw hl.1 ⟨Nat.zero_le _, Nat.zero_le _⟩ (kX0_lateOnes l D y ad hI v0 hv0 q2 (u.1 (12 * v0 + v1.toNatClampNeg) 3) u hq4) (jy_B hv0) (ly_B hv0) rfl rfl wc_X0_lateOnes wm_X0_84 wi_X0_lateOnes ws_X0_lateOnes wn_X0 ⟨rfl, rfl⟩ hd_X0_lateOnes rfl ⟨Nat.le_of_ble_eq_true rfl, Nat.le_of_ble_eq_true rfl⟩ (Nat.le_of_ble_eq_true rfl) dX0_faultOf_19) (fun H locs hw => ?_)
  exact x_iret (pc := 22) C0 hK hk hr hw (congrArg (fun z => (z, u)) (Option.some.inj hf)) dX0_faultOf_22
def wX0_faults : List Cond := .code yX0_faults cX0_faults 4 (some .int) :: lwT
def rX0_faults : Room := { frames := 3, cells := 0, slots := 0, locals := 71 }
set_option maxRecDepth 100000 in
set_option maxHeartbeats 4000000 in
theorem kX0_faults (l : Launch) (D : va_G) (y : Nat → ClassId) (ad : Nat → Nat) (hI : XI ad 168) (v0 : Nat) (hv0 : v0 < 11) (u : S) {o : Int32} (hf : fX0_faults v0 u = some o) : Met l yX0_faults wX0_faults rX0_faults (va_Pc [.ref (ad (132 + v0))] (XW D y ad LX 168 u)) (XQi D y ad LX 168 (o, u)) 0 0 (XA ad 168) := by
  refine x_met (bytes := cX0_faults) (maxL := 4) (ret := (some .int)) (own := RX0) (by decide) rfl rfl (Nat.le_of_ble_eq_true rfl) (fun p e s m below meth c ls C0 hK hk hr hw hl => ?_)
  have hl : lv_has ls 4 [(0, .ref (ad (132 + v0)))] := hl
  unfold fX0_faults at hf
  refine lv_iconst (v := 0) (pc := 0) C0.1 C0.2.1 dX0_faults_0 (by decide) ?_
  refine lv_istore_n (pc := 1) (lv' := [(1, .int 0), (0, .ref (ad (132 + v0)))]) C0.1 C0.2.1 dX0_faults_1 rfl hl (by decide) rfl (fun ls hl => ?_)
  refine lv_aload_n (pc := 2) C0.1 C0.2.1 dX0_faults_2 rfl (lv_at hl 1 rfl) ?_
  obtain ⟨q1, hq1, hf⟩ := bd_e hf
  refine x_backp (pc := 3) hw (x_runV (pc := 3) (As := []) (rest := []) C0 hK hw hl.1 ⟨Nat.zero_le _, Nat.zero_le _⟩ (kX0_inside l D y ad hI v0 hv0 u hq1) (jy_B hv0) (ly_B hv0) rfl rfl wc_X0_inside wm_X0_75 wi_X0_inside ws_X0_inside wn_X0 ⟨rfl, rfl⟩ hd_X0_inside rfl ⟨Nat.le_of_ble_eq_true rfl, Nat.le_of_ble_eq_true rfl⟩ (Nat.le_of_ble_eq_true rfl) dX0_faults_3) (fun H locs hw => ?_)
  refine lv_istore_n (pc := 6) (lv' := [(2, .int q1), (1, .int 0), (0, .ref (ad (132 + v0)))]) C0.1 C0.2.1 dX0_faults_6 rfl hl (by decide) rfl (fun ls hl => ?_)
  refine lv_iconst (v := 0) (pc := 7) C0.1 C0.2.1 dX0_faults_7 (by decide) ?_
  refine lv_istore_n (pc := 8) (lv' := [(3, .int 0), (2, .int q1), (1, .int 0), (0, .ref (ad (132 + v0)))]) C0.1 C0.2.1 dX0_faults_8 rfl hl (by decide) rfl (fun ls hl => ?_)
  obtain ⟨e2, he2, hf⟩ := bd_e hf
  refine X_loop (pc := 9) (xpc := 45) (fu := fun a1 => u) (fl := fun a1 => [(3, .int a1.2), (2, .int q1), (1, .int a1.1), (0, .ref (ad (132 + v0)))]) (fun a1 r hf hE hG H locs ls hw hl => ?_) he2 (fun H locs ls hw hl => ?_) hw hl
  · unfold gX0_faults_9 at hf
    refine lv_iload_n (pc := 9) C0.1 C0.2.1 dX0_faults_9 rfl (lv_at hl 0 rfl) ?_
    refine lv_aload_n (pc := 10) C0.1 C0.2.1 dX0_faults_10 rfl (lv_at hl 3 rfl) ?_
    refine x_get (pc := 11) (v := .int (u.1 (132 + v0) 4)) C0 hK hw (jy_B hv0) (ly_B hv0) rfl inX0 4 (by decide) wf_X0_35 rfl rfl dX0_faults_11 ?_
    refine lv_icmp_ge (tgt := 45) (pc := 14) C0.1 C0.2.1 dX0_faults_14 (by decide) (fun hc => ?_) (fun hc => ?_)
    · have hf := if_t hf hc
      exact hE _ (Option.some.inj hf).symm H locs ls hw (lv_sub hl [0, 1, 2, 3] rfl)
    · have hf := if_f hf hc
      refine lv_iload_n (pc := 17) C0.1 C0.2.1 dX0_faults_17 rfl (lv_at hl 2 rfl) ?_
      refine lv_aload_n (pc := 18) C0.1 C0.2.1 dX0_faults_18 rfl (lv_at hl 3 rfl) ?_
      refine lv_aload_n (pc := 19) C0.1 C0.2.1 dX0_faults_19 rfl (lv_at hl 3 rfl) ?_
      refine lv_iload_n (pc := 20) C0.1 C0.2.1 dX0_faults_20 rfl (lv_at hl 0 rfl) ?_
      refine lv_iload_n (pc := 21) C0.1 C0.2.1 dX0_faults_21 rfl (lv_at hl 1 rfl) ?_
      obtain ⟨q3, hq3, hf⟩ := bd_e hf
      refine x_backp (pc := 22) hw (x_runV (pc := 22) (As := [.int a1.2, .int q1]) (rest := [.ref (ad (132 + v0)), .int a1.1]) C0 hK hw hl.1 ⟨Nat.zero_le _, Nat.zero_le _⟩ (kX0_above l D y ad hI v0 hv0 a1.2 q1 u hq3) (jy_B hv0) (ly_B hv0) rfl rfl wc_X0_above wm_X0_77 wi_X0_above ws_X0_above wn_X0 ⟨rfl, rfl⟩ hd_X0_above rfl ⟨Nat.le_of_ble_eq_true rfl, Nat.le_of_ble_eq_true rfl⟩ (Nat.le_of_ble_eq_true rfl) dX0_faults_22) (fun H locs hw => ?_)
      refine lv_aload_n (pc := 25) C0.1 C0.2.1 dX0_faults_25 rfl (lv_at hl 3 rfl) ?_
      refine x_get (pc := 26) (v := .ref (ad (143 + v0))) C0 hK hw (jy_B hv0) (ly_B hv0) rfl inX0 5 (by decide) wf_X0_26 rfl rfl dX0_faults_26 ?_
      refine lv_iload_n (pc := 29) C0.1 C0.2.1 dX0_faults_29 rfl (lv_at hl 0 rfl) ?_
      obtain ⟨hi, hf⟩ := gd_e hf
      have hT4 : 12 * v0 + a1.2.toNatClampNeg < 132 := tb hv0 (inb_lt hi)
      refine x_aldT (pc := 30) (t := 12 * v0 + a1.2.toNatClampNeg) C0 hK hw (jy_R hv0) (ly_R hv0) hi rfl dX0_faults_30 ?_
      refine x_get (pc := 31) (v := .int (u.1 (12 * v0 + a1.2.toNatClampNeg) 3)) C0 hK hw (jy_T hT4) (ly_T hT4) rfl inX5 3 (by decide) wf_X0_81 rfl rfl dX0_faults_31 ?_
      obtain ⟨q5, hq5, hf⟩ := bd_e hf
      refine x_backp (pc := 34) hw (x_runV (pc := 34) (As := [.int q3, .int (u.1 (12 * v0 + a1.2.toNatClampNeg) 3)]) (rest := [.int a1.1]) C0 hK hw hl.1 ⟨Nat.zero_le _, Nat.zero_le _⟩ (kX0_lateOnes l D y ad hI v0 hv0 q3 (u.1 (12 * v0 + a1.2.toNatClampNeg) 3) u hq5) (jy_B hv0) (ly_B hv0) rfl rfl wc_X0_lateOnes wm_X0_84 wi_X0_lateOnes ws_X0_lateOnes wn_X0 ⟨rfl, rfl⟩ hd_X0_lateOnes rfl ⟨Nat.le_of_ble_eq_true rfl, Nat.le_of_ble_eq_true rfl⟩ (Nat.le_of_ble_eq_true rfl) dX0_faults_34) (fun H locs hw => ?_)
      refine lv_iadd (pc := 37) C0.1 C0.2.1 dX0_faults_37 ?_
      refine lv_istore_n (pc := 38) (lv' := [(1, .int (a1.1 + q5)), (3, .int a1.2), (2, .int q1), (0, .ref (ad (132 + v0)))]) C0.1 C0.2.1 dX0_faults_38 rfl hl (by decide) rfl (fun ls hl => ?_)
      refine lv_iinc (pc := 39) (v := a1.2 + 1) (lv' := [(3, .int (a1.2 + 1)), (1, .int (a1.1 + q5)), (2, .int q1), (0, .ref (ad (132 + v0)))]) C0.1 C0.2.1 dX0_faults_39 hl (k := 1) rfl rfl (by decide) rfl (fun ls hl => ?_)
      refine lv_goto (tgt := 9) (pc := 42) C0.1 C0.2.1 dX0_faults_42 (by decide) ?_
      exact hG _ (Option.some.inj hf).symm H locs ls hw (lv_sub hl [0, 2, 1, 3] rfl)
  · skip
    refine lv_iload_n (pc := 45) C0.1 C0.2.1 dX0_faults_45 rfl (lv_at hl 2 rfl) ?_
    exact x_iret (pc := 46) C0 hK hk hr hw (congrArg (fun z => (z, u)) (Option.some.inj hf)) dX0_faults_46
def wX0_lifts : List Cond := .code yX0_lifts cX0_lifts 4 (some .int) :: lwT
def rX0_lifts : Room := { frames := 3, cells := 0, slots := 0, locals := 71 }
set_option maxRecDepth 100000 in
set_option maxHeartbeats 4000000 in
theorem kX0_lifts (l : Launch) (D : va_G) (y : Nat → ClassId) (ad : Nat → Nat) (hI : XI ad 168) (v0 : Nat) (hv0 : v0 < 11) (u : S) {o : Int32} (hf : fX0_lifts v0 u = some o) : Met l yX0_lifts wX0_lifts rX0_lifts (va_Pc [.ref (ad (132 + v0))] (XW D y ad LX 168 u)) (XQi D y ad LX 168 (o, u)) 0 0 (XA ad 168) := by
  refine x_met (bytes := cX0_lifts) (maxL := 4) (ret := (some .int)) (own := RX0) (by decide) rfl rfl (Nat.le_of_ble_eq_true rfl) (fun p e s m below meth c ls C0 hK hk hr hw hl => ?_)
  have hl : lv_has ls 4 [(0, .ref (ad (132 + v0)))] := hl
  unfold fX0_lifts at hf
  refine lv_iconst (v := 0) (pc := 0) C0.1 C0.2.1 dX0_lifts_0 (by decide) ?_
  refine lv_istore_n (pc := 1) (lv' := [(1, .int 0), (0, .ref (ad (132 + v0)))]) C0.1 C0.2.1 dX0_lifts_1 rfl hl (by decide) rfl (fun ls hl => ?_)
  refine lv_aload_n (pc := 2) C0.1 C0.2.1 dX0_lifts_2 rfl (lv_at hl 1 rfl) ?_
  obtain ⟨q1, hq1, hf⟩ := bd_e hf
  refine x_backp (pc := 3) hw (x_runV (pc := 3) (As := []) (rest := []) C0 hK hw hl.1 ⟨Nat.zero_le _, Nat.zero_le _⟩ (kX0_inside l D y ad hI v0 hv0 u hq1) (jy_B hv0) (ly_B hv0) rfl rfl wc_X0_inside wm_X0_75 wi_X0_inside ws_X0_inside wn_X0 ⟨rfl, rfl⟩ hd_X0_inside rfl ⟨Nat.le_of_ble_eq_true rfl, Nat.le_of_ble_eq_true rfl⟩ (Nat.le_of_ble_eq_true rfl) dX0_lifts_3) (fun H locs hw => ?_)
  refine lv_istore_n (pc := 6) (lv' := [(2, .int q1), (1, .int 0), (0, .ref (ad (132 + v0)))]) C0.1 C0.2.1 dX0_lifts_6 rfl hl (by decide) rfl (fun ls hl => ?_)
  refine lv_iconst (v := 0) (pc := 7) C0.1 C0.2.1 dX0_lifts_7 (by decide) ?_
  refine lv_istore_n (pc := 8) (lv' := [(3, .int 0), (2, .int q1), (1, .int 0), (0, .ref (ad (132 + v0)))]) C0.1 C0.2.1 dX0_lifts_8 rfl hl (by decide) rfl (fun ls hl => ?_)
  obtain ⟨e2, he2, hf⟩ := bd_e hf
  refine X_loop (pc := 9) (xpc := 35) (fu := fun a1 => u) (fl := fun a1 => [(3, .int a1.2), (2, .int q1), (1, .int a1.1), (0, .ref (ad (132 + v0)))]) (fun a1 r hf hE hG H locs ls hw hl => ?_) he2 (fun H locs ls hw hl => ?_) hw hl
  · unfold gX0_lifts_9 at hf
    refine lv_iload_n (pc := 9) C0.1 C0.2.1 dX0_lifts_9 rfl (lv_at hl 0 rfl) ?_
    refine lv_aload_n (pc := 10) C0.1 C0.2.1 dX0_lifts_10 rfl (lv_at hl 3 rfl) ?_
    refine x_get (pc := 11) (v := .int (u.1 (132 + v0) 4)) C0 hK hw (jy_B hv0) (ly_B hv0) rfl inX0 4 (by decide) wf_X0_35 rfl rfl dX0_lifts_11 ?_
    refine lv_icmp_ge (tgt := 35) (pc := 14) C0.1 C0.2.1 dX0_lifts_14 (by decide) (fun hc => ?_) (fun hc => ?_)
    · have hf := if_t hf hc
      exact hE _ (Option.some.inj hf).symm H locs ls hw (lv_sub hl [0, 1, 2, 3] rfl)
    · have hf := if_f hf hc
      refine lv_iload_n (pc := 17) C0.1 C0.2.1 dX0_lifts_17 rfl (lv_at hl 2 rfl) ?_
      refine lv_aload_n (pc := 18) C0.1 C0.2.1 dX0_lifts_18 rfl (lv_at hl 3 rfl) ?_
      refine lv_iload_n (pc := 19) C0.1 C0.2.1 dX0_lifts_19 rfl (lv_at hl 0 rfl) ?_
      refine lv_iload_n (pc := 20) C0.1 C0.2.1 dX0_lifts_20 rfl (lv_at hl 1 rfl) ?_
      obtain ⟨q3, hq3, hf⟩ := bd_e hf
      refine x_backp (pc := 21) hw (x_runV (pc := 21) (As := [.int a1.2, .int q1]) (rest := [.int a1.1]) C0 hK hw hl.1 ⟨Nat.zero_le _, Nat.zero_le _⟩ (kX0_above l D y ad hI v0 hv0 a1.2 q1 u hq3) (jy_B hv0) (ly_B hv0) rfl rfl wc_X0_above wm_X0_77 wi_X0_above ws_X0_above wn_X0 ⟨rfl, rfl⟩ hd_X0_above rfl ⟨Nat.le_of_ble_eq_true rfl, Nat.le_of_ble_eq_true rfl⟩ (Nat.le_of_ble_eq_true rfl) dX0_lifts_21) (fun H locs hw => ?_)
      obtain ⟨q4, hq4, hf⟩ := bd_e hf
      refine x_backp (pc := 24) hw (x_runS (pc := 24) (As := [.int q3]) (rest := [.int a1.1]) C0 hK hw hl.1 ⟨Nat.zero_le _, Nat.zero_le _⟩ (kJ6_bitCount_0f7a4 l D y ad hI q3 u hq4) rfl wc_J6_bitCount_0f7a4 wm_X0_87 wt_J6_bitCount_0f7a4 wn_J6 ⟨rfl, rfl⟩ hd_J6_bitCount_0f7a4 rfl ⟨Nat.le_of_ble_eq_true rfl, Nat.le_of_ble_eq_true rfl⟩ (Nat.le_of_ble_eq_true rfl) dX0_lifts_24) (fun H locs hw => ?_)
      refine lv_iadd (pc := 27) C0.1 C0.2.1 dX0_lifts_27 ?_
      refine lv_istore_n (pc := 28) (lv' := [(1, .int (a1.1 + q4)), (3, .int a1.2), (2, .int q1), (0, .ref (ad (132 + v0)))]) C0.1 C0.2.1 dX0_lifts_28 rfl hl (by decide) rfl (fun ls hl => ?_)
      refine lv_iinc (pc := 29) (v := a1.2 + 1) (lv' := [(3, .int (a1.2 + 1)), (1, .int (a1.1 + q4)), (2, .int q1), (0, .ref (ad (132 + v0)))]) C0.1 C0.2.1 dX0_lifts_29 hl (k := 1) rfl rfl (by decide) rfl (fun ls hl => ?_)
      refine lv_goto (tgt := 9) (pc := 32) C0.1 C0.2.1 dX0_lifts_32 (by decide) ?_
      exact hG _ (Option.some.inj hf).symm H locs ls hw (lv_sub hl [0, 2, 1, 3] rfl)
  · skip
    refine lv_iload_n (pc := 35) C0.1 C0.2.1 dX0_lifts_35 rfl (lv_at hl 2 rfl) ?_
    exact x_iret (pc := 36) C0 hK hk hr hw (congrArg (fun z => (z, u)) (Option.some.inj hf)) dX0_lifts_36
def wX0_freeTrays : List Cond := .code yX0_freeTrays cX0_freeTrays 3 (some .int) :: lwT
def rX0_freeTrays : Room := { frames := 3, cells := 0, slots := 0, locals := 65 }
set_option maxRecDepth 100000 in
set_option maxHeartbeats 4000000 in
theorem kX0_freeTrays (l : Launch) (D : va_G) (y : Nat → ClassId) (ad : Nat → Nat) (hI : XI ad 168) (v0 : Nat) (hv0 : v0 < 11) (u : S) {o : Int32} (hf : fX0_freeTrays v0 u = some o) : Met l yX0_freeTrays wX0_freeTrays rX0_freeTrays (va_Pc [.ref (ad (132 + v0))] (XW D y ad LX 168 u)) (XQi D y ad LX 168 (o, u)) 0 0 (XA ad 168) := by
  refine x_met (bytes := cX0_freeTrays) (maxL := 3) (ret := (some .int)) (own := RX0) (by decide) rfl rfl (Nat.le_of_ble_eq_true rfl) (fun p e s m below meth c ls C0 hK hk hr hw hl => ?_)
  have hl : lv_has ls 3 [(0, .ref (ad (132 + v0)))] := hl
  unfold fX0_freeTrays at hf
  refine lv_iconst (v := 0) (pc := 0) C0.1 C0.2.1 dX0_freeTrays_0 (by decide) ?_
  refine lv_istore_n (pc := 1) (lv' := [(1, .int 0), (0, .ref (ad (132 + v0)))]) C0.1 C0.2.1 dX0_freeTrays_1 rfl hl (by decide) rfl (fun ls hl => ?_)
  refine lv_iconst (v := 0) (pc := 2) C0.1 C0.2.1 dX0_freeTrays_2 (by decide) ?_
  refine lv_istore_n (pc := 3) (lv' := [(2, .int 0), (1, .int 0), (0, .ref (ad (132 + v0)))]) C0.1 C0.2.1 dX0_freeTrays_3 rfl hl (by decide) rfl (fun ls hl => ?_)
  obtain ⟨e1, he1, hf⟩ := bd_e hf
  refine X_loop (pc := 4) (xpc := 41) (fu := fun a1 => u) (fl := fun a1 => [(2, .int a1.2), (1, .int a1.1), (0, .ref (ad (132 + v0)))]) (fun a1 r hf hE hG H locs ls hw hl => ?_) he1 (fun H locs ls hw hl => ?_) hw hl
  · unfold gX0_freeTrays_4 at hf
    refine lv_iload_n (pc := 4) C0.1 C0.2.1 dX0_freeTrays_4 rfl (lv_at hl 0 rfl) ?_
    refine lv_aload_n (pc := 5) C0.1 C0.2.1 dX0_freeTrays_5 rfl (lv_at hl 2 rfl) ?_
    refine x_get (pc := 6) (v := .int (u.1 (132 + v0) 4)) C0 hK hw (jy_B hv0) (ly_B hv0) rfl inX0 4 (by decide) wf_X0_35 rfl rfl dX0_freeTrays_6 ?_
    refine lv_icmp_ge (tgt := 41) (pc := 9) C0.1 C0.2.1 dX0_freeTrays_9 (by decide) (fun hc => ?_) (fun hc => ?_)
    · have hf := if_t hf hc
      exact hE _ (Option.some.inj hf).symm H locs ls hw (lv_sub hl [0, 1, 2] rfl)
    · have hf := if_f hf hc
      refine lv_aload_n (pc := 12) C0.1 C0.2.1 dX0_freeTrays_12 rfl (lv_at hl 2 rfl) ?_
      refine x_get (pc := 13) (v := .ref (ad (143 + v0))) C0 hK hw (jy_B hv0) (ly_B hv0) rfl inX0 5 (by decide) wf_X0_26 rfl rfl dX0_freeTrays_13 ?_
      refine lv_iload_n (pc := 16) C0.1 C0.2.1 dX0_freeTrays_16 rfl (lv_at hl 0 rfl) ?_
      obtain ⟨hi, hf⟩ := gd_e hf
      have hT2 : 12 * v0 + a1.2.toNatClampNeg < 132 := tb hv0 (inb_lt hi)
      refine x_aldT (pc := 17) (t := 12 * v0 + a1.2.toNatClampNeg) C0 hK hw (jy_R hv0) (ly_R hv0) hi rfl dX0_freeTrays_17 ?_
      refine x_get (pc := 18) (v := .int (u.1 (12 * v0 + a1.2.toNatClampNeg) 5)) C0 hK hw (jy_T hT2) (ly_T hT2) rfl inX5 5 (by decide) wf_X0_56 rfl rfl dX0_freeTrays_18 ?_
      refine lv_if_eq (tgt := 35) (pc := 21) C0.1 C0.2.1 dX0_freeTrays_21 (by decide) (fun hc => ?_) (fun hc => ?_)
      · have hf := if_t hf hc
        refine lv_iinc (pc := 35) (v := a1.2 + 1) (lv' := [(2, .int (a1.2 + 1)), (1, .int a1.1), (0, .ref (ad (132 + v0)))]) C0.1 C0.2.1 dX0_freeTrays_35 hl (k := 0) rfl rfl (by decide) rfl (fun ls hl => ?_)
        refine lv_goto (tgt := 4) (pc := 38) C0.1 C0.2.1 dX0_freeTrays_38 (by decide) ?_
        exact hG _ (Option.some.inj hf).symm H locs ls hw (lv_sub hl [0, 1, 2] rfl)
      · have hf := if_f hf hc
        refine lv_aload_n (pc := 24) C0.1 C0.2.1 dX0_freeTrays_24 rfl (lv_at hl 2 rfl) ?_
        refine lv_iload_n (pc := 25) C0.1 C0.2.1 dX0_freeTrays_25 rfl (lv_at hl 0 rfl) ?_
        obtain ⟨q3, hq3, hf⟩ := bd_e hf
        refine x_backp (pc := 26) hw (x_runV (pc := 26) (As := [.int a1.2]) (rest := []) C0 hK hw hl.1 ⟨Nat.zero_le _, Nat.zero_le _⟩ (kX0_isFree l D y ad hI v0 hv0 a1.2 u hq3) (jy_B hv0) (ly_B hv0) rfl rfl wc_X0_isFree wm_X0_92 wi_X0_isFree ws_X0_isFree wn_X0 ⟨rfl, rfl⟩ hd_X0_isFree rfl ⟨Nat.le_of_ble_eq_true rfl, Nat.le_of_ble_eq_true rfl⟩ (Nat.le_of_ble_eq_true rfl) dX0_freeTrays_26) (fun H locs hw => ?_)
        refine lv_if_eq (tgt := 35) (pc := 29) C0.1 C0.2.1 dX0_freeTrays_29 (by decide) (fun hc => ?_) (fun hc => ?_)
        · have hf := if_t hf hc
          refine lv_iinc (pc := 35) (v := a1.2 + 1) (lv' := [(2, .int (a1.2 + 1)), (1, .int a1.1), (0, .ref (ad (132 + v0)))]) C0.1 C0.2.1 dX0_freeTrays_35 hl (k := 0) rfl rfl (by decide) rfl (fun ls hl => ?_)
          refine lv_goto (tgt := 4) (pc := 38) C0.1 C0.2.1 dX0_freeTrays_38 (by decide) ?_
          exact hG _ (Option.some.inj hf).symm H locs ls hw (lv_sub hl [0, 1, 2] rfl)
        · have hf := if_f hf hc
          refine lv_iinc (pc := 32) (v := a1.1 + 1) (lv' := [(1, .int (a1.1 + 1)), (2, .int a1.2), (0, .ref (ad (132 + v0)))]) C0.1 C0.2.1 dX0_freeTrays_32 hl (k := 1) rfl rfl (by decide) rfl (fun ls hl => ?_)
          refine lv_iinc (pc := 35) (v := a1.2 + 1) (lv' := [(2, .int (a1.2 + 1)), (1, .int (a1.1 + 1)), (0, .ref (ad (132 + v0)))]) C0.1 C0.2.1 dX0_freeTrays_35 hl (k := 1) rfl rfl (by decide) rfl (fun ls hl => ?_)
          refine lv_goto (tgt := 4) (pc := 38) C0.1 C0.2.1 dX0_freeTrays_38 (by decide) ?_
          exact hG _ (Option.some.inj hf).symm H locs ls hw (lv_sub hl [0, 1, 2] rfl)
  · skip
    refine lv_iload_n (pc := 41) C0.1 C0.2.1 dX0_freeTrays_41 rfl (lv_at hl 1 rfl) ?_
    exact x_iret (pc := 42) C0 hK hk hr hw (congrArg (fun z => (z, u)) (Option.some.inj hf)) dX0_freeTrays_42
def wX0_filledHeight : List Cond := .code yX0_filledHeight cX0_filledHeight 3 (some .int) :: lwT
def rX0_filledHeight : Room := { frames := 1, cells := 0, slots := 0, locals := 21 }
set_option maxRecDepth 100000 in
set_option maxHeartbeats 4000000 in
theorem kX0_filledHeight (l : Launch) (D : va_G) (y : Nat → ClassId) (ad : Nat → Nat) (hI : XI ad 168) (v0 : Nat) (hv0 : v0 < 11) (u : S) {o : Int32} (hf : fX0_filledHeight v0 u = some o) : Met l yX0_filledHeight wX0_filledHeight rX0_filledHeight (va_Pc [.ref (ad (132 + v0))] (XW D y ad LX 168 u)) (XQi D y ad LX 168 (o, u)) 0 0 (XA ad 168) := by
  refine x_met (bytes := cX0_filledHeight) (maxL := 3) (ret := (some .int)) (own := RX0) (by decide) rfl rfl (Nat.le_of_ble_eq_true rfl) (fun p e s m below meth c ls C0 hK hk hr hw hl => ?_)
  have hl : lv_has ls 3 [(0, .ref (ad (132 + v0)))] := hl
  unfold fX0_filledHeight at hf
  refine lv_iconst (v := 0) (pc := 0) C0.1 C0.2.1 dX0_filledHeight_0 (by decide) ?_
  refine lv_istore_n (pc := 1) (lv' := [(1, .int 0), (0, .ref (ad (132 + v0)))]) C0.1 C0.2.1 dX0_filledHeight_1 rfl hl (by decide) rfl (fun ls hl => ?_)
  refine lv_iconst (v := 0) (pc := 2) C0.1 C0.2.1 dX0_filledHeight_2 (by decide) ?_
  refine lv_istore_n (pc := 3) (lv' := [(2, .int 0), (1, .int 0), (0, .ref (ad (132 + v0)))]) C0.1 C0.2.1 dX0_filledHeight_3 rfl hl (by decide) rfl (fun ls hl => ?_)
  obtain ⟨e1, he1, hf⟩ := bd_e hf
  refine X_loop (pc := 4) (xpc := 44) (fu := fun a1 => u) (fl := fun a1 => [(2, .int a1.2), (1, .int a1.1), (0, .ref (ad (132 + v0)))]) (fun a1 r hf hE hG H locs ls hw hl => ?_) he1 (fun H locs ls hw hl => ?_) hw hl
  · unfold gX0_filledHeight_4 at hf
    refine lv_iload_n (pc := 4) C0.1 C0.2.1 dX0_filledHeight_4 rfl (lv_at hl 0 rfl) ?_
    refine lv_aload_n (pc := 5) C0.1 C0.2.1 dX0_filledHeight_5 rfl (lv_at hl 2 rfl) ?_
    refine x_get (pc := 6) (v := .int (u.1 (132 + v0) 4)) C0 hK hw (jy_B hv0) (ly_B hv0) rfl inX0 4 (by decide) wf_X0_35 rfl rfl dX0_filledHeight_6 ?_
    refine lv_icmp_ge (tgt := 44) (pc := 9) C0.1 C0.2.1 dX0_filledHeight_9 (by decide) (fun hc => ?_) (fun hc => ?_)
    · have hf := if_t hf hc
      exact hE _ (Option.some.inj hf).symm H locs ls hw (lv_sub hl [0, 1, 2] rfl)
    · have hf := if_f hf hc
      refine lv_aload_n (pc := 12) C0.1 C0.2.1 dX0_filledHeight_12 rfl (lv_at hl 2 rfl) ?_
      refine x_get (pc := 13) (v := .ref (ad (143 + v0))) C0 hK hw (jy_B hv0) (ly_B hv0) rfl inX0 5 (by decide) wf_X0_26 rfl rfl dX0_filledHeight_13 ?_
      refine lv_iload_n (pc := 16) C0.1 C0.2.1 dX0_filledHeight_16 rfl (lv_at hl 0 rfl) ?_
      obtain ⟨hi, hf⟩ := gd_e hf
      have hT2 : 12 * v0 + a1.2.toNatClampNeg < 132 := tb hv0 (inb_lt hi)
      refine x_aldT (pc := 17) (t := 12 * v0 + a1.2.toNatClampNeg) C0 hK hw (jy_R hv0) (ly_R hv0) hi rfl dX0_filledHeight_17 ?_
      refine x_get (pc := 18) (v := .int (u.1 (12 * v0 + a1.2.toNatClampNeg) 5)) C0 hK hw (jy_T hT2) (ly_T hT2) rfl inX5 5 (by decide) wf_X0_56 rfl rfl dX0_filledHeight_18 ?_
      refine lv_if_eq (tgt := 38) (pc := 21) C0.1 C0.2.1 dX0_filledHeight_21 (by decide) (fun hc => ?_) (fun hc => ?_)
      · have hf := if_t hf hc
        refine lv_iinc (pc := 38) (v := a1.2 + 1) (lv' := [(2, .int (a1.2 + 1)), (1, .int a1.1), (0, .ref (ad (132 + v0)))]) C0.1 C0.2.1 dX0_filledHeight_38 hl (k := 0) rfl rfl (by decide) rfl (fun ls hl => ?_)
        refine lv_goto (tgt := 4) (pc := 41) C0.1 C0.2.1 dX0_filledHeight_41 (by decide) ?_
        exact hG _ (Option.some.inj hf).symm H locs ls hw (lv_sub hl [0, 1, 2] rfl)
      · have hf := if_f hf hc
        refine lv_iload_n (pc := 24) C0.1 C0.2.1 dX0_filledHeight_24 rfl (lv_at hl 1 rfl) ?_
        refine lv_aload_n (pc := 25) C0.1 C0.2.1 dX0_filledHeight_25 rfl (lv_at hl 2 rfl) ?_
        refine x_get (pc := 26) (v := .ref (ad (143 + v0))) C0 hK hw (jy_B hv0) (ly_B hv0) rfl inX0 5 (by decide) wf_X0_26 rfl rfl dX0_filledHeight_26 ?_
        refine lv_iload_n (pc := 29) C0.1 C0.2.1 dX0_filledHeight_29 rfl (lv_at hl 0 rfl) ?_
        obtain ⟨hi, hf⟩ := gd_e hf
        have hT3 : 12 * v0 + a1.2.toNatClampNeg < 132 := tb hv0 (inb_lt hi)
        refine x_aldT (pc := 30) (t := 12 * v0 + a1.2.toNatClampNeg) C0 hK hw (jy_R hv0) (ly_R hv0) hi rfl dX0_filledHeight_30 ?_
        refine x_get (pc := 31) (v := .int (u.1 (12 * v0 + a1.2.toNatClampNeg) 12)) C0 hK hw (jy_T hT3) (ly_T hT3) rfl inX5 12 (by decide) wf_X0_64 rfl rfl dX0_filledHeight_31 ?_
        refine va_mmax (pc := 34) C0.1 C0.2.1 (C0.2.2.1.trans hl.1.symm) C0.2.2.2.1 (C0.2.2.2.2 _ wm_X0_96) (C0.2.2.2.2 _ wt_J9_max_7cf53) (C0.2.2.2.2 _ wn_J9) (C0.2.2.2.2 _ wc_J9_max_7cf53) (Nat.le_of_ble_eq_true rfl) (Nat.le_of_ble_eq_true rfl) (Nat.zero_le _) (Nat.zero_le _) dX0_filledHeight_34 ?_
        refine lv_istore_n (pc := 37) (lv' := [(1, .int (if a1.1 < (u.1 (12 * v0 + a1.2.toNatClampNeg) 12) then (u.1 (12 * v0 + a1.2.toNatClampNeg) 12) else a1.1)), (2, .int a1.2), (0, .ref (ad (132 + v0)))]) C0.1 C0.2.1 dX0_filledHeight_37 rfl hl (by decide) rfl (fun ls hl => ?_)
        refine lv_iinc (pc := 38) (v := a1.2 + 1) (lv' := [(2, .int (a1.2 + 1)), (1, .int (if a1.1 < (u.1 (12 * v0 + a1.2.toNatClampNeg) 12) then (u.1 (12 * v0 + a1.2.toNatClampNeg) 12) else a1.1)), (0, .ref (ad (132 + v0)))]) C0.1 C0.2.1 dX0_filledHeight_38 hl (k := 1) rfl rfl (by decide) rfl (fun ls hl => ?_)
        refine lv_goto (tgt := 4) (pc := 41) C0.1 C0.2.1 dX0_filledHeight_41 (by decide) ?_
        exact hG _ (Option.some.inj hf).symm H locs ls hw (lv_sub hl [0, 1, 2] rfl)
  · skip
    refine lv_iload_n (pc := 44) C0.1 C0.2.1 dX0_filledHeight_44 rfl (lv_at hl 1 rfl) ?_
    exact x_iret (pc := 45) C0 hK hk hr hw (congrArg (fun z => (z, u)) (Option.some.inj hf)) dX0_filledHeight_45
def wX0_air : List Cond := .code yX0_air cX0_air 3 (some .int) :: lwT
def rX0_air : Room := { frames := 2, cells := 0, slots := 0, locals := 43 }
set_option maxRecDepth 100000 in
set_option maxHeartbeats 4000000 in
theorem kX0_air (l : Launch) (D : va_G) (y : Nat → ClassId) (ad : Nat → Nat) (hI : XI ad 168) (v0 : Nat) (hv0 : v0 < 11) (u : S) {o : Int32} (hf : fX0_air v0 u = some o) : Met l yX0_air wX0_air rX0_air (va_Pc [.ref (ad (132 + v0))] (XW D y ad LX 168 u)) (XQi D y ad LX 168 (o, u)) 0 0 (XA ad 168) := by
  refine x_met (bytes := cX0_air) (maxL := 3) (ret := (some .int)) (own := RX0) (by decide) rfl rfl (Nat.le_of_ble_eq_true rfl) (fun p e s m below meth c ls C0 hK hk hr hw hl => ?_)
  have hl : lv_has ls 3 [(0, .ref (ad (132 + v0)))] := hl
  unfold fX0_air at hf
  refine lv_aload_n (pc := 0) C0.1 C0.2.1 dX0_air_0 rfl (lv_at hl 0 rfl) ?_
  refine x_get (pc := 1) (v := .int (u.1 (132 + v0) 0)) C0 hK hw (jy_B hv0) (ly_B hv0) rfl inX0 0 (by decide) wf_X0_9 rfl rfl dX0_air_1 ?_
  refine lv_aload_n (pc := 4) C0.1 C0.2.1 dX0_air_4 rfl (lv_at hl 0 rfl) ?_
  refine x_get (pc := 5) (v := .int (u.1 (132 + v0) 1)) C0 hK hw (jy_B hv0) (ly_B hv0) rfl inX0 1 (by decide) wf_X0_15 rfl rfl dX0_air_5 ?_
  refine lv_imul (pc := 8) C0.1 C0.2.1 dX0_air_8 ?_
  refine lv_aload_n (pc := 9) C0.1 C0.2.1 dX0_air_9 rfl (lv_at hl 0 rfl) ?_
  obtain ⟨q1, hq1, hf⟩ := bd_e hf
  refine x_backp (pc := 10) hw (x_runV (pc := 10) (As := []) (rest := [.int ((u.1 (132 + v0) 0) * (u.1 (132 + v0) 1))]) C0 hK hw hl.1 ⟨Nat.zero_le _, Nat.zero_le _⟩ (kX0_filledHeight l D y ad hI v0 hv0 u hq1) (jy_B hv0) (ly_B hv0) rfl rfl wc_X0_filledHeight wm_X0_101 wi_X0_filledHeight ws_X0_filledHeight wn_X0 ⟨rfl, rfl⟩ hd_X0_filledHeight rfl ⟨Nat.le_of_ble_eq_true rfl, Nat.le_of_ble_eq_true rfl⟩ (Nat.le_of_ble_eq_true rfl) dX0_air_10) (fun H locs hw => ?_)
  refine lv_imul (pc := 13) C0.1 C0.2.1 dX0_air_13 ?_
  refine lv_istore_n (pc := 14) (lv' := [(1, .int (((u.1 (132 + v0) 0) * (u.1 (132 + v0) 1)) * q1)), (0, .ref (ad (132 + v0)))]) C0.1 C0.2.1 dX0_air_14 rfl hl (by decide) rfl (fun ls hl => ?_)
  refine lv_iconst (v := 0) (pc := 15) C0.1 C0.2.1 dX0_air_15 (by decide) ?_
  refine lv_istore_n (pc := 16) (lv' := [(2, .int 0), (1, .int (((u.1 (132 + v0) 0) * (u.1 (132 + v0) 1)) * q1)), (0, .ref (ad (132 + v0)))]) C0.1 C0.2.1 dX0_air_16 rfl hl (by decide) rfl (fun ls hl => ?_)
  obtain ⟨e2, he2, hf⟩ := bd_e hf
  refine X_loop (pc := 17) (xpc := 65) (fu := fun a1 => u) (fl := fun a1 => [(2, .int a1.2), (1, .int a1.1), (0, .ref (ad (132 + v0)))]) (fun a1 r hf hE hG H locs ls hw hl => ?_) he2 (fun H locs ls hw hl => ?_) hw hl
  · unfold gX0_air_17 at hf
    refine lv_iload_n (pc := 17) C0.1 C0.2.1 dX0_air_17 rfl (lv_at hl 0 rfl) ?_
    refine lv_aload_n (pc := 18) C0.1 C0.2.1 dX0_air_18 rfl (lv_at hl 2 rfl) ?_
    refine x_get (pc := 19) (v := .int (u.1 (132 + v0) 4)) C0 hK hw (jy_B hv0) (ly_B hv0) rfl inX0 4 (by decide) wf_X0_35 rfl rfl dX0_air_19 ?_
    refine lv_icmp_ge (tgt := 65) (pc := 22) C0.1 C0.2.1 dX0_air_22 (by decide) (fun hc => ?_) (fun hc => ?_)
    · have hf := if_t hf hc
      exact hE _ (Option.some.inj hf).symm H locs ls hw (lv_sub hl [0, 1, 2] rfl)
    · have hf := if_f hf hc
      refine lv_aload_n (pc := 25) C0.1 C0.2.1 dX0_air_25 rfl (lv_at hl 2 rfl) ?_
      refine x_get (pc := 26) (v := .ref (ad (143 + v0))) C0 hK hw (jy_B hv0) (ly_B hv0) rfl inX0 5 (by decide) wf_X0_26 rfl rfl dX0_air_26 ?_
      refine lv_iload_n (pc := 29) C0.1 C0.2.1 dX0_air_29 rfl (lv_at hl 0 rfl) ?_
      obtain ⟨hi, hf⟩ := gd_e hf
      have hT3 : 12 * v0 + a1.2.toNatClampNeg < 132 := tb hv0 (inb_lt hi)
      refine x_aldT (pc := 30) (t := 12 * v0 + a1.2.toNatClampNeg) C0 hK hw (jy_R hv0) (ly_R hv0) hi rfl dX0_air_30 ?_
      refine x_get (pc := 31) (v := .int (u.1 (12 * v0 + a1.2.toNatClampNeg) 5)) C0 hK hw (jy_T hT3) (ly_T hT3) rfl inX5 5 (by decide) wf_X0_56 rfl rfl dX0_air_31 ?_
      refine lv_if_eq (tgt := 59) (pc := 34) C0.1 C0.2.1 dX0_air_34 (by decide) (fun hc => ?_) (fun hc => ?_)
      · have hf := if_t hf hc
        refine lv_iinc (pc := 59) (v := a1.2 + 1) (lv' := [(2, .int (a1.2 + 1)), (1, .int a1.1), (0, .ref (ad (132 + v0)))]) C0.1 C0.2.1 dX0_air_59 hl (k := 0) rfl rfl (by decide) rfl (fun ls hl => ?_)
        refine lv_goto (tgt := 17) (pc := 62) C0.1 C0.2.1 dX0_air_62 (by decide) ?_
        exact hG _ (Option.some.inj hf).symm H locs ls hw (lv_sub hl [0, 1, 2] rfl)
      · have hf := if_f hf hc
        refine lv_iload_n (pc := 37) C0.1 C0.2.1 dX0_air_37 rfl (lv_at hl 1 rfl) ?_
        refine lv_aload_n (pc := 38) C0.1 C0.2.1 dX0_air_38 rfl (lv_at hl 2 rfl) ?_
        refine x_get (pc := 39) (v := .ref (ad (143 + v0))) C0 hK hw (jy_B hv0) (ly_B hv0) rfl inX0 5 (by decide) wf_X0_26 rfl rfl dX0_air_39 ?_
        refine lv_iload_n (pc := 42) C0.1 C0.2.1 dX0_air_42 rfl (lv_at hl 0 rfl) ?_
        obtain ⟨hi, hf⟩ := gd_e hf
        have hT4 : 12 * v0 + a1.2.toNatClampNeg < 132 := tb hv0 (inb_lt hi)
        refine x_aldT (pc := 43) (t := 12 * v0 + a1.2.toNatClampNeg) C0 hK hw (jy_R hv0) (ly_R hv0) hi rfl dX0_air_43 ?_
        obtain ⟨q5, hq5, hf⟩ := bd_e hf
        refine x_backp (pc := 44) hw (x_runV (pc := 44) (As := []) (rest := [.int a1.1]) C0 hK hw hl.1 ⟨Nat.zero_le _, Nat.zero_le _⟩ (kX5_area l D y ad hI (12 * v0 + a1.2.toNatClampNeg) hT4 u hq5) (jy_T hT4) (ly_T hT4) rfl rfl wc_X5_area wm_X0_104 wi_X5_area ws_X5_area wn_X5 ⟨rfl, rfl⟩ hd_X5_area rfl ⟨Nat.le_of_ble_eq_true rfl, Nat.le_of_ble_eq_true rfl⟩ (Nat.le_of_ble_eq_true rfl) dX0_air_44) (fun H locs hw => ?_)
        refine lv_aload_n (pc := 47) C0.1 C0.2.1 dX0_air_47 rfl (lv_at hl 2 rfl) ?_
        refine x_get (pc := 48) (v := .ref (ad (143 + v0))) C0 hK hw (jy_B hv0) (ly_B hv0) rfl inX0 5 (by decide) wf_X0_26 rfl rfl dX0_air_48 ?_
        refine lv_iload_n (pc := 51) C0.1 C0.2.1 dX0_air_51 rfl (lv_at hl 0 rfl) ?_
        obtain ⟨hi, hf⟩ := gd_e hf
        have hT6 : 12 * v0 + a1.2.toNatClampNeg < 132 := tb hv0 (inb_lt hi)
        refine x_aldT (pc := 52) (t := 12 * v0 + a1.2.toNatClampNeg) C0 hK hw (jy_R hv0) (ly_R hv0) hi rfl dX0_air_52 ?_
        obtain ⟨q7, hq7, hf⟩ := bd_e hf
        refine x_backp (pc := 53) hw (x_runV (pc := 53) (As := []) (rest := [.int q5, .int a1.1]) C0 hK hw hl.1 ⟨Nat.zero_le _, Nat.zero_le _⟩ (kX5_tall l D y ad hI (12 * v0 + a1.2.toNatClampNeg) hT6 u hq7) (jy_T hT6) (ly_T hT6) rfl rfl wc_X5_tall wm_X0_52 wi_X5_tall ws_X5_tall wn_X5 ⟨rfl, rfl⟩ hd_X5_tall rfl ⟨Nat.le_of_ble_eq_true rfl, Nat.le_of_ble_eq_true rfl⟩ (Nat.le_of_ble_eq_true rfl) dX0_air_53) (fun H locs hw => ?_)
        refine lv_imul (pc := 56) C0.1 C0.2.1 dX0_air_56 ?_
        refine lv_isub (pc := 57) C0.1 C0.2.1 dX0_air_57 ?_
        refine lv_istore_n (pc := 58) (lv' := [(1, .int (a1.1 - (q5 * q7))), (2, .int a1.2), (0, .ref (ad (132 + v0)))]) C0.1 C0.2.1 dX0_air_58 rfl hl (by decide) rfl (fun ls hl => ?_)
        refine lv_iinc (pc := 59) (v := a1.2 + 1) (lv' := [(2, .int (a1.2 + 1)), (1, .int (a1.1 - (q5 * q7))), (0, .ref (ad (132 + v0)))]) C0.1 C0.2.1 dX0_air_59 hl (k := 1) rfl rfl (by decide) rfl (fun ls hl => ?_)
        refine lv_goto (tgt := 17) (pc := 62) C0.1 C0.2.1 dX0_air_62 (by decide) ?_
        exact hG _ (Option.some.inj hf).symm H locs ls hw (lv_sub hl [0, 1, 2] rfl)
  · skip
    refine lv_iload_n (pc := 65) C0.1 C0.2.1 dX0_air_65 rfl (lv_at hl 1 rfl) ?_
    exact x_iret (pc := 66) C0 hK hk hr hw (congrArg (fun z => (z, u)) (Option.some.inj hf)) dX0_air_66
