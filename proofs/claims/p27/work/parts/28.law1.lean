def wL_low : List Cond := .code yL_low cL_low 2 (some .int) :: lwT
def rL_low : Room := { frames := 0, cells := 0, slots := 0, locals := 0 }
set_option maxRecDepth 100000 in
set_option maxHeartbeats 4000000 in
theorem kL_low (l : Launch) (D : va_G) (y : Nat → ClassId) (ad : Nat → Nat) (hI : XI ad 168) (v0 : Int32) (v1 : Int32) (u : S) {o : Int32} (hf : fL_low v0 v1 u = some o) : Met l yL_low wL_low rL_low (va_Pc [.int v0, .int v1] (XW D y ad LX 168 u)) (XQi D y ad LX 168 (o, u)) 0 0 (XA ad 168) := by
  refine z_met (bytes := cL_low) (maxL := 2) (ret := (some .int)) (own := RL) (by decide) rfl rfl (Nat.le_of_ble_eq_true rfl) (fun p e s m below meth c ls C0 hK hk hr hw hl => ?_)
  have hl : lv_has ls 2 [(0, .int v0), (1, .int v1)] := hl
  unfold fL_low at hf
  refine lv_iload_n (pc := 0) C0.1 C0.2.1 dL_low_0 rfl (lv_at hl 0 rfl) ?_
  refine lv_ldc (pc := 1) C0.1 C0.2.1 C0.2.2.2.1 (C0.2.2.2.2 _ wk_L_9) dL_low_1 ?_
  refine lv_iand (pc := 3) C0.1 C0.2.1 dL_low_3 ?_
  refine lv_iload_n (pc := 4) C0.1 C0.2.1 dL_low_4 rfl (lv_at hl 1 rfl) ?_
  obtain ⟨hne, hf⟩ := gd_e hf
  refine x_irem (pc := 5) C0.1 C0.2.1 dL_low_5 (by simpa using hne) ?_
  exact x_iret (pc := 6) C0 hK hk hr hw (congrArg (fun z => (z, u)) (Option.some.inj hf)) dL_low_6
def wL_bits : List Cond := .code yL_bits cL_bits 3 (some .int) :: lwT
def rL_bits : Room := { frames := 0, cells := 0, slots := 0, locals := 0 }
set_option maxRecDepth 100000 in
set_option maxHeartbeats 4000000 in
theorem kL_bits (l : Launch) (D : va_G) (y : Nat → ClassId) (ad : Nat → Nat) (hI : XI ad 168) (v0 : Int32) (u : S) {o : Int32} (hf : fL_bits v0 u = some o) : Met l yL_bits wL_bits rL_bits (va_Pc [.int v0] (XW D y ad LX 168 u)) (XQi D y ad LX 168 (o, u)) 0 0 (XA ad 168) := by
  refine z_met (bytes := cL_bits) (maxL := 3) (ret := (some .int)) (own := RL) (by decide) rfl rfl (Nat.le_of_ble_eq_true rfl) (fun p e s m below meth c ls C0 hK hk hr hw hl => ?_)
  have hl : lv_has ls 3 [(0, .int v0)] := hl
  unfold fL_bits at hf
  refine lv_iconst (v := 0) (pc := 0) C0.1 C0.2.1 dL_bits_0 (by decide) ?_
  refine lv_istore_n (pc := 1) (lv' := [(1, .int 0), (0, .int v0)]) C0.1 C0.2.1 dL_bits_1 rfl hl (by decide) rfl (fun ls hl => ?_)
  refine lv_iload_n (pc := 2) C0.1 C0.2.1 dL_bits_2 rfl (lv_at hl 1 rfl) ?_
  refine lv_istore_n (pc := 3) (lv' := [(2, .int v0), (1, .int 0), (0, .int v0)]) C0.1 C0.2.1 dL_bits_3 rfl hl (by decide) rfl (fun ls hl => ?_)
  obtain ⟨e1, he1, hf⟩ := bd_e hf
  refine X_loop (pc := 4) (xpc := 20) (fu := fun a1 => u) (fl := fun a1 => [(2, .int a1.2), (1, .int a1.1), (0, .int v0)]) (fun a1 r hf hE hG H locs ls hw hl => ?_) he1 (fun H locs ls hw hl => ?_) hw hl
  · unfold gL_bits_4 at hf
    refine lv_iload_n (pc := 4) C0.1 C0.2.1 dL_bits_4 rfl (lv_at hl 0 rfl) ?_
    refine lv_if_eq (tgt := 20) (pc := 5) C0.1 C0.2.1 dL_bits_5 (by decide) (fun hc => ?_) (fun hc => ?_)
    · have hf := if_t hf hc
      exact hE _ (Option.some.inj hf).symm H locs ls hw (lv_sub hl [0, 1, 2] rfl)
    · have hf := if_f hf hc
      refine lv_iinc (pc := 8) (v := a1.1 + 1) (lv' := [(1, .int (a1.1 + 1)), (2, .int a1.2), (0, .int v0)]) C0.1 C0.2.1 dL_bits_8 hl (k := 1) rfl rfl (by decide) rfl (fun ls hl => ?_)
      refine lv_iload_n (pc := 11) C0.1 C0.2.1 dL_bits_11 rfl (lv_at hl 1 rfl) ?_
      refine lv_iload_n (pc := 12) C0.1 C0.2.1 dL_bits_12 rfl (lv_at hl 1 rfl) ?_
      refine lv_iconst (v := 1) (pc := 13) C0.1 C0.2.1 dL_bits_13 (by decide) ?_
      refine lv_isub (pc := 14) C0.1 C0.2.1 dL_bits_14 ?_
      refine lv_iand (pc := 15) C0.1 C0.2.1 dL_bits_15 ?_
      refine lv_istore_n (pc := 16) (lv' := [(2, .int (a1.2 &&& (a1.2 - 1))), (1, .int (a1.1 + 1)), (0, .int v0)]) C0.1 C0.2.1 dL_bits_16 rfl hl (by decide) rfl (fun ls hl => ?_)
      refine lv_goto (tgt := 4) (pc := 17) C0.1 C0.2.1 dL_bits_17 (by decide) ?_
      exact hG _ (Option.some.inj hf).symm H locs ls hw (lv_sub hl [0, 1, 2] rfl)
  · skip
    refine lv_iload_n (pc := 20) C0.1 C0.2.1 dL_bits_20 rfl (lv_at hl 1 rfl) ?_
    exact x_iret (pc := 21) C0 hK hk hr hw (congrArg (fun z => (z, u)) (Option.some.inj hf)) dL_bits_21
def wL_cell : List Cond := .code yL_cell cL_cell 2 (some .int) :: lwT
def rL_cell : Room := { frames := 0, cells := 0, slots := 0, locals := 0 }
set_option maxRecDepth 100000 in
set_option maxHeartbeats 4000000 in
theorem kL_cell (l : Launch) (D : va_G) (y : Nat → ClassId) (ad : Nat → Nat) (hI : XI ad 168) (b L : Nat) (xs : Nat → Int32) (hbA : ¬ XA ad 168 b) (v1 : Int32) (u : S) {o : Int32} (hf : fL_cell L xs v1 u = some o) : Met l yL_cell wL_cell rL_cell (va_Pc [.ref b, .int v1] (XWs D y ad u b L xs)) (XQi D y ad LX 168 (o, u)) 0 0 (XA ad 168) := by
  refine y_metS (bytes := cL_cell) (maxL := 2) (ret := (some .int)) (own := RL) (by decide) rfl rfl (Nat.le_of_ble_eq_true rfl) (fun p e s m below meth c ls C0 hK hk hr hX hbl hw hl => ?_)
  have hl : lv_has ls 2 [(0, .ref b), (1, .int v1)] := hl
  unfold fL_cell at hf
  refine lv_iload_n (pc := 0) C0.1 C0.2.1 dL_cell_0 rfl (lv_at hl 1 rfl) ?_
  refine lv_aload_n (pc := 1) C0.1 C0.2.1 dL_cell_1 rfl (lv_at hl 0 rfl) ?_
  refine va_slen (pc := 2) C0.1 C0.2.1 hX hbl hbA hw.2 dL_cell_2 ?_
  obtain ⟨j1, hj1, hf⟩ := bd_e hf
  refine X_join (pc := 3) (xpc := 19) (j := j1) (st := []) hw (fun hE0 => ?_) (fun H locs hw => ?_)
  · have hf := hj1
    refine lv_icmp_ge (tgt := 12) (pc := 3) C0.1 C0.2.1 dL_cell_3 (by decide) (fun hc => ?_) (fun hc => ?_)
    · have hf := if_t hf hc
      refine lv_ldc (pc := 12) C0.1 C0.2.1 C0.2.2.2.1 (C0.2.2.2.2 _ wk_L_7) dL_cell_12 ?_
      refine lv_iload_n (pc := 14) C0.1 C0.2.1 dL_cell_14 rfl (lv_at hl 1 rfl) ?_
      refine lv_imul (pc := 15) C0.1 C0.2.1 dL_cell_15 ?_
      refine lv_ldc (pc := 16) C0.1 C0.2.1 C0.2.2.2.1 (C0.2.2.2.2 _ wk_L_8) dL_cell_16 ?_
      refine lv_iadd (pc := 18) C0.1 C0.2.1 dL_cell_18 ?_
      exact X_leaf hE0 (Option.some.inj hf) hw
    · have hf := if_f hf hc
      refine lv_aload_n (pc := 6) C0.1 C0.2.1 dL_cell_6 rfl (lv_at hl 0 rfl) ?_
      refine lv_iload_n (pc := 7) C0.1 C0.2.1 dL_cell_7 rfl (lv_at hl 1 rfl) ?_
      obtain ⟨hi, hf⟩ := gd_e hf
      refine va_sld (pc := 8) C0.1 C0.2.1 hX hbl hbA hw.2 (inb_in hi) dL_cell_8 ?_
      refine lv_goto (tgt := 19) (pc := 9) C0.1 C0.2.1 dL_cell_9 (by decide) ?_
      exact X_leaf hE0 (Option.some.inj hf) hw
  · skip
    exact x_iret (pc := 19) C0 hK hk hr hw (congrArg (fun z => (z, u)) (Option.some.inj hf)) dL_cell_19
def wL_wide : List Cond := .code yL_wide cL_wide 3 (some .int) :: lwT
def rL_wide : Room := { frames := 6, cells := 0, slots := 0, locals := 137 }
set_option maxRecDepth 100000 in
set_option maxHeartbeats 4000000 in
theorem kL_wide (l : Launch) (D : va_G) (y : Nat → ClassId) (ad : Nat → Nat) (hI : XI ad 168) (v1 : Int32) (v2 : Int32) (u : S) {o : Int32} (hf : fL_wide v1 v2 u = some o) : Met l yL_wide wL_wide rL_wide (va_Pc [.ref (ad 167), .int v1, .int v2] (XW D y ad LX 168 u)) (XQi D y ad LX 168 (o, u)) 0 0 (XA ad 168) := by
  refine z_met (bytes := cL_wide) (maxL := 3) (ret := (some .int)) (own := RL) (by decide) rfl rfl (Nat.le_of_ble_eq_true rfl) (fun p e s m below meth c ls C0 hK hk hr hw hl => ?_)
  have hl : lv_has ls 3 [(0, .ref (ad 167)), (1, .int v1), (2, .int v2)] := hl
  unfold fL_wide at hf
  refine lv_aload_n (pc := 0) C0.1 C0.2.1 dL_wide_0 rfl (lv_at hl 0 rfl) ?_
  refine lv_iload_n (pc := 1) C0.1 C0.2.1 dL_wide_1 rfl (lv_at hl 1 rfl) ?_
  refine lv_iload_n (pc := 2) C0.1 C0.2.1 dL_wide_2 rfl (lv_at hl 2 rfl) ?_
  obtain ⟨j1, hj1, hf⟩ := bd_e hf
  refine X_join (pc := 3) (xpc := 11) (j := j1) (st := [.int v1, .ref (ad 167)]) hw (fun hE0 => ?_) (fun H locs hw => ?_)
  · have hf := hj1
    refine lv_if_eq (tgt := 10) (pc := 3) C0.1 C0.2.1 dL_wide_3 (by decide) (fun hc => ?_) (fun hc => ?_)
    · have hf := if_t hf hc
      refine lv_iconst (v := 0) (pc := 10) C0.1 C0.2.1 dL_wide_10 (by decide) ?_
      exact X_leaf hE0 (Option.some.inj hf) hw
    · have hf := if_f hf hc
      refine lv_iconst (v := 1) (pc := 6) C0.1 C0.2.1 dL_wide_6 (by decide) ?_
      refine lv_goto (tgt := 11) (pc := 7) C0.1 C0.2.1 dL_wide_7 (by decide) ?_
      exact X_leaf hE0 (Option.some.inj hf) hw
  · skip
    obtain ⟨q2, hq2, hf⟩ := bd_e hf
    refine x_backp (pc := 11) hw (x_runV (pc := 11) (As := [.int v1, .int j1]) (rest := []) C0 hK hw hl.1 ⟨Nat.zero_le _, Nat.zero_le _⟩ (kX6_tray l D y ad hI v1 j1 u hq2) (by decide) ly_M rfl rfl wc_X6_tray wm_L_40 wi_X6_tray ws_X6_tray wn_X6 ⟨rfl, rfl⟩ hd_X6_tray rfl ⟨Nat.le_of_ble_eq_true rfl, Nat.le_of_ble_eq_true rfl⟩ (Nat.le_of_ble_eq_true rfl) dL_wide_11) (fun H locs hw => ?_)
    exact x_iret (pc := 14) C0 hK hk hr hw (congrArg (fun z => (z, u)) (Option.some.inj hf)) dL_wide_14
def wL_high : List Cond := .code yL_high cL_high 2 (some .int) :: lwT
def rL_high : Room := { frames := 6, cells := 0, slots := 0, locals := 137 }
set_option maxRecDepth 100000 in
set_option maxHeartbeats 4000000 in
theorem kL_high (l : Launch) (D : va_G) (y : Nat → ClassId) (ad : Nat → Nat) (hI : XI ad 168) (v1 : Int32) (u : S) {o : Int32} (hf : fL_high v1 u = some o) : Met l yL_high wL_high rL_high (va_Pc [.ref (ad 167), .int v1] (XW D y ad LX 168 u)) (XQi D y ad LX 168 (o, u)) 0 0 (XA ad 168) := by
  refine z_met (bytes := cL_high) (maxL := 2) (ret := (some .int)) (own := RL) (by decide) rfl rfl (Nat.le_of_ble_eq_true rfl) (fun p e s m below meth c ls C0 hK hk hr hw hl => ?_)
  have hl : lv_has ls 2 [(0, .ref (ad 167)), (1, .int v1)] := hl
  unfold fL_high at hf
  refine lv_aload_n (pc := 0) C0.1 C0.2.1 dL_high_0 rfl (lv_at hl 0 rfl) ?_
  refine lv_iload_n (pc := 1) C0.1 C0.2.1 dL_high_1 rfl (lv_at hl 1 rfl) ?_
  refine lv_iconst (v := 2) (pc := 2) C0.1 C0.2.1 dL_high_2 (by decide) ?_
  obtain ⟨q1, hq1, hf⟩ := bd_e hf
  refine x_backp (pc := 3) hw (x_runV (pc := 3) (As := [.int v1, .int 2]) (rest := []) C0 hK hw hl.1 ⟨Nat.zero_le _, Nat.zero_le _⟩ (kX6_tray l D y ad hI v1 2 u hq1) (by decide) ly_M rfl rfl wc_X6_tray wm_L_40 wi_X6_tray ws_X6_tray wn_X6 ⟨rfl, rfl⟩ hd_X6_tray rfl ⟨Nat.le_of_ble_eq_true rfl, Nat.le_of_ble_eq_true rfl⟩ (Nat.le_of_ble_eq_true rfl) dL_high_3) (fun H locs hw => ?_)
  refine lv_aload_n (pc := 6) C0.1 C0.2.1 dL_high_6 rfl (lv_at hl 0 rfl) ?_
  refine lv_iload_n (pc := 7) C0.1 C0.2.1 dL_high_7 rfl (lv_at hl 1 rfl) ?_
  refine lv_iconst (v := 4) (pc := 8) C0.1 C0.2.1 dL_high_8 (by decide) ?_
  obtain ⟨q2, hq2, hf⟩ := bd_e hf
  refine x_backp (pc := 9) hw (x_runV (pc := 9) (As := [.int v1, .int 4]) (rest := [.int q1]) C0 hK hw hl.1 ⟨Nat.zero_le _, Nat.zero_le _⟩ (kX6_tray l D y ad hI v1 4 u hq2) (by decide) ly_M rfl rfl wc_X6_tray wm_L_40 wi_X6_tray ws_X6_tray wn_X6 ⟨rfl, rfl⟩ hd_X6_tray rfl ⟨Nat.le_of_ble_eq_true rfl, Nat.le_of_ble_eq_true rfl⟩ (Nat.le_of_ble_eq_true rfl) dL_high_9) (fun H locs hw => ?_)
  refine lv_iadd (pc := 12) C0.1 C0.2.1 dL_high_12 ?_
  exact x_iret (pc := 13) C0 hK hk hr hw (congrArg (fun z => (z, u)) (Option.some.inj hf)) dL_high_13
def wL_look : List Cond := .code yL_look cL_look 10 (some .int) :: lwT
def rL_look : Room := { frames := 7, cells := 0, slots := 0, locals := 159 }
set_option maxRecDepth 100000 in
set_option maxHeartbeats 4000000 in
theorem kL_look (l : Launch) (D : va_G) (y : Nat → ClassId) (ad : Nat → Nat) (hI : XI ad 168) (v1 : Int32) (v2 : Int32) (v3 : Int32) (v4 : Int32) (u : S) {o : Int32} (hf : fL_look v1 v2 v3 v4 u = some o) : Met l yL_look wL_look rL_look (va_Pc [.ref (ad 167), .int v1, .int v2, .int v3, .int v4] (XW D y ad LX 168 u)) (XQi D y ad LX 168 (o, u)) 0 0 (XA ad 168) := by
  refine z_met (bytes := cL_look) (maxL := 10) (ret := (some .int)) (own := RL) (by decide) rfl rfl (Nat.le_of_ble_eq_true rfl) (fun p e s m below meth c ls C0 hK hk hr hw hl => ?_)
  have hl : lv_has ls 10 [(0, .ref (ad 167)), (1, .int v1), (2, .int v2), (3, .int v3), (4, .int v4)] := hl
  unfold fL_look at hf
  refine lv_iconst (v := 0) (pc := 0) C0.1 C0.2.1 dL_look_0 (by decide) ?_
  refine lv_istore (pc := 1) (lv' := [(5, .int 0), (0, .ref (ad 167)), (1, .int v1), (2, .int v2), (3, .int v3), (4, .int v4)]) C0.1 C0.2.1 dL_look_1 hl (by decide) rfl (fun ls hl => ?_)
  refine lv_iconst (v := 0) (pc := 3) C0.1 C0.2.1 dL_look_3 (by decide) ?_
  refine lv_istore (pc := 4) (lv' := [(6, .int 0), (5, .int 0), (0, .ref (ad 167)), (1, .int v1), (2, .int v2), (3, .int v3), (4, .int v4)]) C0.1 C0.2.1 dL_look_4 hl (by decide) rfl (fun ls hl => ?_)
  refine lv_iload_n (pc := 6) C0.1 C0.2.1 dL_look_6 rfl (lv_at hl 4 rfl) ?_
  refine lv_istore (pc := 7) (lv' := [(7, .int v2), (6, .int 0), (5, .int 0), (0, .ref (ad 167)), (1, .int v1), (2, .int v2), (3, .int v3), (4, .int v4)]) C0.1 C0.2.1 dL_look_7 hl (by decide) rfl (fun ls hl => ?_)
  obtain ⟨e1, he1, hf⟩ := bd_e hf
  refine X_loop (pc := 9) (xpc := 116) (fu := fun a1 => u) (fl := fun a1 => [(7, .int a1.2.2), (6, .int a1.2.1), (5, .int a1.1), (0, .ref (ad 167)), (1, .int v1), (2, .int v2), (3, .int v3), (4, .int v4)]) (fun a1 r hf hE hG H locs ls hw hl => ?_) he1 (fun H locs ls hw hl => ?_) hw hl
  · unfold gL_look_9 at hf
    refine lv_iload (pc := 9) C0.1 C0.2.1 dL_look_9 (lv_at hl 0 rfl) ?_
    refine lv_iload_n (pc := 11) C0.1 C0.2.1 dL_look_11 rfl (lv_at hl 5 rfl) ?_
    refine lv_aload_n (pc := 12) C0.1 C0.2.1 dL_look_12 rfl (lv_at hl 3 rfl) ?_
    refine lv_iload_n (pc := 13) C0.1 C0.2.1 dL_look_13 rfl (lv_at hl 4 rfl) ?_
    refine lv_iload (pc := 14) C0.1 C0.2.1 dL_look_14 (lv_at hl 7 rfl) ?_
    obtain ⟨q2, hq2, hf⟩ := bd_e hf
    refine x_backp (pc := 16) hw (x_runS (pc := 16) (As := [.ref (ad 167), .int v1, .int v4]) (rest := [.int v2, .int a1.2.2]) C0 hK hw hl.1 ⟨Nat.zero_le _, Nat.zero_le _⟩ (kL_wide l D y ad hI v1 v4 u hq2) rfl wc_L_wide wm_L_43 wt_L_wide wn_L ⟨rfl, rfl⟩ hd_L_wide rfl ⟨Nat.le_of_ble_eq_true rfl, Nat.le_of_ble_eq_true rfl⟩ (Nat.le_of_ble_eq_true rfl) dL_look_16) (fun H locs hw => ?_)
    refine lv_iadd (pc := 19) C0.1 C0.2.1 dL_look_19 ?_
    refine lv_icmp_ge (tgt := 116) (pc := 20) C0.1 C0.2.1 dL_look_20 (by decide) (fun hc => ?_) (fun hc => ?_)
    · have hf := if_t hf hc
      exact hE _ (Option.some.inj hf).symm H locs ls hw (lv_sub hl [0, 1, 2, 3, 4, 5, 6, 7] rfl)
    · have hf := if_f hf hc
      refine lv_iload_n (pc := 23) C0.1 C0.2.1 dL_look_23 rfl (lv_at hl 6 rfl) ?_
      refine lv_istore (pc := 24) (lv' := [(8, .int v3), (7, .int a1.2.2), (6, .int a1.2.1), (5, .int a1.1), (0, .ref (ad 167)), (1, .int v1), (2, .int v2), (3, .int v3), (4, .int v4)]) C0.1 C0.2.1 dL_look_24 hl (by decide) rfl (fun ls hl => ?_)
      obtain ⟨e3, he3, hf⟩ := bd_e hf
      refine X_loop (pc := 26) (xpc := 110) (fu := fun a2 => u) (fl := fun a2 => [(8, .int a2.2.2), (7, .int a1.2.2), (6, .int a2.2.1), (5, .int a2.1), (0, .ref (ad 167)), (1, .int v1), (2, .int v2), (3, .int v3), (4, .int v4)]) (fun a2 r hf hE hG H locs ls hw hl => ?_) he3 (fun H locs ls hw hl => ?_) hw hl
      · unfold gL_look_26 at hf
        refine lv_iload (pc := 26) C0.1 C0.2.1 dL_look_26 (lv_at hl 0 rfl) ?_
        refine lv_iload_n (pc := 28) C0.1 C0.2.1 dL_look_28 rfl (lv_at hl 7 rfl) ?_
        refine lv_aload_n (pc := 29) C0.1 C0.2.1 dL_look_29 rfl (lv_at hl 4 rfl) ?_
        refine lv_iload_n (pc := 30) C0.1 C0.2.1 dL_look_30 rfl (lv_at hl 5 rfl) ?_
        refine lv_iload (pc := 31) C0.1 C0.2.1 dL_look_31 (lv_at hl 8 rfl) ?_
        obtain ⟨j4, hj4, hf⟩ := bd_e hf
        refine X_join (pc := 33) (xpc := 41) (j := j4) (st := [.int v1, .ref (ad 167), .int v3, .int a2.2.2]) hw (fun hE0 => ?_) (fun H locs hw => ?_)
        · have hf := hj4
          refine lv_if_ne (tgt := 40) (pc := 33) C0.1 C0.2.1 dL_look_33 (by decide) (fun hc => ?_) (fun hc => ?_)
          · have hf := if_f hf hc
            refine lv_iconst (v := 0) (pc := 40) C0.1 C0.2.1 dL_look_40 (by decide) ?_
            exact X_leaf hE0 (Option.some.inj hf) hw
          · have hf := if_t hf hc
            refine lv_iconst (v := 1) (pc := 36) C0.1 C0.2.1 dL_look_36 (by decide) ?_
            refine lv_goto (tgt := 41) (pc := 37) C0.1 C0.2.1 dL_look_37 (by decide) ?_
            exact X_leaf hE0 (Option.some.inj hf) hw
        · skip
          obtain ⟨q5, hq5, hf⟩ := bd_e hf
          refine x_backp (pc := 41) hw (x_runS (pc := 41) (As := [.ref (ad 167), .int v1, .int j4]) (rest := [.int v3, .int a2.2.2]) C0 hK hw hl.1 ⟨Nat.zero_le _, Nat.zero_le _⟩ (kL_wide l D y ad hI v1 j4 u hq5) rfl wc_L_wide wm_L_43 wt_L_wide wn_L ⟨rfl, rfl⟩ hd_L_wide rfl ⟨Nat.le_of_ble_eq_true rfl, Nat.le_of_ble_eq_true rfl⟩ (Nat.le_of_ble_eq_true rfl) dL_look_41) (fun H locs hw => ?_)
          refine lv_iadd (pc := 44) C0.1 C0.2.1 dL_look_44 ?_
          refine lv_icmp_ge (tgt := 110) (pc := 45) C0.1 C0.2.1 dL_look_45 (by decide) (fun hc => ?_) (fun hc => ?_)
          · have hf := if_t hf hc
            exact hE _ (Option.some.inj hf).symm H locs ls hw (lv_sub hl [0, 1, 2, 3, 4, 5, 6, 7, 8] rfl)
          · have hf := if_f hf hc
            refine lv_aload_n (pc := 48) C0.1 C0.2.1 dL_look_48 rfl (lv_at hl 4 rfl) ?_
            refine lv_iload (pc := 49) C0.1 C0.2.1 dL_look_49 (lv_at hl 1 rfl) ?_
            refine lv_iload (pc := 51) C0.1 C0.2.1 dL_look_51 (lv_at hl 0 rfl) ?_
            refine lv_iconst (v := 1) (pc := 53) C0.1 C0.2.1 dL_look_53 (by decide) ?_
            obtain ⟨q6, hq6, hf⟩ := bd_e hf
            refine x_backp (pc := 54) hw (x_runV (pc := 54) (As := [.int a1.2.2, .int a2.2.2, .int 1]) (rest := []) C0 hK hw hl.1 ⟨Nat.zero_le _, Nat.zero_le _⟩ (kX6_seen l D y ad hI a1.2.2 a2.2.2 1 u hq6) (by decide) ly_M rfl rfl wc_X6_seen wm_L_47 wi_X6_seen ws_X6_seen wn_X6 ⟨rfl, rfl⟩ hd_X6_seen rfl ⟨Nat.le_of_ble_eq_true rfl, Nat.le_of_ble_eq_true rfl⟩ (Nat.le_of_ble_eq_true rfl) dL_look_54) (fun H locs hw => ?_)
            refine lv_istore (pc := 57) (lv' := [(9, .int q6), (8, .int a2.2.2), (7, .int a1.2.2), (6, .int a2.2.1), (5, .int a2.1), (0, .ref (ad 167)), (1, .int v1), (2, .int v2), (3, .int v3), (4, .int v4)]) C0.1 C0.2.1 dL_look_57 hl (by decide) rfl (fun ls hl => ?_)
            refine lv_iload (pc := 59) C0.1 C0.2.1 dL_look_59 (lv_at hl 0 rfl) ?_
            refine lv_iload (pc := 61) C0.1 C0.2.1 dL_look_61 (lv_at hl 4 rfl) ?_
            obtain ⟨j7, hj7, hf⟩ := bd_e hf
            refine X_join (pc := 63) (xpc := 86) (j := j7) (st := []) hw (fun hE0 => ?_) (fun H locs hw => ?_)
            · have hf := hj7
              refine lv_icmp_le (tgt := 70) (pc := 63) C0.1 C0.2.1 dL_look_63 (by decide) (fun hc => ?_) (fun hc => ?_)
              · have hf := if_t hf hc
                refine lv_iload (pc := 70) C0.1 C0.2.1 dL_look_70 (lv_at hl 0 rfl) ?_
                refine lv_iload (pc := 72) C0.1 C0.2.1 dL_look_72 (lv_at hl 4 rfl) ?_
                obtain ⟨j8, hj8, hf⟩ := bd_e hf
                refine X_join (pc := 74) (xpc := 86) (j := j8) (st := []) hw (fun hE0 => ?_) (fun H locs hw => ?_)
                · have hf := hj8
                  refine lv_icmp_ne (tgt := 84) (pc := 74) C0.1 C0.2.1 dL_look_74 (by decide) (fun hc => ?_) (fun hc => ?_)
                  · have hf := if_f hf hc
                    refine lv_iload (pc := 84) C0.1 C0.2.1 dL_look_84 (lv_at hl 3 rfl) ?_
                    exact X_leaf hE0 (Option.some.inj hf) hw
                  · have hf := if_t hf hc
                    refine lv_iload (pc := 77) C0.1 C0.2.1 dL_look_77 (lv_at hl 3 rfl) ?_
                    refine lv_iconst (v := 1) (pc := 79) C0.1 C0.2.1 dL_look_79 (by decide) ?_
                    refine lv_iadd (pc := 80) C0.1 C0.2.1 dL_look_80 ?_
                    refine lv_goto (tgt := 86) (pc := 81) C0.1 C0.2.1 dL_look_81 (by decide) ?_
                    exact X_leaf hE0 (Option.some.inj hf) hw
                · skip
                  exact X_leaf hE0 (Option.some.inj hf) hw
              · have hf := if_f hf hc
                refine lv_iconst (v := 1) (pc := 66) C0.1 C0.2.1 dL_look_66 (by decide) ?_
                refine lv_goto (tgt := 86) (pc := 67) C0.1 C0.2.1 dL_look_67 (by decide) ?_
                exact X_leaf hE0 (Option.some.inj hf) hw
            · skip
              refine lv_istore (pc := 86) (lv' := [(6, .int j7), (9, .int q6), (8, .int a2.2.2), (7, .int a1.2.2), (5, .int a2.1), (0, .ref (ad 167)), (1, .int v1), (2, .int v2), (3, .int v3), (4, .int v4)]) C0.1 C0.2.1 dL_look_86 hl (by decide) rfl (fun ls hl => ?_)
              refine lv_iload (pc := 88) C0.1 C0.2.1 dL_look_88 (lv_at hl 1 rfl) ?_
              refine lv_iload (pc := 90) C0.1 C0.2.1 dL_look_90 (lv_at hl 4 rfl) ?_
              obtain ⟨j9, hj9, hf⟩ := bd_e hf
              refine X_join (pc := 92) (xpc := 102) (j := j9) (st := []) hw (fun hE0 => ?_) (fun H locs hw => ?_)
              · have hf := hj9
                refine lv_icmp_le (tgt := 100) (pc := 92) C0.1 C0.2.1 dL_look_92 (by decide) (fun hc => ?_) (fun hc => ?_)
                · have hf := if_t hf hc
                  refine lv_iload (pc := 100) C0.1 C0.2.1 dL_look_100 (lv_at hl 4 rfl) ?_
                  exact X_leaf hE0 (Option.some.inj hf) hw
                · have hf := if_f hf hc
                  refine lv_iload (pc := 95) C0.1 C0.2.1 dL_look_95 (lv_at hl 1 rfl) ?_
                  refine lv_goto (tgt := 102) (pc := 97) C0.1 C0.2.1 dL_look_97 (by decide) ?_
                  exact X_leaf hE0 (Option.some.inj hf) hw
              · skip
                refine lv_istore (pc := 102) (lv' := [(5, .int j9), (6, .int j7), (9, .int q6), (8, .int a2.2.2), (7, .int a1.2.2), (0, .ref (ad 167)), (1, .int v1), (2, .int v2), (3, .int v3), (4, .int v4)]) C0.1 C0.2.1 dL_look_102 hl (by decide) rfl (fun ls hl => ?_)
                refine lv_iinc (pc := 104) (v := a2.2.2 + 1) (lv' := [(8, .int (a2.2.2 + 1)), (5, .int j9), (6, .int j7), (9, .int q6), (7, .int a1.2.2), (0, .ref (ad 167)), (1, .int v1), (2, .int v2), (3, .int v3), (4, .int v4)]) C0.1 C0.2.1 dL_look_104 hl (k := 3) rfl rfl (by decide) rfl (fun ls hl => ?_)
                refine lv_goto (tgt := 26) (pc := 107) C0.1 C0.2.1 dL_look_107 (by decide) ?_
                exact hG _ (Option.some.inj hf).symm H locs ls hw (lv_sub hl [0, 4, 2, 1, 5, 6, 7, 8, 9] rfl)
      · skip
        refine lv_iinc (pc := 110) (v := a1.2.2 + 1) (lv' := [(7, .int (a1.2.2 + 1)), (8, .int e3.2.2), (6, .int e3.2.1), (5, .int e3.1), (0, .ref (ad 167)), (1, .int v1), (2, .int v2), (3, .int v3), (4, .int v4)]) C0.1 C0.2.1 dL_look_110 hl (k := 1) rfl rfl (by decide) rfl (fun ls hl => ?_)
        refine lv_goto (tgt := 9) (pc := 113) C0.1 C0.2.1 dL_look_113 (by decide) ?_
        exact hG _ (Option.some.inj hf).symm H locs ls hw (lv_sub hl [0, 2, 3, 4, 5, 6, 7, 8] rfl)
  · skip
    refine lv_sipush (v := 1000) (pc := 116) C0.1 C0.2.1 dL_look_116 (by decide) ?_
    refine lv_iload (pc := 119) C0.1 C0.2.1 dL_look_119 (lv_at hl 1 rfl) ?_
    refine lv_imul (pc := 121) C0.1 C0.2.1 dL_look_121 ?_
    refine lv_iload (pc := 122) C0.1 C0.2.1 dL_look_122 (lv_at hl 2 rfl) ?_
    refine lv_iadd (pc := 124) C0.1 C0.2.1 dL_look_124 ?_
    exact x_iret (pc := 125) C0 hK hk hr hw (congrArg (fun z => (z, u)) (Option.some.inj hf)) dL_look_125
def wL_canLie : List Cond := .code yL_canLie cL_canLie 6 (some .boolean) :: lwT
def rL_canLie : Room := { frames := 8, cells := 0, slots := 0, locals := 188 }
set_option maxRecDepth 100000 in
set_option maxHeartbeats 4000000 in
theorem kL_canLie (l : Launch) (D : va_G) (y : Nat → ClassId) (ad : Nat → Nat) (hI : XI ad 168) (v1 : Int32) (v2 : Int32) (v3 : Int32) (v4 : Int32) (u : S) {o : Int32} (hf : fL_canLie v1 v2 v3 v4 u = some o) : Met l yL_canLie wL_canLie rL_canLie (va_Pc [.ref (ad 167), .int v1, .int v2, .int v3, .int v4] (XW D y ad LX 168 u)) (XQi D y ad LX 168 (o, u)) 0 0 (XA ad 168) := by
  refine z_met (bytes := cL_canLie) (maxL := 6) (ret := (some .boolean)) (own := RL) (by decide) rfl rfl (Nat.le_of_ble_eq_true rfl) (fun p e s m below meth c ls C0 hK hk hr hw hl => ?_)
  have hl : lv_has ls 6 [(0, .ref (ad 167)), (1, .int v1), (2, .int v2), (3, .int v3), (4, .int v4)] := hl
  unfold fL_canLie at hf
  refine lv_iload_n (pc := 0) C0.1 C0.2.1 dL_canLie_0 rfl (lv_at hl 2 rfl) ?_
  refine lv_if_lt (tgt := 50) (pc := 1) C0.1 C0.2.1 dL_canLie_1 (by decide) (fun hc => ?_) (fun hc => ?_)
  · have hf := if_t hf hc
    refine lv_iconst (v := 0) (pc := 50) C0.1 C0.2.1 dL_canLie_50 (by decide) ?_
    exact x_zret (pc := 51) C0 hK hk hr hw rfl (congrArg (fun z => (z, u)) (Option.some.inj hf)) dL_canLie_51
  · have hf := if_f hf hc
    refine lv_iload_n (pc := 4) C0.1 C0.2.1 dL_canLie_4 rfl (lv_at hl 3 rfl) ?_
    refine lv_if_lt (tgt := 50) (pc := 5) C0.1 C0.2.1 dL_canLie_5 (by decide) (fun hc => ?_) (fun hc => ?_)
    · have hf := if_t hf hc
      refine lv_iconst (v := 0) (pc := 50) C0.1 C0.2.1 dL_canLie_50 (by decide) ?_
      exact x_zret (pc := 51) C0 hK hk hr hw rfl (congrArg (fun z => (z, u)) (Option.some.inj hf)) dL_canLie_51
    · have hf := if_f hf hc
      refine lv_iload_n (pc := 8) C0.1 C0.2.1 dL_canLie_8 rfl (lv_at hl 2 rfl) ?_
      refine lv_aload_n (pc := 9) C0.1 C0.2.1 dL_canLie_9 rfl (lv_at hl 0 rfl) ?_
      refine lv_iload_n (pc := 10) C0.1 C0.2.1 dL_canLie_10 rfl (lv_at hl 1 rfl) ?_
      refine lv_iload (pc := 11) C0.1 C0.2.1 dL_canLie_11 (lv_at hl 4 rfl) ?_
      obtain ⟨q1, hq1, hf⟩ := bd_e hf
      refine x_backp (pc := 13) hw (x_runS (pc := 13) (As := [.ref (ad 167), .int v1, .int v4]) (rest := [.int v2]) C0 hK hw hl.1 ⟨Nat.zero_le _, Nat.zero_le _⟩ (kL_wide l D y ad hI v1 v4 u hq1) rfl wc_L_wide wm_L_43 wt_L_wide wn_L ⟨rfl, rfl⟩ hd_L_wide rfl ⟨Nat.le_of_ble_eq_true rfl, Nat.le_of_ble_eq_true rfl⟩ (Nat.le_of_ble_eq_true rfl) dL_canLie_13) (fun H locs hw => ?_)
      refine lv_iadd (pc := 16) C0.1 C0.2.1 dL_canLie_16 ?_
      refine lv_aload_n (pc := 17) C0.1 C0.2.1 dL_canLie_17 rfl (lv_at hl 0 rfl) ?_
      refine lv_iconst (v := 0) (pc := 18) C0.1 C0.2.1 dL_canLie_18 (by decide) ?_
      obtain ⟨q2, hq2, hf⟩ := bd_e hf
      refine x_backp (pc := 19) hw (x_runV (pc := 19) (As := [.int 0]) (rest := [.int (v2 + q1)]) C0 hK hw hl.1 ⟨Nat.zero_le _, Nat.zero_le _⟩ (kX6_count l D y ad hI 0 u hq2) (by decide) ly_M rfl rfl wc_X6_count wm_L_37 wi_X6_count ws_X6_count wn_X6 ⟨rfl, rfl⟩ hd_X6_count rfl ⟨Nat.le_of_ble_eq_true rfl, Nat.le_of_ble_eq_true rfl⟩ (Nat.le_of_ble_eq_true rfl) dL_canLie_19) (fun H locs hw => ?_)
      refine lv_icmp_gt (tgt := 50) (pc := 22) C0.1 C0.2.1 dL_canLie_22 (by decide) (fun hc => ?_) (fun hc => ?_)
      · have hf := if_t hf hc
        refine lv_iconst (v := 0) (pc := 50) C0.1 C0.2.1 dL_canLie_50 (by decide) ?_
        exact x_zret (pc := 51) C0 hK hk hr hw rfl (congrArg (fun z => (z, u)) (Option.some.inj hf)) dL_canLie_51
      · have hf := if_f hf hc
        refine lv_iload_n (pc := 25) C0.1 C0.2.1 dL_canLie_25 rfl (lv_at hl 3 rfl) ?_
        refine lv_aload_n (pc := 26) C0.1 C0.2.1 dL_canLie_26 rfl (lv_at hl 0 rfl) ?_
        refine lv_iload_n (pc := 27) C0.1 C0.2.1 dL_canLie_27 rfl (lv_at hl 1 rfl) ?_
        refine lv_iload (pc := 28) C0.1 C0.2.1 dL_canLie_28 (lv_at hl 4 rfl) ?_
        obtain ⟨j3, hj3, hf⟩ := bd_e hf
        refine X_join (pc := 30) (xpc := 38) (j := j3) (st := [.int v1, .ref (ad 167), .int v3]) hw (fun hE0 => ?_) (fun H locs hw => ?_)
        · have hf := hj3
          refine lv_if_ne (tgt := 37) (pc := 30) C0.1 C0.2.1 dL_canLie_30 (by decide) (fun hc => ?_) (fun hc => ?_)
          · have hf := if_f hf hc
            refine lv_iconst (v := 0) (pc := 37) C0.1 C0.2.1 dL_canLie_37 (by decide) ?_
            exact X_leaf hE0 (Option.some.inj hf) hw
          · have hf := if_t hf hc
            refine lv_iconst (v := 1) (pc := 33) C0.1 C0.2.1 dL_canLie_33 (by decide) ?_
            refine lv_goto (tgt := 38) (pc := 34) C0.1 C0.2.1 dL_canLie_34 (by decide) ?_
            exact X_leaf hE0 (Option.some.inj hf) hw
        · skip
          obtain ⟨q4, hq4, hf⟩ := bd_e hf
          refine x_backp (pc := 38) hw (x_runS (pc := 38) (As := [.ref (ad 167), .int v1, .int j3]) (rest := [.int v3]) C0 hK hw hl.1 ⟨Nat.zero_le _, Nat.zero_le _⟩ (kL_wide l D y ad hI v1 j3 u hq4) rfl wc_L_wide wm_L_43 wt_L_wide wn_L ⟨rfl, rfl⟩ hd_L_wide rfl ⟨Nat.le_of_ble_eq_true rfl, Nat.le_of_ble_eq_true rfl⟩ (Nat.le_of_ble_eq_true rfl) dL_canLie_38) (fun H locs hw => ?_)
          refine lv_iadd (pc := 41) C0.1 C0.2.1 dL_canLie_41 ?_
          refine lv_aload_n (pc := 42) C0.1 C0.2.1 dL_canLie_42 rfl (lv_at hl 0 rfl) ?_
          refine lv_iconst (v := 1) (pc := 43) C0.1 C0.2.1 dL_canLie_43 (by decide) ?_
          obtain ⟨q5, hq5, hf⟩ := bd_e hf
          refine x_backp (pc := 44) hw (x_runV (pc := 44) (As := [.int 1]) (rest := [.int (v3 + q4)]) C0 hK hw hl.1 ⟨Nat.zero_le _, Nat.zero_le _⟩ (kX6_count l D y ad hI 1 u hq5) (by decide) ly_M rfl rfl wc_X6_count wm_L_37 wi_X6_count ws_X6_count wn_X6 ⟨rfl, rfl⟩ hd_X6_count rfl ⟨Nat.le_of_ble_eq_true rfl, Nat.le_of_ble_eq_true rfl⟩ (Nat.le_of_ble_eq_true rfl) dL_canLie_44) (fun H locs hw => ?_)
          refine lv_icmp_le (tgt := 52) (pc := 47) C0.1 C0.2.1 dL_canLie_47 (by decide) (fun hc => ?_) (fun hc => ?_)
          · have hf := if_t hf hc
            refine lv_aload_n (pc := 52) C0.1 C0.2.1 dL_canLie_52 rfl (lv_at hl 0 rfl) ?_
            refine lv_iload_n (pc := 53) C0.1 C0.2.1 dL_canLie_53 rfl (lv_at hl 1 rfl) ?_
            refine lv_iload_n (pc := 54) C0.1 C0.2.1 dL_canLie_54 rfl (lv_at hl 2 rfl) ?_
            refine lv_iload_n (pc := 55) C0.1 C0.2.1 dL_canLie_55 rfl (lv_at hl 3 rfl) ?_
            refine lv_iload (pc := 56) C0.1 C0.2.1 dL_canLie_56 (lv_at hl 4 rfl) ?_
            obtain ⟨q6, hq6, hf⟩ := bd_e hf
            refine x_backp (pc := 58) hw (x_runS (pc := 58) (As := [.ref (ad 167), .int v1, .int v2, .int v3, .int v4]) (rest := []) C0 hK hw hl.1 ⟨Nat.zero_le _, Nat.zero_le _⟩ (kL_look l D y ad hI v1 v2 v3 v4 u hq6) rfl wc_L_look wm_L_51 wt_L_look wn_L ⟨rfl, rfl⟩ hd_L_look rfl ⟨Nat.le_of_ble_eq_true rfl, Nat.le_of_ble_eq_true rfl⟩ (Nat.le_of_ble_eq_true rfl) dL_canLie_58) (fun H locs hw => ?_)
            refine lv_istore (pc := 61) (lv' := [(5, .int q6), (0, .ref (ad 167)), (1, .int v1), (2, .int v2), (3, .int v3), (4, .int v4)]) C0.1 C0.2.1 dL_canLie_61 hl (by decide) rfl (fun ls hl => ?_)
            refine lv_iload (pc := 63) C0.1 C0.2.1 dL_canLie_63 (lv_at hl 0 rfl) ?_
            refine lv_sipush (v := 1000) (pc := 65) C0.1 C0.2.1 dL_canLie_65 (by decide) ?_
            refine x_irem (pc := 68) C0.1 C0.2.1 dL_canLie_68 (by decide) ?_
            refine lv_aload_n (pc := 69) C0.1 C0.2.1 dL_canLie_69 rfl (lv_at hl 1 rfl) ?_
            refine lv_iload_n (pc := 70) C0.1 C0.2.1 dL_canLie_70 rfl (lv_at hl 2 rfl) ?_
            obtain ⟨q7, hq7, hf⟩ := bd_e hf
            refine x_backp (pc := 71) hw (x_runS (pc := 71) (As := [.ref (ad 167), .int v1]) (rest := [.int (q6 % 1000)]) C0 hK hw hl.1 ⟨Nat.zero_le _, Nat.zero_le _⟩ (kL_high l D y ad hI v1 u hq7) rfl wc_L_high wm_L_55 wt_L_high wn_L ⟨rfl, rfl⟩ hd_L_high rfl ⟨Nat.le_of_ble_eq_true rfl, Nat.le_of_ble_eq_true rfl⟩ (Nat.le_of_ble_eq_true rfl) dL_canLie_71) (fun H locs hw => ?_)
            refine lv_iadd (pc := 74) C0.1 C0.2.1 dL_canLie_74 ?_
            refine lv_aload_n (pc := 75) C0.1 C0.2.1 dL_canLie_75 rfl (lv_at hl 1 rfl) ?_
            refine lv_iconst (v := 2) (pc := 76) C0.1 C0.2.1 dL_canLie_76 (by decide) ?_
            obtain ⟨q8, hq8, hf⟩ := bd_e hf
            refine x_backp (pc := 77) hw (x_runV (pc := 77) (As := [.int 2]) (rest := [.int ((q6 % 1000) + q7)]) C0 hK hw hl.1 ⟨Nat.zero_le _, Nat.zero_le _⟩ (kX6_count l D y ad hI 2 u hq8) (by decide) ly_M rfl rfl wc_X6_count wm_L_37 wi_X6_count ws_X6_count wn_X6 ⟨rfl, rfl⟩ hd_X6_count rfl ⟨Nat.le_of_ble_eq_true rfl, Nat.le_of_ble_eq_true rfl⟩ (Nat.le_of_ble_eq_true rfl) dL_canLie_77) (fun H locs hw => ?_)
            obtain ⟨j9, hj9, hf⟩ := bd_e hf
            refine X_join (pc := 80) (xpc := 119) (j := j9) (st := []) hw (fun hE0 => ?_) (fun H locs hw => ?_)
            · have hf := hj9
              refine lv_icmp_gt (tgt := 118) (pc := 80) C0.1 C0.2.1 dL_canLie_80 (by decide) (fun hc => ?_) (fun hc => ?_)
              · have hf := if_t hf hc
                refine lv_iconst (v := 0) (pc := 118) C0.1 C0.2.1 dL_canLie_118 (by decide) ?_
                exact X_leaf hE0 (Option.some.inj hf) hw
              · have hf := if_f hf hc
                refine lv_bipush (v := 100) (pc := 83) C0.1 C0.2.1 dL_canLie_83 (by decide) ?_
                refine lv_iload (pc := 85) C0.1 C0.2.1 dL_canLie_85 (lv_at hl 0 rfl) ?_
                refine lv_sipush (v := 1000) (pc := 87) C0.1 C0.2.1 dL_canLie_87 (by decide) ?_
                refine lv_idiv (pc := 90) C0.1 C0.2.1 dL_canLie_90 (by decide) ?_
                refine lv_imul (pc := 91) C0.1 C0.2.1 dL_canLie_91 ?_
                refine lv_aload_n (pc := 92) C0.1 C0.2.1 dL_canLie_92 rfl (lv_at hl 1 rfl) ?_
                refine lv_iconst (v := 3) (pc := 93) C0.1 C0.2.1 dL_canLie_93 (by decide) ?_
                obtain ⟨q10, hq10, hf⟩ := bd_e hf
                refine x_backp (pc := 94) hw (x_runV (pc := 94) (As := [.int 3]) (rest := [.int (100 * (q6 / 1000))]) C0 hK hw hl.1 ⟨Nat.zero_le _, Nat.zero_le _⟩ (kX6_count l D y ad hI 3 u hq10) (by decide) ly_M rfl rfl wc_X6_count wm_L_37 wi_X6_count ws_X6_count wn_X6 ⟨rfl, rfl⟩ hd_X6_count rfl ⟨Nat.le_of_ble_eq_true rfl, Nat.le_of_ble_eq_true rfl⟩ (Nat.le_of_ble_eq_true rfl) dL_canLie_94) (fun H locs hw => ?_)
                refine lv_aload_n (pc := 97) C0.1 C0.2.1 dL_canLie_97 rfl (lv_at hl 1 rfl) ?_
                refine lv_iload_n (pc := 98) C0.1 C0.2.1 dL_canLie_98 rfl (lv_at hl 2 rfl) ?_
                refine lv_iconst (v := 0) (pc := 99) C0.1 C0.2.1 dL_canLie_99 (by decide) ?_
                obtain ⟨q11, hq11, hf⟩ := bd_e hf
                refine x_backp (pc := 100) hw (x_runV (pc := 100) (As := [.int v1, .int 0]) (rest := [.int q10, .int (100 * (q6 / 1000))]) C0 hK hw hl.1 ⟨Nat.zero_le _, Nat.zero_le _⟩ (kX6_tray l D y ad hI v1 0 u hq11) (by decide) ly_M rfl rfl wc_X6_tray wm_L_40 wi_X6_tray ws_X6_tray wn_X6 ⟨rfl, rfl⟩ hd_X6_tray rfl ⟨Nat.le_of_ble_eq_true rfl, Nat.le_of_ble_eq_true rfl⟩ (Nat.le_of_ble_eq_true rfl) dL_canLie_100) (fun H locs hw => ?_)
                refine lv_imul (pc := 103) C0.1 C0.2.1 dL_canLie_103 ?_
                refine lv_aload_n (pc := 104) C0.1 C0.2.1 dL_canLie_104 rfl (lv_at hl 1 rfl) ?_
                refine lv_iload_n (pc := 105) C0.1 C0.2.1 dL_canLie_105 rfl (lv_at hl 2 rfl) ?_
                refine lv_iconst (v := 1) (pc := 106) C0.1 C0.2.1 dL_canLie_106 (by decide) ?_
                obtain ⟨q12, hq12, hf⟩ := bd_e hf
                refine x_backp (pc := 107) hw (x_runV (pc := 107) (As := [.int v1, .int 1]) (rest := [.int (q10 * q11), .int (100 * (q6 / 1000))]) C0 hK hw hl.1 ⟨Nat.zero_le _, Nat.zero_le _⟩ (kX6_tray l D y ad hI v1 1 u hq12) (by decide) ly_M rfl rfl wc_X6_tray wm_L_40 wi_X6_tray ws_X6_tray wn_X6 ⟨rfl, rfl⟩ hd_X6_tray rfl ⟨Nat.le_of_ble_eq_true rfl, Nat.le_of_ble_eq_true rfl⟩ (Nat.le_of_ble_eq_true rfl) dL_canLie_107) (fun H locs hw => ?_)
                refine lv_imul (pc := 110) C0.1 C0.2.1 dL_canLie_110 ?_
                obtain ⟨j13, hj13, hf⟩ := bd_e hf
                refine X_join (pc := 111) (xpc := 119) (j := j13) (st := []) hw (fun hE0 => ?_) (fun H locs hw => ?_)
                · have hf := hj13
                  refine lv_icmp_lt (tgt := 118) (pc := 111) C0.1 C0.2.1 dL_canLie_111 (by decide) (fun hc => ?_) (fun hc => ?_)
                  · have hf := if_t hf hc
                    refine lv_iconst (v := 0) (pc := 118) C0.1 C0.2.1 dL_canLie_118 (by decide) ?_
                    exact X_leaf hE0 (Option.some.inj hf) hw
                  · have hf := if_f hf hc
                    refine lv_iconst (v := 1) (pc := 114) C0.1 C0.2.1 dL_canLie_114 (by decide) ?_
                    refine lv_goto (tgt := 119) (pc := 115) C0.1 C0.2.1 dL_canLie_115 (by decide) ?_
                    exact X_leaf hE0 (Option.some.inj hf) hw
                · skip
                  exact X_leaf hE0 (Option.some.inj hf) hw
            · skip
              obtain ⟨hz, hf⟩ := gd_e hf
              exact x_zret (pc := 119) C0 hK hk hr hw hz (congrArg (fun z => (z, u)) (Option.some.inj hf)) dL_canLie_119
          · have hf := if_f hf hc
            refine lv_iconst (v := 0) (pc := 50) C0.1 C0.2.1 dL_canLie_50 (by decide) ?_
            exact x_zret (pc := 51) C0 hK hk hr hw rfl (congrArg (fun z => (z, u)) (Option.some.inj hf)) dL_canLie_51
def wL_covers : List Cond := .code yL_covers cL_covers 5 (some .boolean) :: lwT
def rL_covers : Room := { frames := 7, cells := 0, slots := 0, locals := 159 }
set_option maxRecDepth 100000 in
set_option maxHeartbeats 4000000 in
theorem kL_covers (l : Launch) (D : va_G) (y : Nat → ClassId) (ad : Nat → Nat) (hI : XI ad 168) (v1 : Int32) (v2 : Int32) (v3 : Int32) (u : S) {o : Int32} (hf : fL_covers v1 v2 v3 u = some o) : Met l yL_covers wL_covers rL_covers (va_Pc [.ref (ad 167), .int v1, .int v2, .int v3] (XW D y ad LX 168 u)) (XQi D y ad LX 168 (o, u)) 0 0 (XA ad 168) := by
  refine z_met (bytes := cL_covers) (maxL := 5) (ret := (some .boolean)) (own := RL) (by decide) rfl rfl (Nat.le_of_ble_eq_true rfl) (fun p e s m below meth c ls C0 hK hk hr hw hl => ?_)
  have hl : lv_has ls 5 [(0, .ref (ad 167)), (1, .int v1), (2, .int v2), (3, .int v3)] := hl
  unfold fL_covers at hf
  refine lv_aload_n (pc := 0) C0.1 C0.2.1 dL_covers_0 rfl (lv_at hl 0 rfl) ?_
  refine lv_iload_n (pc := 1) C0.1 C0.2.1 dL_covers_1 rfl (lv_at hl 1 rfl) ?_
  refine lv_bipush (v := 6) (pc := 2) C0.1 C0.2.1 dL_covers_2 (by decide) ?_
  obtain ⟨q1, hq1, hf⟩ := bd_e hf
  refine x_backp (pc := 4) hw (x_runV (pc := 4) (As := [.int v1, .int 6]) (rest := []) C0 hK hw hl.1 ⟨Nat.zero_le _, Nat.zero_le _⟩ (kX6_tray l D y ad hI v1 6 u hq1) (by decide) ly_M rfl rfl wc_X6_tray wm_L_40 wi_X6_tray ws_X6_tray wn_X6 ⟨rfl, rfl⟩ hd_X6_tray rfl ⟨Nat.le_of_ble_eq_true rfl, Nat.le_of_ble_eq_true rfl⟩ (Nat.le_of_ble_eq_true rfl) dL_covers_4) (fun H locs hw => ?_)
  refine lv_iconst (v := 1) (pc := 7) C0.1 C0.2.1 dL_covers_7 (by decide) ?_
  obtain ⟨j2, hj2, hf⟩ := bd_e hf
  refine X_join (pc := 8) (xpc := 16) (j := j2) (st := []) hw (fun hE0 => ?_) (fun H locs hw => ?_)
  · have hf := hj2
    refine lv_icmp_ne (tgt := 15) (pc := 8) C0.1 C0.2.1 dL_covers_8 (by decide) (fun hc => ?_) (fun hc => ?_)
    · have hf := if_f hf hc
      refine lv_iconst (v := 0) (pc := 15) C0.1 C0.2.1 dL_covers_15 (by decide) ?_
      exact X_leaf hE0 (Option.some.inj hf) hw
    · have hf := if_t hf hc
      refine lv_iconst (v := 1) (pc := 11) C0.1 C0.2.1 dL_covers_11 (by decide) ?_
      refine lv_goto (tgt := 16) (pc := 12) C0.1 C0.2.1 dL_covers_12 (by decide) ?_
      exact X_leaf hE0 (Option.some.inj hf) hw
  · skip
    refine lv_istore (pc := 16) (lv' := [(4, .int j2), (0, .ref (ad 167)), (1, .int v1), (2, .int v2), (3, .int v3)]) C0.1 C0.2.1 dL_covers_16 hl (by decide) rfl (fun ls hl => ?_)
    refine lv_aload_n (pc := 18) C0.1 C0.2.1 dL_covers_18 rfl (lv_at hl 1 rfl) ?_
    refine lv_iload_n (pc := 19) C0.1 C0.2.1 dL_covers_19 rfl (lv_at hl 2 rfl) ?_
    refine lv_iconst (v := 5) (pc := 20) C0.1 C0.2.1 dL_covers_20 (by decide) ?_
    obtain ⟨q3, hq3, hf⟩ := bd_e hf
    refine x_backp (pc := 21) hw (x_runV (pc := 21) (As := [.int v1, .int 5]) (rest := []) C0 hK hw hl.1 ⟨Nat.zero_le _, Nat.zero_le _⟩ (kX6_tray l D y ad hI v1 5 u hq3) (by decide) ly_M rfl rfl wc_X6_tray wm_L_40 wi_X6_tray ws_X6_tray wn_X6 ⟨rfl, rfl⟩ hd_X6_tray rfl ⟨Nat.le_of_ble_eq_true rfl, Nat.le_of_ble_eq_true rfl⟩ (Nat.le_of_ble_eq_true rfl) dL_covers_21) (fun H locs hw => ?_)
    refine lv_iconst (v := 1) (pc := 24) C0.1 C0.2.1 dL_covers_24 (by decide) ?_
    obtain ⟨j4, hj4, hf⟩ := bd_e hf
    refine X_join (pc := 25) (xpc := 101) (j := j4) (st := []) hw (fun hE0 => ?_) (fun H locs hw => ?_)
    · have hf := hj4
      refine lv_icmp_ne (tgt := 100) (pc := 25) C0.1 C0.2.1 dL_covers_25 (by decide) (fun hc => ?_) (fun hc => ?_)
      · have hf := if_f hf hc
        refine lv_iconst (v := 0) (pc := 100) C0.1 C0.2.1 dL_covers_100 (by decide) ?_
        exact X_leaf hE0 (Option.some.inj hf) hw
      · have hf := if_t hf hc
        refine lv_iload_n (pc := 28) C0.1 C0.2.1 dL_covers_28 rfl (lv_at hl 3 rfl) ?_
        refine lv_aload_n (pc := 29) C0.1 C0.2.1 dL_covers_29 rfl (lv_at hl 1 rfl) ?_
        refine lv_iload_n (pc := 30) C0.1 C0.2.1 dL_covers_30 rfl (lv_at hl 2 rfl) ?_
        refine lv_bipush (v := 7) (pc := 31) C0.1 C0.2.1 dL_covers_31 (by decide) ?_
        obtain ⟨q5, hq5, hf⟩ := bd_e hf
        refine x_backp (pc := 33) hw (x_runV (pc := 33) (As := [.int v1, .int 7]) (rest := [.int v2]) C0 hK hw hl.1 ⟨Nat.zero_le _, Nat.zero_le _⟩ (kX6_tray l D y ad hI v1 7 u hq5) (by decide) ly_M rfl rfl wc_X6_tray wm_L_40 wi_X6_tray ws_X6_tray wn_X6 ⟨rfl, rfl⟩ hd_X6_tray rfl ⟨Nat.le_of_ble_eq_true rfl, Nat.le_of_ble_eq_true rfl⟩ (Nat.le_of_ble_eq_true rfl) dL_covers_33) (fun H locs hw => ?_)
        obtain ⟨j6, hj6, hf⟩ := bd_e hf
        refine X_join (pc := 36) (xpc := 101) (j := j6) (st := []) hw (fun hE0 => ?_) (fun H locs hw => ?_)
        · have hf := hj6
          refine lv_icmp_lt (tgt := 100) (pc := 36) C0.1 C0.2.1 dL_covers_36 (by decide) (fun hc => ?_) (fun hc => ?_)
          · have hf := if_t hf hc
            refine lv_iconst (v := 0) (pc := 100) C0.1 C0.2.1 dL_covers_100 (by decide) ?_
            exact X_leaf hE0 (Option.some.inj hf) hw
          · have hf := if_f hf hc
            refine lv_iload_n (pc := 39) C0.1 C0.2.1 dL_covers_39 rfl (lv_at hl 3 rfl) ?_
            refine lv_aload_n (pc := 40) C0.1 C0.2.1 dL_covers_40 rfl (lv_at hl 1 rfl) ?_
            refine lv_iload_n (pc := 41) C0.1 C0.2.1 dL_covers_41 rfl (lv_at hl 2 rfl) ?_
            refine lv_bipush (v := 7) (pc := 42) C0.1 C0.2.1 dL_covers_42 (by decide) ?_
            obtain ⟨q7, hq7, hf⟩ := bd_e hf
            refine x_backp (pc := 44) hw (x_runV (pc := 44) (As := [.int v1, .int 7]) (rest := [.int v2]) C0 hK hw hl.1 ⟨Nat.zero_le _, Nat.zero_le _⟩ (kX6_tray l D y ad hI v1 7 u hq7) (by decide) ly_M rfl rfl wc_X6_tray wm_L_40 wi_X6_tray ws_X6_tray wn_X6 ⟨rfl, rfl⟩ hd_X6_tray rfl ⟨Nat.le_of_ble_eq_true rfl, Nat.le_of_ble_eq_true rfl⟩ (Nat.le_of_ble_eq_true rfl) dL_covers_44) (fun H locs hw => ?_)
            refine lv_aload_n (pc := 47) C0.1 C0.2.1 dL_covers_47 rfl (lv_at hl 1 rfl) ?_
            refine lv_iload_n (pc := 48) C0.1 C0.2.1 dL_covers_48 rfl (lv_at hl 2 rfl) ?_
            refine lv_iload (pc := 49) C0.1 C0.2.1 dL_covers_49 (lv_at hl 0 rfl) ?_
            obtain ⟨q8, hq8, hf⟩ := bd_e hf
            refine x_backp (pc := 51) hw (x_runS (pc := 51) (As := [.ref (ad 167), .int v1, .int j2]) (rest := [.int q7, .int v2]) C0 hK hw hl.1 ⟨Nat.zero_le _, Nat.zero_le _⟩ (kL_wide l D y ad hI v1 j2 u hq8) rfl wc_L_wide wm_L_43 wt_L_wide wn_L ⟨rfl, rfl⟩ hd_L_wide rfl ⟨Nat.le_of_ble_eq_true rfl, Nat.le_of_ble_eq_true rfl⟩ (Nat.le_of_ble_eq_true rfl) dL_covers_51) (fun H locs hw => ?_)
            refine lv_iadd (pc := 54) C0.1 C0.2.1 dL_covers_54 ?_
            obtain ⟨j9, hj9, hf⟩ := bd_e hf
            refine X_join (pc := 55) (xpc := 101) (j := j9) (st := []) hw (fun hE0 => ?_) (fun H locs hw => ?_)
            · have hf := hj9
              refine lv_icmp_ge (tgt := 100) (pc := 55) C0.1 C0.2.1 dL_covers_55 (by decide) (fun hc => ?_) (fun hc => ?_)
              · have hf := if_t hf hc
                refine lv_iconst (v := 0) (pc := 100) C0.1 C0.2.1 dL_covers_100 (by decide) ?_
                exact X_leaf hE0 (Option.some.inj hf) hw
              · have hf := if_f hf hc
                refine lv_iload_n (pc := 58) C0.1 C0.2.1 dL_covers_58 rfl (lv_at hl 4 rfl) ?_
                refine lv_aload_n (pc := 59) C0.1 C0.2.1 dL_covers_59 rfl (lv_at hl 1 rfl) ?_
                refine lv_iload_n (pc := 60) C0.1 C0.2.1 dL_covers_60 rfl (lv_at hl 2 rfl) ?_
                refine lv_bipush (v := 8) (pc := 61) C0.1 C0.2.1 dL_covers_61 (by decide) ?_
                obtain ⟨q10, hq10, hf⟩ := bd_e hf
                refine x_backp (pc := 63) hw (x_runV (pc := 63) (As := [.int v1, .int 8]) (rest := [.int v3]) C0 hK hw hl.1 ⟨Nat.zero_le _, Nat.zero_le _⟩ (kX6_tray l D y ad hI v1 8 u hq10) (by decide) ly_M rfl rfl wc_X6_tray wm_L_40 wi_X6_tray ws_X6_tray wn_X6 ⟨rfl, rfl⟩ hd_X6_tray rfl ⟨Nat.le_of_ble_eq_true rfl, Nat.le_of_ble_eq_true rfl⟩ (Nat.le_of_ble_eq_true rfl) dL_covers_63) (fun H locs hw => ?_)
                obtain ⟨j11, hj11, hf⟩ := bd_e hf
                refine X_join (pc := 66) (xpc := 101) (j := j11) (st := []) hw (fun hE0 => ?_) (fun H locs hw => ?_)
                · have hf := hj11
                  refine lv_icmp_lt (tgt := 100) (pc := 66) C0.1 C0.2.1 dL_covers_66 (by decide) (fun hc => ?_) (fun hc => ?_)
                  · have hf := if_t hf hc
                    refine lv_iconst (v := 0) (pc := 100) C0.1 C0.2.1 dL_covers_100 (by decide) ?_
                    exact X_leaf hE0 (Option.some.inj hf) hw
                  · have hf := if_f hf hc
                    refine lv_iload_n (pc := 69) C0.1 C0.2.1 dL_covers_69 rfl (lv_at hl 4 rfl) ?_
                    refine lv_aload_n (pc := 70) C0.1 C0.2.1 dL_covers_70 rfl (lv_at hl 1 rfl) ?_
                    refine lv_iload_n (pc := 71) C0.1 C0.2.1 dL_covers_71 rfl (lv_at hl 2 rfl) ?_
                    refine lv_bipush (v := 8) (pc := 72) C0.1 C0.2.1 dL_covers_72 (by decide) ?_
                    obtain ⟨q12, hq12, hf⟩ := bd_e hf
                    refine x_backp (pc := 74) hw (x_runV (pc := 74) (As := [.int v1, .int 8]) (rest := [.int v3]) C0 hK hw hl.1 ⟨Nat.zero_le _, Nat.zero_le _⟩ (kX6_tray l D y ad hI v1 8 u hq12) (by decide) ly_M rfl rfl wc_X6_tray wm_L_40 wi_X6_tray ws_X6_tray wn_X6 ⟨rfl, rfl⟩ hd_X6_tray rfl ⟨Nat.le_of_ble_eq_true rfl, Nat.le_of_ble_eq_true rfl⟩ (Nat.le_of_ble_eq_true rfl) dL_covers_74) (fun H locs hw => ?_)
                    refine lv_aload_n (pc := 77) C0.1 C0.2.1 dL_covers_77 rfl (lv_at hl 1 rfl) ?_
                    refine lv_iload_n (pc := 78) C0.1 C0.2.1 dL_covers_78 rfl (lv_at hl 2 rfl) ?_
                    refine lv_iload (pc := 79) C0.1 C0.2.1 dL_covers_79 (lv_at hl 0 rfl) ?_
                    obtain ⟨j13, hj13, hf⟩ := bd_e hf
                    refine X_join (pc := 81) (xpc := 89) (j := j13) (st := [.int v1, .ref (ad 167), .int q12, .int v3]) hw (fun hE0 => ?_) (fun H locs hw => ?_)
                    · have hf := hj13
                      refine lv_if_ne (tgt := 88) (pc := 81) C0.1 C0.2.1 dL_covers_81 (by decide) (fun hc => ?_) (fun hc => ?_)
                      · have hf := if_f hf hc
                        refine lv_iconst (v := 0) (pc := 88) C0.1 C0.2.1 dL_covers_88 (by decide) ?_
                        exact X_leaf hE0 (Option.some.inj hf) hw
                      · have hf := if_t hf hc
                        refine lv_iconst (v := 1) (pc := 84) C0.1 C0.2.1 dL_covers_84 (by decide) ?_
                        refine lv_goto (tgt := 89) (pc := 85) C0.1 C0.2.1 dL_covers_85 (by decide) ?_
                        exact X_leaf hE0 (Option.some.inj hf) hw
                    · skip
                      obtain ⟨q14, hq14, hf⟩ := bd_e hf
                      refine x_backp (pc := 89) hw (x_runS (pc := 89) (As := [.ref (ad 167), .int v1, .int j13]) (rest := [.int q12, .int v3]) C0 hK hw hl.1 ⟨Nat.zero_le _, Nat.zero_le _⟩ (kL_wide l D y ad hI v1 j13 u hq14) rfl wc_L_wide wm_L_43 wt_L_wide wn_L ⟨rfl, rfl⟩ hd_L_wide rfl ⟨Nat.le_of_ble_eq_true rfl, Nat.le_of_ble_eq_true rfl⟩ (Nat.le_of_ble_eq_true rfl) dL_covers_89) (fun H locs hw => ?_)
                      refine lv_iadd (pc := 92) C0.1 C0.2.1 dL_covers_92 ?_
                      obtain ⟨j15, hj15, hf⟩ := bd_e hf
                      refine X_join (pc := 93) (xpc := 101) (j := j15) (st := []) hw (fun hE0 => ?_) (fun H locs hw => ?_)
                      · have hf := hj15
                        refine lv_icmp_ge (tgt := 100) (pc := 93) C0.1 C0.2.1 dL_covers_93 (by decide) (fun hc => ?_) (fun hc => ?_)
                        · have hf := if_t hf hc
                          refine lv_iconst (v := 0) (pc := 100) C0.1 C0.2.1 dL_covers_100 (by decide) ?_
                          exact X_leaf hE0 (Option.some.inj hf) hw
                        · have hf := if_f hf hc
                          refine lv_iconst (v := 1) (pc := 96) C0.1 C0.2.1 dL_covers_96 (by decide) ?_
                          refine lv_goto (tgt := 101) (pc := 97) C0.1 C0.2.1 dL_covers_97 (by decide) ?_
                          exact X_leaf hE0 (Option.some.inj hf) hw
                      · skip
                        exact X_leaf hE0 (Option.some.inj hf) hw
                · skip
                  exact X_leaf hE0 (Option.some.inj hf) hw
            · skip
              exact X_leaf hE0 (Option.some.inj hf) hw
        · skip
          exact X_leaf hE0 (Option.some.inj hf) hw
    · skip
      obtain ⟨hz, hf⟩ := gd_e hf
      exact x_zret (pc := 101) C0 hK hk hr hw hz (congrArg (fun z => (z, u)) (Option.some.inj hf)) dL_covers_101
def wL_turn : List Cond := .code yL_turn cL_turn 10 (some .boolean) :: lwT
def rL_turn : Room := { frames := 9, cells := 0, slots := 0, locals := 213 }
set_option maxRecDepth 100000 in
set_option maxHeartbeats 4000000 in
theorem kL_turn (l : Launch) (D : va_G) (y : Nat → ClassId) (ad : Nat → Nat) (hI : XI ad 168) (v1 : Int32) (u : S) {o : Int32 × S} (hf : fL_turn v1 u = some o) : Met l yL_turn wL_turn rL_turn (va_Pc [.ref (ad 167), .int v1] (XW D y ad LX 168 u)) (XQi D y ad LX 168 o) 0 0 (XA ad 168) := by
  refine z_met (bytes := cL_turn) (maxL := 10) (ret := (some .boolean)) (own := RL) (by decide) rfl rfl (Nat.le_of_ble_eq_true rfl) (fun p e s m below meth c ls C0 hK hk hr hw hl => ?_)
  have hl : lv_has ls 10 [(0, .ref (ad 167)), (1, .int v1)] := hl
  unfold fL_turn at hf
  refine lv_iload_n (pc := 0) C0.1 C0.2.1 dL_turn_0 rfl (lv_at hl 1 rfl) ?_
  refine lv_aload_n (pc := 1) C0.1 C0.2.1 dL_turn_1 rfl (lv_at hl 0 rfl) ?_
  refine lv_iconst (v := 4) (pc := 2) C0.1 C0.2.1 dL_turn_2 (by decide) ?_
  obtain ⟨q1, hq1, hf⟩ := bd_e hf
  refine x_backp (pc := 3) hw (x_runV (pc := 3) (As := [.int 4]) (rest := [.int v1]) C0 hK hw hl.1 ⟨Nat.zero_le _, Nat.zero_le _⟩ (kX6_count l D y ad hI 4 u hq1) (by decide) ly_M rfl rfl wc_X6_count wm_L_37 wi_X6_count ws_X6_count wn_X6 ⟨rfl, rfl⟩ hd_X6_count rfl ⟨Nat.le_of_ble_eq_true rfl, Nat.le_of_ble_eq_true rfl⟩ (Nat.le_of_ble_eq_true rfl) dL_turn_3) (fun H locs hw => ?_)
  obtain ⟨q2, hq2, hf⟩ := bd_e hf
  refine x_backp (pc := 6) hw (x_runS (pc := 6) (As := [.int v1, .int q1]) (rest := []) C0 hK hw hl.1 ⟨Nat.zero_le _, Nat.zero_le _⟩ (kL_low l D y ad hI v1 q1 u hq2) rfl wc_L_low wm_L_16 wt_L_low wn_L ⟨rfl, rfl⟩ hd_L_low rfl ⟨Nat.le_of_ble_eq_true rfl, Nat.le_of_ble_eq_true rfl⟩ (Nat.le_of_ble_eq_true rfl) dL_turn_6) (fun H locs hw => ?_)
  refine lv_istore_n (pc := 9) (lv' := [(2, .int q2), (0, .ref (ad 167)), (1, .int v1)]) C0.1 C0.2.1 dL_turn_9 rfl hl (by decide) rfl (fun ls hl => ?_)
  refine lv_iload_n (pc := 10) C0.1 C0.2.1 dL_turn_10 rfl (lv_at hl 2 rfl) ?_
  refine lv_iconst (v := 4) (pc := 11) C0.1 C0.2.1 dL_turn_11 (by decide) ?_
  refine lv_ishr (pc := 12) C0.1 C0.2.1 dL_turn_12 ?_
  refine lv_aload_n (pc := 13) C0.1 C0.2.1 dL_turn_13 rfl (lv_at hl 1 rfl) ?_
  refine lv_iconst (v := 0) (pc := 14) C0.1 C0.2.1 dL_turn_14 (by decide) ?_
  obtain ⟨q3, hq3, hf⟩ := bd_e hf
  refine x_backp (pc := 15) hw (x_runV (pc := 15) (As := [.int 0]) (rest := [.int (v1 >>> (4 &&& 31))]) C0 hK hw hl.1 ⟨Nat.zero_le _, Nat.zero_le _⟩ (kX6_count l D y ad hI 0 u hq3) (by decide) ly_M rfl rfl wc_X6_count wm_L_37 wi_X6_count ws_X6_count wn_X6 ⟨rfl, rfl⟩ hd_X6_count rfl ⟨Nat.le_of_ble_eq_true rfl, Nat.le_of_ble_eq_true rfl⟩ (Nat.le_of_ble_eq_true rfl) dL_turn_15) (fun H locs hw => ?_)
  obtain ⟨q4, hq4, hf⟩ := bd_e hf
  refine x_backp (pc := 18) hw (x_runS (pc := 18) (As := [.int (v1 >>> (4 &&& 31)), .int q3]) (rest := []) C0 hK hw hl.1 ⟨Nat.zero_le _, Nat.zero_le _⟩ (kL_low l D y ad hI (v1 >>> (4 &&& 31)) q3 u hq4) rfl wc_L_low wm_L_16 wt_L_low wn_L ⟨rfl, rfl⟩ hd_L_low rfl ⟨Nat.le_of_ble_eq_true rfl, Nat.le_of_ble_eq_true rfl⟩ (Nat.le_of_ble_eq_true rfl) dL_turn_18) (fun H locs hw => ?_)
  refine lv_istore_n (pc := 21) (lv' := [(3, .int q4), (2, .int q2), (0, .ref (ad 167)), (1, .int v1)]) C0.1 C0.2.1 dL_turn_21 rfl hl (by decide) rfl (fun ls hl => ?_)
  refine lv_iload_n (pc := 22) C0.1 C0.2.1 dL_turn_22 rfl (lv_at hl 3 rfl) ?_
  refine lv_bipush (v := 7) (pc := 23) C0.1 C0.2.1 dL_turn_23 (by decide) ?_
  refine lv_ishr (pc := 25) C0.1 C0.2.1 dL_turn_25 ?_
  refine lv_aload_n (pc := 26) C0.1 C0.2.1 dL_turn_26 rfl (lv_at hl 2 rfl) ?_
  refine lv_iconst (v := 1) (pc := 27) C0.1 C0.2.1 dL_turn_27 (by decide) ?_
  obtain ⟨q5, hq5, hf⟩ := bd_e hf
  refine x_backp (pc := 28) hw (x_runV (pc := 28) (As := [.int 1]) (rest := [.int (v1 >>> (7 &&& 31))]) C0 hK hw hl.1 ⟨Nat.zero_le _, Nat.zero_le _⟩ (kX6_count l D y ad hI 1 u hq5) (by decide) ly_M rfl rfl wc_X6_count wm_L_37 wi_X6_count ws_X6_count wn_X6 ⟨rfl, rfl⟩ hd_X6_count rfl ⟨Nat.le_of_ble_eq_true rfl, Nat.le_of_ble_eq_true rfl⟩ (Nat.le_of_ble_eq_true rfl) dL_turn_28) (fun H locs hw => ?_)
  obtain ⟨q6, hq6, hf⟩ := bd_e hf
  refine x_backp (pc := 31) hw (x_runS (pc := 31) (As := [.int (v1 >>> (7 &&& 31)), .int q5]) (rest := []) C0 hK hw hl.1 ⟨Nat.zero_le _, Nat.zero_le _⟩ (kL_low l D y ad hI (v1 >>> (7 &&& 31)) q5 u hq6) rfl wc_L_low wm_L_16 wt_L_low wn_L ⟨rfl, rfl⟩ hd_L_low rfl ⟨Nat.le_of_ble_eq_true rfl, Nat.le_of_ble_eq_true rfl⟩ (Nat.le_of_ble_eq_true rfl) dL_turn_31) (fun H locs hw => ?_)
  refine lv_istore (pc := 34) (lv' := [(4, .int q6), (3, .int q4), (2, .int q2), (0, .ref (ad 167)), (1, .int v1)]) C0.1 C0.2.1 dL_turn_34 hl (by decide) rfl (fun ls hl => ?_)
  refine lv_iload_n (pc := 36) C0.1 C0.2.1 dL_turn_36 rfl (lv_at hl 4 rfl) ?_
  refine lv_bipush (v := 10) (pc := 37) C0.1 C0.2.1 dL_turn_37 (by decide) ?_
  refine lv_ishr (pc := 39) C0.1 C0.2.1 dL_turn_39 ?_
  refine lv_iconst (v := 3) (pc := 40) C0.1 C0.2.1 dL_turn_40 (by decide) ?_
  obtain ⟨q7, hq7, hf⟩ := bd_e hf
  refine x_backp (pc := 41) hw (x_runS (pc := 41) (As := [.int (v1 >>> (10 &&& 31)), .int 3]) (rest := []) C0 hK hw hl.1 ⟨Nat.zero_le _, Nat.zero_le _⟩ (kL_low l D y ad hI (v1 >>> (10 &&& 31)) 3 u hq7) rfl wc_L_low wm_L_16 wt_L_low wn_L ⟨rfl, rfl⟩ hd_L_low rfl ⟨Nat.le_of_ble_eq_true rfl, Nat.le_of_ble_eq_true rfl⟩ (Nat.le_of_ble_eq_true rfl) dL_turn_41) (fun H locs hw => ?_)
  obtain ⟨j8, hj8, hf⟩ := bd_e hf
  refine X_join (pc := 44) (xpc := 52) (j := j8) (st := []) hw (fun hE0 => ?_) (fun H locs hw => ?_)
  · have hf := hj8
    refine lv_if_ne (tgt := 51) (pc := 44) C0.1 C0.2.1 dL_turn_44 (by decide) (fun hc => ?_) (fun hc => ?_)
    · have hf := if_f hf hc
      refine lv_iconst (v := 0) (pc := 51) C0.1 C0.2.1 dL_turn_51 (by decide) ?_
      exact X_leaf hE0 (Option.some.inj hf) hw
    · have hf := if_t hf hc
      refine lv_iconst (v := 1) (pc := 47) C0.1 C0.2.1 dL_turn_47 (by decide) ?_
      refine lv_goto (tgt := 52) (pc := 48) C0.1 C0.2.1 dL_turn_48 (by decide) ?_
      exact X_leaf hE0 (Option.some.inj hf) hw
  · skip
    refine lv_istore (pc := 52) (lv' := [(5, .int j8), (4, .int q6), (3, .int q4), (2, .int q2), (0, .ref (ad 167)), (1, .int v1)]) C0.1 C0.2.1 dL_turn_52 hl (by decide) rfl (fun ls hl => ?_)
    refine lv_iload_n (pc := 54) C0.1 C0.2.1 dL_turn_54 rfl (lv_at hl 2 rfl) ?_
    refine lv_aload_n (pc := 55) C0.1 C0.2.1 dL_turn_55 rfl (lv_at hl 4 rfl) ?_
    refine lv_iload_n (pc := 56) C0.1 C0.2.1 dL_turn_56 rfl (lv_at hl 3 rfl) ?_
    refine lv_iload (pc := 57) C0.1 C0.2.1 dL_turn_57 (lv_at hl 0 rfl) ?_
    obtain ⟨q9, hq9, hf⟩ := bd_e hf
    refine x_backp (pc := 59) hw (x_runS (pc := 59) (As := [.ref (ad 167), .int q2, .int j8]) (rest := [.int q4]) C0 hK hw hl.1 ⟨Nat.zero_le _, Nat.zero_le _⟩ (kL_wide l D y ad hI q2 j8 u hq9) rfl wc_L_wide wm_L_43 wt_L_wide wn_L ⟨rfl, rfl⟩ hd_L_wide rfl ⟨Nat.le_of_ble_eq_true rfl, Nat.le_of_ble_eq_true rfl⟩ (Nat.le_of_ble_eq_true rfl) dL_turn_59) (fun H locs hw => ?_)
    refine lv_iadd (pc := 62) C0.1 C0.2.1 dL_turn_62 ?_
    refine lv_aload_n (pc := 63) C0.1 C0.2.1 dL_turn_63 rfl (lv_at hl 4 rfl) ?_
    refine lv_iconst (v := 0) (pc := 64) C0.1 C0.2.1 dL_turn_64 (by decide) ?_
    obtain ⟨q10, hq10, hf⟩ := bd_e hf
    refine x_backp (pc := 65) hw (x_runV (pc := 65) (As := [.int 0]) (rest := [.int (q4 + q9)]) C0 hK hw hl.1 ⟨Nat.zero_le _, Nat.zero_le _⟩ (kX6_count l D y ad hI 0 u hq10) (by decide) ly_M rfl rfl wc_X6_count wm_L_37 wi_X6_count ws_X6_count wn_X6 ⟨rfl, rfl⟩ hd_X6_count rfl ⟨Nat.le_of_ble_eq_true rfl, Nat.le_of_ble_eq_true rfl⟩ (Nat.le_of_ble_eq_true rfl) dL_turn_65) (fun H locs hw => ?_)
    obtain ⟨j11, hj11, hf⟩ := bd_e hf
    refine X_join (pc := 68) (xpc := 102) (j := j11) (st := []) hw (fun hE0 => ?_) (fun H locs hw => ?_)
    · have hf := hj11
      refine lv_icmp_gt (tgt := 101) (pc := 68) C0.1 C0.2.1 dL_turn_68 (by decide) (fun hc => ?_) (fun hc => ?_)
      · have hf := if_t hf hc
        refine lv_iconst (v := 0) (pc := 101) C0.1 C0.2.1 dL_turn_101 (by decide) ?_
        exact X_leaf hE0 (Option.some.inj hf) hw
      · have hf := if_f hf hc
        refine lv_iload (pc := 71) C0.1 C0.2.1 dL_turn_71 (lv_at hl 1 rfl) ?_
        refine lv_aload_n (pc := 73) C0.1 C0.2.1 dL_turn_73 rfl (lv_at hl 4 rfl) ?_
        refine lv_iload_n (pc := 74) C0.1 C0.2.1 dL_turn_74 rfl (lv_at hl 3 rfl) ?_
        refine lv_iload (pc := 75) C0.1 C0.2.1 dL_turn_75 (lv_at hl 0 rfl) ?_
        obtain ⟨j12, hj12, hf⟩ := bd_e hf
        refine X_join (pc := 77) (xpc := 85) (j := j12) (st := [.int q2, .ref (ad 167), .int q6]) hw (fun hE0 => ?_) (fun H locs hw => ?_)
        · have hf := hj12
          refine lv_if_ne (tgt := 84) (pc := 77) C0.1 C0.2.1 dL_turn_77 (by decide) (fun hc => ?_) (fun hc => ?_)
          · have hf := if_f hf hc
            refine lv_iconst (v := 0) (pc := 84) C0.1 C0.2.1 dL_turn_84 (by decide) ?_
            exact X_leaf hE0 (Option.some.inj hf) hw
          · have hf := if_t hf hc
            refine lv_iconst (v := 1) (pc := 80) C0.1 C0.2.1 dL_turn_80 (by decide) ?_
            refine lv_goto (tgt := 85) (pc := 81) C0.1 C0.2.1 dL_turn_81 (by decide) ?_
            exact X_leaf hE0 (Option.some.inj hf) hw
        · skip
          obtain ⟨q13, hq13, hf⟩ := bd_e hf
          refine x_backp (pc := 85) hw (x_runS (pc := 85) (As := [.ref (ad 167), .int q2, .int j12]) (rest := [.int q6]) C0 hK hw hl.1 ⟨Nat.zero_le _, Nat.zero_le _⟩ (kL_wide l D y ad hI q2 j12 u hq13) rfl wc_L_wide wm_L_43 wt_L_wide wn_L ⟨rfl, rfl⟩ hd_L_wide rfl ⟨Nat.le_of_ble_eq_true rfl, Nat.le_of_ble_eq_true rfl⟩ (Nat.le_of_ble_eq_true rfl) dL_turn_85) (fun H locs hw => ?_)
          refine lv_iadd (pc := 88) C0.1 C0.2.1 dL_turn_88 ?_
          refine lv_aload_n (pc := 89) C0.1 C0.2.1 dL_turn_89 rfl (lv_at hl 4 rfl) ?_
          refine lv_iconst (v := 1) (pc := 90) C0.1 C0.2.1 dL_turn_90 (by decide) ?_
          obtain ⟨q14, hq14, hf⟩ := bd_e hf
          refine x_backp (pc := 91) hw (x_runV (pc := 91) (As := [.int 1]) (rest := [.int (q6 + q13)]) C0 hK hw hl.1 ⟨Nat.zero_le _, Nat.zero_le _⟩ (kX6_count l D y ad hI 1 u hq14) (by decide) ly_M rfl rfl wc_X6_count wm_L_37 wi_X6_count ws_X6_count wn_X6 ⟨rfl, rfl⟩ hd_X6_count rfl ⟨Nat.le_of_ble_eq_true rfl, Nat.le_of_ble_eq_true rfl⟩ (Nat.le_of_ble_eq_true rfl) dL_turn_91) (fun H locs hw => ?_)
          obtain ⟨j15, hj15, hf⟩ := bd_e hf
          refine X_join (pc := 94) (xpc := 102) (j := j15) (st := []) hw (fun hE0 => ?_) (fun H locs hw => ?_)
          · have hf := hj15
            refine lv_icmp_gt (tgt := 101) (pc := 94) C0.1 C0.2.1 dL_turn_94 (by decide) (fun hc => ?_) (fun hc => ?_)
            · have hf := if_t hf hc
              refine lv_iconst (v := 0) (pc := 101) C0.1 C0.2.1 dL_turn_101 (by decide) ?_
              exact X_leaf hE0 (Option.some.inj hf) hw
            · have hf := if_f hf hc
              refine lv_iconst (v := 1) (pc := 97) C0.1 C0.2.1 dL_turn_97 (by decide) ?_
              refine lv_goto (tgt := 102) (pc := 98) C0.1 C0.2.1 dL_turn_98 (by decide) ?_
              exact X_leaf hE0 (Option.some.inj hf) hw
          · skip
            exact X_leaf hE0 (Option.some.inj hf) hw
    · skip
      refine lv_istore (pc := 102) (lv' := [(6, .int j11), (5, .int j8), (4, .int q6), (3, .int q4), (2, .int q2), (0, .ref (ad 167)), (1, .int v1)]) C0.1 C0.2.1 dL_turn_102 hl (by decide) rfl (fun ls hl => ?_)
      refine lv_aload_n (pc := 104) C0.1 C0.2.1 dL_turn_104 rfl (lv_at hl 5 rfl) ?_
      refine lv_iload_n (pc := 105) C0.1 C0.2.1 dL_turn_105 rfl (lv_at hl 4 rfl) ?_
      refine lv_iconst (v := 5) (pc := 106) C0.1 C0.2.1 dL_turn_106 (by decide) ?_
      obtain ⟨q16, hq16, hf⟩ := bd_e hf
      refine x_backp (pc := 107) hw (x_runV (pc := 107) (As := [.int q2, .int 5]) (rest := []) C0 hK hw hl.1 ⟨Nat.zero_le _, Nat.zero_le _⟩ (kX6_tray l D y ad hI q2 5 u hq16) (by decide) ly_M rfl rfl wc_X6_tray wm_L_40 wi_X6_tray ws_X6_tray wn_X6 ⟨rfl, rfl⟩ hd_X6_tray rfl ⟨Nat.le_of_ble_eq_true rfl, Nat.le_of_ble_eq_true rfl⟩ (Nat.le_of_ble_eq_true rfl) dL_turn_107) (fun H locs hw => ?_)
      refine lv_iconst (v := 1) (pc := 110) C0.1 C0.2.1 dL_turn_110 (by decide) ?_
      refine lv_icmp_ne (tgt := 222) (pc := 111) C0.1 C0.2.1 dL_turn_111 (by decide) (fun hc => ?_) (fun hc => ?_)
      · have hf := if_f hf hc
        refine lv_aload_n (pc := 222) C0.1 C0.2.1 dL_turn_222 rfl (lv_at hl 5 rfl) ?_
        refine lv_iload_n (pc := 223) C0.1 C0.2.1 dL_turn_223 rfl (lv_at hl 4 rfl) ?_
        refine lv_iload_n (pc := 224) C0.1 C0.2.1 dL_turn_224 rfl (lv_at hl 3 rfl) ?_
        refine lv_iload (pc := 225) C0.1 C0.2.1 dL_turn_225 (lv_at hl 2 rfl) ?_
        refine lv_iload (pc := 227) C0.1 C0.2.1 dL_turn_227 (lv_at hl 1 rfl) ?_
        obtain ⟨q17, hq17, hf⟩ := bd_e hf
        refine x_backp (pc := 229) hw (x_runS (pc := 229) (As := [.ref (ad 167), .int q2, .int q4, .int q6, .int j8]) (rest := []) C0 hK hw hl.1 ⟨Nat.zero_le _, Nat.zero_le _⟩ (kL_canLie l D y ad hI q2 q4 q6 j8 u hq17) rfl wc_L_canLie wm_L_66 wt_L_canLie wn_L ⟨rfl, rfl⟩ hd_L_canLie rfl ⟨Nat.le_of_ble_eq_true rfl, Nat.le_of_ble_eq_true rfl⟩ (Nat.le_of_ble_eq_true rfl) dL_turn_229) (fun H locs hw => ?_)
        refine lv_istore (pc := 232) (lv' := [(7, .int q17), (6, .int j11), (5, .int j8), (4, .int q6), (3, .int q4), (2, .int q2), (0, .ref (ad 167)), (1, .int v1)]) C0.1 C0.2.1 dL_turn_232 hl (by decide) rfl (fun ls hl => ?_)
        refine lv_iload (pc := 234) C0.1 C0.2.1 dL_turn_234 (lv_at hl 1 rfl) ?_
        obtain ⟨j18, hj18, hf⟩ := bd_e hf
        refine X_join (pc := 236) (xpc := 257) (j := j18) (st := []) hw (fun hE0 => ?_) (fun H locs hw => ?_)
        · have hf := hj18
          refine lv_if_eq (tgt := 256) (pc := 236) C0.1 C0.2.1 dL_turn_236 (by decide) (fun hc => ?_) (fun hc => ?_)
          · have hf := if_t hf hc
            refine lv_iconst (v := 0) (pc := 256) C0.1 C0.2.1 dL_turn_256 (by decide) ?_
            exact X_leaf hE0 (Option.some.inj hf) hw
          · have hf := if_f hf hc
            refine lv_aload_n (pc := 239) C0.1 C0.2.1 dL_turn_239 rfl (lv_at hl 6 rfl) ?_
            refine lv_iload_n (pc := 240) C0.1 C0.2.1 dL_turn_240 rfl (lv_at hl 5 rfl) ?_
            refine lv_iload_n (pc := 241) C0.1 C0.2.1 dL_turn_241 rfl (lv_at hl 4 rfl) ?_
            refine lv_iload (pc := 242) C0.1 C0.2.1 dL_turn_242 (lv_at hl 3 rfl) ?_
            refine lv_iload (pc := 244) C0.1 C0.2.1 dL_turn_244 (lv_at hl 2 rfl) ?_
            obtain ⟨q19, hq19, hf⟩ := bd_e hf
            refine x_backp (pc := 246) hw (x_runS (pc := 246) (As := [.ref (ad 167), .int q2, .int q4, .int q6, .int j8]) (rest := []) C0 hK hw hl.1 ⟨Nat.zero_le _, Nat.zero_le _⟩ (kL_look l D y ad hI q2 q4 q6 j8 u hq19) rfl wc_L_look wm_L_51 wt_L_look wn_L ⟨rfl, rfl⟩ hd_L_look rfl ⟨Nat.le_of_ble_eq_true rfl, Nat.le_of_ble_eq_true rfl⟩ (Nat.le_of_ble_eq_true rfl) dL_turn_246) (fun H locs hw => ?_)
            refine lv_sipush (v := 1000) (pc := 249) C0.1 C0.2.1 dL_turn_249 (by decide) ?_
            refine x_irem (pc := 252) C0.1 C0.2.1 dL_turn_252 (by decide) ?_
            refine lv_goto (tgt := 257) (pc := 253) C0.1 C0.2.1 dL_turn_253 (by decide) ?_
            exact X_leaf hE0 (Option.some.inj hf) hw
        · skip
          refine lv_istore (pc := 257) (lv' := [(8, .int j18), (7, .int q17), (6, .int j11), (5, .int j8), (4, .int q6), (3, .int q4), (2, .int q2), (0, .ref (ad 167)), (1, .int v1)]) C0.1 C0.2.1 dL_turn_257 hl (by decide) rfl (fun ls hl => ?_)
          refine lv_aload_n (pc := 259) C0.1 C0.2.1 dL_turn_259 rfl (lv_at hl 7 rfl) ?_
          refine lv_iload_n (pc := 260) C0.1 C0.2.1 dL_turn_260 rfl (lv_at hl 6 rfl) ?_
          refine lv_iload_n (pc := 261) C0.1 C0.2.1 dL_turn_261 rfl (lv_at hl 5 rfl) ?_
          refine lv_iload (pc := 262) C0.1 C0.2.1 dL_turn_262 (lv_at hl 4 rfl) ?_
          refine lv_iload (pc := 264) C0.1 C0.2.1 dL_turn_264 (lv_at hl 3 rfl) ?_
          obtain ⟨q20, hq20, hf⟩ := bd_e hf
          refine x_back (pc := 266) hw (x_runV (pc := 266) (As := [.int q2, .int q4, .int q6, .int j8]) (rest := []) C0 hK hw hl.1 ⟨Nat.zero_le _, Nat.zero_le _⟩ (kX6_letDown l D y ad hI q2 q4 q6 j8 u hq20) (by decide) ly_M rfl rfl wc_X6_letDown wm_L_83 wi_X6_letDown ws_X6_letDown wn_X6 ⟨rfl, rfl⟩ hd_X6_letDown rfl ⟨Nat.le_of_ble_eq_true rfl, Nat.le_of_ble_eq_true rfl⟩ (Nat.le_of_ble_eq_true rfl) dL_turn_266) (fun H locs hw => ?_)
          refine lv_istore (pc := 269) (lv' := [(9, .int q20.1), (8, .int j18), (7, .int q17), (6, .int j11), (5, .int j8), (4, .int q6), (3, .int q4), (2, .int q2), (0, .ref (ad 167)), (1, .int v1)]) C0.1 C0.2.1 dL_turn_269 hl (by decide) rfl (fun ls hl => ?_)
          refine lv_iload (pc := 271) C0.1 C0.2.1 dL_turn_271 (lv_at hl 0 rfl) ?_
          refine lv_iload (pc := 273) C0.1 C0.2.1 dL_turn_273 (lv_at hl 3 rfl) ?_
          obtain ⟨j21, hj21, hf⟩ := bd_e hf
          refine X_join (pc := 275) (xpc := 294) (j := j21) (st := [.int q20.1]) hw (fun hE0 => ?_) (fun H locs hw => ?_)
          · have hf := hj21
            refine lv_if_ne (tgt := 282) (pc := 275) C0.1 C0.2.1 dL_turn_275 (by decide) (fun hc => ?_) (fun hc => ?_)
            · have hf := if_f hf hc
              refine lv_iload (pc := 282) C0.1 C0.2.1 dL_turn_282 (lv_at hl 2 rfl) ?_
              obtain ⟨j22, hj22, hf⟩ := bd_e hf
              refine X_join (pc := 284) (xpc := 294) (j := j22) (st := [.int q20.1]) hw (fun hE0 => ?_) (fun H locs hw => ?_)
              · have hf := hj22
                refine lv_if_eq (tgt := 292) (pc := 284) C0.1 C0.2.1 dL_turn_284 (by decide) (fun hc => ?_) (fun hc => ?_)
                · have hf := if_t hf hc
                  refine lv_bipush (v := (-3)) (pc := 292) C0.1 C0.2.1 dL_turn_292 (by decide) ?_
                  exact X_leaf hE0 (Option.some.inj hf) hw
                · have hf := if_f hf hc
                  refine lv_iload (pc := 287) C0.1 C0.2.1 dL_turn_287 (lv_at hl 1 rfl) ?_
                  refine lv_goto (tgt := 294) (pc := 289) C0.1 C0.2.1 dL_turn_289 (by decide) ?_
                  exact X_leaf hE0 (Option.some.inj hf) hw
              · skip
                exact X_leaf hE0 (Option.some.inj hf) hw
            · have hf := if_t hf hc
              refine lv_iconst (v := (-1)) (pc := 278) C0.1 C0.2.1 dL_turn_278 (by decide) ?_
              refine lv_goto (tgt := 294) (pc := 279) C0.1 C0.2.1 dL_turn_279 (by decide) ?_
              exact X_leaf hE0 (Option.some.inj hf) hw
          · skip
            obtain ⟨j23, hj23, hf⟩ := bd_e hf
            refine X_join (pc := 294) (xpc := 342) (j := j23) (st := []) hw (fun hE0 => ?_) (fun H locs hw => ?_)
            · have hf := hj23
              refine lv_icmp_ne (tgt := 341) (pc := 294) C0.1 C0.2.1 dL_turn_294 (by decide) (fun hc => ?_) (fun hc => ?_)
              · have hf := if_f hf hc
                refine lv_iconst (v := 0) (pc := 341) C0.1 C0.2.1 dL_turn_341 (by decide) ?_
                exact X_leaf hE0 (Option.some.inj hf) hw
              · have hf := if_t hf hc
                refine lv_iload (pc := 297) C0.1 C0.2.1 dL_turn_297 (lv_at hl 2 rfl) ?_
                obtain ⟨j24, hj24, hf⟩ := bd_e hf
                refine X_join (pc := 299) (xpc := 342) (j := j24) (st := []) hw (fun hE0 => ?_) (fun H locs hw => ?_)
                · have hf := hj24
                  refine lv_if_eq (tgt := 337) (pc := 299) C0.1 C0.2.1 dL_turn_299 (by decide) (fun hc => ?_) (fun hc => ?_)
                  · have hf := if_t hf hc
                    refine lv_iconst (v := 1) (pc := 337) C0.1 C0.2.1 dL_turn_337 (by decide) ?_
                    refine lv_goto (tgt := 342) (pc := 338) C0.1 C0.2.1 dL_turn_338 (by decide) ?_
                    exact X_leaf hE0 (Option.some.inj hf) hw
                  · have hf := if_f hf hc
                    refine lv_aload_n (pc := 302) C0.1 C0.2.1 dL_turn_302 rfl (lv_at hl 8 rfl) ?_
                    refine lv_iload_n (pc := 303) C0.1 C0.2.1 dL_turn_303 rfl (lv_at hl 7 rfl) ?_
                    refine lv_bipush (v := 7) (pc := 304) C0.1 C0.2.1 dL_turn_304 (by decide) ?_
                    obtain ⟨q25, hq25, hf⟩ := bd_e hf
                    refine x_backp (pc := 306) hw (x_runV (pc := 306) (As := [.int q2, .int 7]) (rest := []) C0 hK hw hl.1 ⟨Nat.zero_le _, Nat.zero_le _⟩ (kX6_tray l D y ad hI q2 7 q20.2 hq25) (by decide) ly_M rfl rfl wc_X6_tray wm_L_40 wi_X6_tray ws_X6_tray wn_X6 ⟨rfl, rfl⟩ hd_X6_tray rfl ⟨Nat.le_of_ble_eq_true rfl, Nat.le_of_ble_eq_true rfl⟩ (Nat.le_of_ble_eq_true rfl) dL_turn_306) (fun H locs hw => ?_)
                    refine lv_iload_n (pc := 309) C0.1 C0.2.1 dL_turn_309 rfl (lv_at hl 6 rfl) ?_
                    obtain ⟨j26, hj26, hf⟩ := bd_e hf
                    refine X_join (pc := 310) (xpc := 342) (j := j26) (st := []) hw (fun hE0 => ?_) (fun H locs hw => ?_)
                    · have hf := hj26
                      refine lv_icmp_ne (tgt := 341) (pc := 310) C0.1 C0.2.1 dL_turn_310 (by decide) (fun hc => ?_) (fun hc => ?_)
                      · have hf := if_f hf hc
                        refine lv_iconst (v := 0) (pc := 341) C0.1 C0.2.1 dL_turn_341 (by decide) ?_
                        exact X_leaf hE0 (Option.some.inj hf) hw
                      · have hf := if_t hf hc
                        refine lv_aload_n (pc := 313) C0.1 C0.2.1 dL_turn_313 rfl (lv_at hl 8 rfl) ?_
                        refine lv_iload_n (pc := 314) C0.1 C0.2.1 dL_turn_314 rfl (lv_at hl 7 rfl) ?_
                        refine lv_bipush (v := 8) (pc := 315) C0.1 C0.2.1 dL_turn_315 (by decide) ?_
                        obtain ⟨q27, hq27, hf⟩ := bd_e hf
                        refine x_backp (pc := 317) hw (x_runV (pc := 317) (As := [.int q2, .int 8]) (rest := []) C0 hK hw hl.1 ⟨Nat.zero_le _, Nat.zero_le _⟩ (kX6_tray l D y ad hI q2 8 q20.2 hq27) (by decide) ly_M rfl rfl wc_X6_tray wm_L_40 wi_X6_tray ws_X6_tray wn_X6 ⟨rfl, rfl⟩ hd_X6_tray rfl ⟨Nat.le_of_ble_eq_true rfl, Nat.le_of_ble_eq_true rfl⟩ (Nat.le_of_ble_eq_true rfl) dL_turn_317) (fun H locs hw => ?_)
                        refine lv_iload (pc := 320) C0.1 C0.2.1 dL_turn_320 (lv_at hl 5 rfl) ?_
                        obtain ⟨j28, hj28, hf⟩ := bd_e hf
                        refine X_join (pc := 322) (xpc := 342) (j := j28) (st := []) hw (fun hE0 => ?_) (fun H locs hw => ?_)
                        · have hf := hj28
                          refine lv_icmp_ne (tgt := 341) (pc := 322) C0.1 C0.2.1 dL_turn_322 (by decide) (fun hc => ?_) (fun hc => ?_)
                          · have hf := if_f hf hc
                            refine lv_iconst (v := 0) (pc := 341) C0.1 C0.2.1 dL_turn_341 (by decide) ?_
                            exact X_leaf hE0 (Option.some.inj hf) hw
                          · have hf := if_t hf hc
                            refine lv_aload_n (pc := 325) C0.1 C0.2.1 dL_turn_325 rfl (lv_at hl 8 rfl) ?_
                            refine lv_iload_n (pc := 326) C0.1 C0.2.1 dL_turn_326 rfl (lv_at hl 7 rfl) ?_
                            refine lv_bipush (v := 9) (pc := 327) C0.1 C0.2.1 dL_turn_327 (by decide) ?_
                            obtain ⟨q29, hq29, hf⟩ := bd_e hf
                            refine x_backp (pc := 329) hw (x_runV (pc := 329) (As := [.int q2, .int 9]) (rest := []) C0 hK hw hl.1 ⟨Nat.zero_le _, Nat.zero_le _⟩ (kX6_tray l D y ad hI q2 9 q20.2 hq29) (by decide) ly_M rfl rfl wc_X6_tray wm_L_40 wi_X6_tray ws_X6_tray wn_X6 ⟨rfl, rfl⟩ hd_X6_tray rfl ⟨Nat.le_of_ble_eq_true rfl, Nat.le_of_ble_eq_true rfl⟩ (Nat.le_of_ble_eq_true rfl) dL_turn_329) (fun H locs hw => ?_)
                            refine lv_iload (pc := 332) C0.1 C0.2.1 dL_turn_332 (lv_at hl 1 rfl) ?_
                            obtain ⟨j30, hj30, hf⟩ := bd_e hf
                            refine X_join (pc := 334) (xpc := 342) (j := j30) (st := []) hw (fun hE0 => ?_) (fun H locs hw => ?_)
                            · have hf := hj30
                              refine lv_icmp_ne (tgt := 341) (pc := 334) C0.1 C0.2.1 dL_turn_334 (by decide) (fun hc => ?_) (fun hc => ?_)
                              · have hf := if_f hf hc
                                refine lv_iconst (v := 0) (pc := 341) C0.1 C0.2.1 dL_turn_341 (by decide) ?_
                                exact X_leaf hE0 (Option.some.inj hf) hw
                              · have hf := if_t hf hc
                                refine lv_iconst (v := 1) (pc := 337) C0.1 C0.2.1 dL_turn_337 (by decide) ?_
                                refine lv_goto (tgt := 342) (pc := 338) C0.1 C0.2.1 dL_turn_338 (by decide) ?_
                                exact X_leaf hE0 (Option.some.inj hf) hw
                            · skip
                              exact X_leaf hE0 (Option.some.inj hf) hw
                        · skip
                          exact X_leaf hE0 (Option.some.inj hf) hw
                    · skip
                      exact X_leaf hE0 (Option.some.inj hf) hw
                · skip
                  exact X_leaf hE0 (Option.some.inj hf) hw
            · skip
              obtain ⟨hz, hf⟩ := gd_e hf
              exact x_zret (pc := 342) C0 hK hk hr hw hz (Option.some.inj hf) dL_turn_342
      · have hf := if_t hf hc
        refine lv_aload_n (pc := 114) C0.1 C0.2.1 dL_turn_114 rfl (lv_at hl 5 rfl) ?_
        refine lv_iload_n (pc := 115) C0.1 C0.2.1 dL_turn_115 rfl (lv_at hl 4 rfl) ?_
        refine lv_bipush (v := 9) (pc := 116) C0.1 C0.2.1 dL_turn_116 (by decide) ?_
        obtain ⟨q31, hq31, hf⟩ := bd_e hf
        refine x_backp (pc := 118) hw (x_runV (pc := 118) (As := [.int q2, .int 9]) (rest := []) C0 hK hw hl.1 ⟨Nat.zero_le _, Nat.zero_le _⟩ (kX6_tray l D y ad hI q2 9 u hq31) (by decide) ly_M rfl rfl wc_X6_tray wm_L_40 wi_X6_tray ws_X6_tray wn_X6 ⟨rfl, rfl⟩ hd_X6_tray rfl ⟨Nat.le_of_ble_eq_true rfl, Nat.le_of_ble_eq_true rfl⟩ (Nat.le_of_ble_eq_true rfl) dL_turn_118) (fun H locs hw => ?_)
        refine lv_istore (pc := 121) (lv' := [(7, .int q31), (6, .int j11), (5, .int j8), (4, .int q6), (3, .int q4), (2, .int q2), (0, .ref (ad 167)), (1, .int v1)]) C0.1 C0.2.1 dL_turn_121 hl (by decide) rfl (fun ls hl => ?_)
        refine lv_aload_n (pc := 123) C0.1 C0.2.1 dL_turn_123 rfl (lv_at hl 6 rfl) ?_
        refine lv_iload_n (pc := 124) C0.1 C0.2.1 dL_turn_124 rfl (lv_at hl 5 rfl) ?_
        refine lv_bipush (v := 13) (pc := 125) C0.1 C0.2.1 dL_turn_125 (by decide) ?_
        obtain ⟨q32, hq32, hf⟩ := bd_e hf
        refine x_backp (pc := 127) hw (x_runV (pc := 127) (As := [.int q2, .int 13]) (rest := []) C0 hK hw hl.1 ⟨Nat.zero_le _, Nat.zero_le _⟩ (kX6_tray l D y ad hI q2 13 u hq32) (by decide) ly_M rfl rfl wc_X6_tray wm_L_40 wi_X6_tray ws_X6_tray wn_X6 ⟨rfl, rfl⟩ hd_X6_tray rfl ⟨Nat.le_of_ble_eq_true rfl, Nat.le_of_ble_eq_true rfl⟩ (Nat.le_of_ble_eq_true rfl) dL_turn_127) (fun H locs hw => ?_)
        refine lv_iconst (v := 1) (pc := 130) C0.1 C0.2.1 dL_turn_130 (by decide) ?_
        obtain ⟨j33, hj33, hf⟩ := bd_e hf
        refine X_join (pc := 131) (xpc := 139) (j := j33) (st := []) hw (fun hE0 => ?_) (fun H locs hw => ?_)
        · have hf := hj33
          refine lv_icmp_ne (tgt := 138) (pc := 131) C0.1 C0.2.1 dL_turn_131 (by decide) (fun hc => ?_) (fun hc => ?_)
          · have hf := if_f hf hc
            refine lv_iconst (v := 0) (pc := 138) C0.1 C0.2.1 dL_turn_138 (by decide) ?_
            exact X_leaf hE0 (Option.some.inj hf) hw
          · have hf := if_t hf hc
            refine lv_iconst (v := 1) (pc := 134) C0.1 C0.2.1 dL_turn_134 (by decide) ?_
            refine lv_goto (tgt := 139) (pc := 135) C0.1 C0.2.1 dL_turn_135 (by decide) ?_
            exact X_leaf hE0 (Option.some.inj hf) hw
        · skip
          refine lv_istore (pc := 139) (lv' := [(8, .int j33), (7, .int q31), (6, .int j11), (5, .int j8), (4, .int q6), (3, .int q4), (2, .int q2), (0, .ref (ad 167)), (1, .int v1)]) C0.1 C0.2.1 dL_turn_139 hl (by decide) rfl (fun ls hl => ?_)
          refine lv_iload_n (pc := 141) C0.1 C0.2.1 dL_turn_141 rfl (lv_at hl 8 rfl) ?_
          refine lv_bipush (v := 12) (pc := 142) C0.1 C0.2.1 dL_turn_142 (by decide) ?_
          refine lv_ishr (pc := 144) C0.1 C0.2.1 dL_turn_144 ?_
          refine lv_iconst (v := 3) (pc := 145) C0.1 C0.2.1 dL_turn_145 (by decide) ?_
          obtain ⟨q34, hq34, hf⟩ := bd_e hf
          refine x_backp (pc := 146) hw (x_runS (pc := 146) (As := [.int (v1 >>> (12 &&& 31)), .int 3]) (rest := []) C0 hK hw hl.1 ⟨Nat.zero_le _, Nat.zero_le _⟩ (kL_low l D y ad hI (v1 >>> (12 &&& 31)) 3 u hq34) rfl wc_L_low wm_L_16 wt_L_low wn_L ⟨rfl, rfl⟩ hd_L_low rfl ⟨Nat.le_of_ble_eq_true rfl, Nat.le_of_ble_eq_true rfl⟩ (Nat.le_of_ble_eq_true rfl) dL_turn_146) (fun H locs hw => ?_)
          obtain ⟨j35, hj35, hf⟩ := bd_e hf
          refine X_join (pc := 149) (xpc := 157) (j := j35) (st := []) hw (fun hE0 => ?_) (fun H locs hw => ?_)
          · have hf := hj35
            refine lv_if_ne (tgt := 156) (pc := 149) C0.1 C0.2.1 dL_turn_149 (by decide) (fun hc => ?_) (fun hc => ?_)
            · have hf := if_f hf hc
              refine lv_iconst (v := 0) (pc := 156) C0.1 C0.2.1 dL_turn_156 (by decide) ?_
              exact X_leaf hE0 (Option.some.inj hf) hw
            · have hf := if_t hf hc
              refine lv_iconst (v := 1) (pc := 152) C0.1 C0.2.1 dL_turn_152 (by decide) ?_
              refine lv_goto (tgt := 157) (pc := 153) C0.1 C0.2.1 dL_turn_153 (by decide) ?_
              exact X_leaf hE0 (Option.some.inj hf) hw
          · skip
            refine lv_istore (pc := 157) (lv' := [(9, .int j35), (8, .int j33), (7, .int q31), (6, .int j11), (5, .int j8), (4, .int q6), (3, .int q4), (2, .int q2), (0, .ref (ad 167)), (1, .int v1)]) C0.1 C0.2.1 dL_turn_157 hl (by decide) rfl (fun ls hl => ?_)
            refine lv_iload (pc := 159) C0.1 C0.2.1 dL_turn_159 (lv_at hl 0 rfl) ?_
            obtain ⟨j36, hj36, hf⟩ := bd_e hf
            refine X_joinS (pc := 161) (xpc := 221) (j := j36) (st := []) hw (fun hE0 => ?_) (fun H locs hw => ?_)
            · have hf := hj36
              refine lv_if_eq (tgt := 192) (pc := 161) C0.1 C0.2.1 dL_turn_161 (by decide) (fun hc => ?_) (fun hc => ?_)
              · have hf := if_t hf hc
                refine lv_aload_n (pc := 192) C0.1 C0.2.1 dL_turn_192 rfl (lv_at hl 8 rfl) ?_
                refine lv_iload_n (pc := 193) C0.1 C0.2.1 dL_turn_193 rfl (lv_at hl 7 rfl) ?_
                refine lv_iload_n (pc := 194) C0.1 C0.2.1 dL_turn_194 rfl (lv_at hl 6 rfl) ?_
                refine lv_iload (pc := 195) C0.1 C0.2.1 dL_turn_195 (lv_at hl 5 rfl) ?_
                refine lv_iload (pc := 197) C0.1 C0.2.1 dL_turn_197 (lv_at hl 4 rfl) ?_
                obtain ⟨q37, hq37, hf⟩ := bd_e hf
                refine x_back (pc := 199) hw (x_runV (pc := 199) (As := [.int q2, .int q4, .int q6, .int j8]) (rest := []) C0 hK hw hl.1 ⟨Nat.zero_le _, Nat.zero_le _⟩ (kX6_letDown l D y ad hI q2 q4 q6 j8 u hq37) (by decide) ly_M rfl rfl wc_X6_letDown wm_L_83 wi_X6_letDown ws_X6_letDown wn_X6 ⟨rfl, rfl⟩ hd_X6_letDown rfl ⟨Nat.le_of_ble_eq_true rfl, Nat.le_of_ble_eq_true rfl⟩ (Nat.le_of_ble_eq_true rfl) dL_turn_199) (fun H locs hw => ?_)
                refine lv_iload (pc := 202) C0.1 C0.2.1 dL_turn_202 (lv_at hl 3 rfl) ?_
                obtain ⟨j38, hj38, hf⟩ := bd_e hf
                refine X_join (pc := 204) (xpc := 213) (j := j38) (st := [.int q37.1]) hw (fun hE0 => ?_) (fun H locs hw => ?_)
                · have hf := hj38
                  refine lv_if_eq (tgt := 212) (pc := 204) C0.1 C0.2.1 dL_turn_204 (by decide) (fun hc => ?_) (fun hc => ?_)
                  · have hf := if_t hf hc
                    refine lv_iconst (v := (-1)) (pc := 212) C0.1 C0.2.1 dL_turn_212 (by decide) ?_
                    exact X_leaf hE0 (Option.some.inj hf) hw
                  · have hf := if_f hf hc
                    refine lv_bipush (v := (-2)) (pc := 207) C0.1 C0.2.1 dL_turn_207 (by decide) ?_
                    refine lv_goto (tgt := 213) (pc := 209) C0.1 C0.2.1 dL_turn_209 (by decide) ?_
                    exact X_leaf hE0 (Option.some.inj hf) hw
                · skip
                  obtain ⟨j39, hj39, hf⟩ := bd_e hf
                  refine X_join (pc := 213) (xpc := 221) (j := j39) (st := []) hw (fun hE0 => ?_) (fun H locs hw => ?_)
                  · have hf := hj39
                    refine lv_icmp_ne (tgt := 220) (pc := 213) C0.1 C0.2.1 dL_turn_213 (by decide) (fun hc => ?_) (fun hc => ?_)
                    · have hf := if_f hf hc
                      refine lv_iconst (v := 0) (pc := 220) C0.1 C0.2.1 dL_turn_220 (by decide) ?_
                      exact X_leaf hE0 (Option.some.inj hf) hw
                    · have hf := if_t hf hc
                      refine lv_iconst (v := 1) (pc := 216) C0.1 C0.2.1 dL_turn_216 (by decide) ?_
                      refine lv_goto (tgt := 221) (pc := 217) C0.1 C0.2.1 dL_turn_217 (by decide) ?_
                      exact X_leaf hE0 (Option.some.inj hf) hw
                  · skip
                    exact X_leafS hE0 (Option.some.inj hf) hw
              · have hf := if_f hf hc
                refine lv_aload_n (pc := 164) C0.1 C0.2.1 dL_turn_164 rfl (lv_at hl 8 rfl) ?_
                refine lv_iload_n (pc := 165) C0.1 C0.2.1 dL_turn_165 rfl (lv_at hl 7 rfl) ?_
                obtain ⟨q40, hq40, hf⟩ := bd_e hf
                refine x_back (pc := 166) hw (x_runV (pc := 166) (As := [.int q2]) (rest := []) C0 hK hw hl.1 ⟨Nat.zero_le _, Nat.zero_le _⟩ (kX6_takeOut l D y ad hI q2 u hq40) (by decide) ly_M rfl rfl wc_X6_takeOut wm_L_80 wi_X6_takeOut ws_X6_takeOut wn_X6 ⟨rfl, rfl⟩ hd_X6_takeOut rfl ⟨Nat.le_of_ble_eq_true rfl, Nat.le_of_ble_eq_true rfl⟩ (Nat.le_of_ble_eq_true rfl) dL_turn_166) (fun H locs hw => ?_)
                refine lv_iload (pc := 169) C0.1 C0.2.1 dL_turn_169 (lv_at hl 1 rfl) ?_
                obtain ⟨j41, hj41, hf⟩ := bd_e hf
                refine X_join (pc := 171) (xpc := 181) (j := j41) (st := [.int q40.1]) hw (fun hE0 => ?_) (fun H locs hw => ?_)
                · have hf := hj41
                  refine lv_if_eq (tgt := 179) (pc := 171) C0.1 C0.2.1 dL_turn_171 (by decide) (fun hc => ?_) (fun hc => ?_)
                  · have hf := if_t hf hc
                    refine lv_bipush (v := (-2)) (pc := 179) C0.1 C0.2.1 dL_turn_179 (by decide) ?_
                    exact X_leaf hE0 (Option.some.inj hf) hw
                  · have hf := if_f hf hc
                    refine lv_iload (pc := 174) C0.1 C0.2.1 dL_turn_174 (lv_at hl 2 rfl) ?_
                    refine lv_goto (tgt := 181) (pc := 176) C0.1 C0.2.1 dL_turn_176 (by decide) ?_
                    exact X_leaf hE0 (Option.some.inj hf) hw
                · skip
                  obtain ⟨j42, hj42, hf⟩ := bd_e hf
                  refine X_join (pc := 181) (xpc := 221) (j := j42) (st := []) hw (fun hE0 => ?_) (fun H locs hw => ?_)
                  · have hf := hj42
                    refine lv_icmp_ne (tgt := 188) (pc := 181) C0.1 C0.2.1 dL_turn_181 (by decide) (fun hc => ?_) (fun hc => ?_)
                    · have hf := if_f hf hc
                      refine lv_iconst (v := 0) (pc := 188) C0.1 C0.2.1 dL_turn_188 (by decide) ?_
                      refine lv_goto (tgt := 221) (pc := 189) C0.1 C0.2.1 dL_turn_189 (by decide) ?_
                      exact X_leaf hE0 (Option.some.inj hf) hw
                    · have hf := if_t hf hc
                      refine lv_iconst (v := 1) (pc := 184) C0.1 C0.2.1 dL_turn_184 (by decide) ?_
                      refine lv_goto (tgt := 221) (pc := 185) C0.1 C0.2.1 dL_turn_185 (by decide) ?_
                      exact X_leaf hE0 (Option.some.inj hf) hw
                  · skip
                    exact X_leafS hE0 (Option.some.inj hf) hw
            · skip
              obtain ⟨hz, hf⟩ := gd_e hf
              exact x_zret (pc := 221) C0 hK hk hr hw hz (Option.some.inj hf) dL_turn_221
def wL_best : List Cond := .code yL_best cL_best 8 (some .int) :: lwT
def rL_best : Room := { frames := 9, cells := 0, slots := 0, locals := 213 }
set_option maxRecDepth 100000 in
set_option maxHeartbeats 4000000 in
theorem kL_best (l : Launch) (D : va_G) (y : Nat → ClassId) (ad : Nat → Nat) (hI : XI ad 169) (v1 : Int32) (u : S) {o : Int32 × S} (hf : fL_best v1 u = some o) : Met l yL_best wL_best rL_best (va_Pc [.ref (ad 167), .int v1, .ref (ad 168)] (XW D y ad (LZ1 1) 169 u)) (XQi D y ad (LZ1 1) 169 o) 0 0 (XA ad 169) := by
  refine z_met (bytes := cL_best) (maxL := 8) (ret := (some .int)) (own := RL) (by decide) rfl rfl (Nat.le_of_ble_eq_true rfl) (fun p e s m below meth c ls C0 hK hk hr hw hl => ?_)
  have hl : lv_has ls 8 [(0, .ref (ad 167)), (1, .int v1), (2, .ref (ad 168))] := hl
  have hI0 : XI ad 168 := emb_I (o := 0) (by decide) (fun j _ => by rw [Nat.zero_add]) hI
  unfold fL_best at hf
  refine lv_iconst (v := (-1)) (pc := 0) C0.1 C0.2.1 dL_best_0 (by decide) ?_
  refine lv_istore_n (pc := 1) (lv' := [(3, .int (-1)), (0, .ref (ad 167)), (1, .int v1), (2, .ref (ad 168))]) C0.1 C0.2.1 dL_best_1 rfl hl (by decide) rfl (fun ls hl => ?_)
  refine lv_iconst (v := 0) (pc := 2) C0.1 C0.2.1 dL_best_2 (by decide) ?_
  refine lv_istore (pc := 3) (lv' := [(4, .int 0), (3, .int (-1)), (0, .ref (ad 167)), (1, .int v1), (2, .ref (ad 168))]) C0.1 C0.2.1 dL_best_3 hl (by decide) rfl (fun ls hl => ?_)
  obtain ⟨e1, he1, hf⟩ := bd_e hf
  refine X_loop (pc := 5) (xpc := 176) (fu := fun a1 => a1.2.2) (fl := fun a1 => [(4, .int a1.2.1), (3, .int a1.1), (0, .ref (ad 167)), (1, .int v1), (2, .ref (ad 168))]) (fun a1 r hf hE hG H locs ls hw hl => ?_) he1 (fun H locs ls hw hl => ?_) hw hl
  · unfold gL_best_5 at hf
    refine lv_iload (pc := 5) C0.1 C0.2.1 dL_best_5 (lv_at hl 0 rfl) ?_
    refine lv_aload_n (pc := 7) C0.1 C0.2.1 dL_best_7 rfl (lv_at hl 2 rfl) ?_
    refine lv_iconst (v := 1) (pc := 8) C0.1 C0.2.1 dL_best_8 (by decide) ?_
    obtain ⟨q2, hq2, hf⟩ := bd_e hf
    refine z_backp0 (pc := 9) hI emb_1 hw (z_runV (pc := 9) (aa := ad) (As := [.int 1]) (rest := [.int a1.2.1]) C0 hK (emb_P emb_1 (fun j _ => by rw [Nat.zero_add]) (fun j _ => by rw [Nat.zero_add]) hw.1) hl.1 ⟨Nat.le_of_ble_eq_true rfl, Nat.le_of_ble_eq_true rfl⟩ (kX6_count l D y ad hI0 1 a1.2.2 hq2) (by decide) ly_M rfl rfl wc_X6_count wm_L_37 wi_X6_count ws_X6_count wn_X6 ⟨rfl, rfl⟩ hd_X6_count rfl ⟨Nat.le_of_ble_eq_true rfl, Nat.le_of_ble_eq_true rfl⟩ (Nat.le_of_ble_eq_true rfl) dL_best_9) (fun H locs hw => ?_)
    refine lv_icmp_ge (tgt := 176) (pc := 12) C0.1 C0.2.1 dL_best_12 (by decide) (fun hc => ?_) (fun hc => ?_)
    · have hf := if_t hf hc
      exact hE _ (Option.some.inj hf).symm H locs ls hw (lv_sub hl [0, 1, 2, 3, 4] rfl)
    · have hf := if_f hf hc
      refine lv_iconst (v := 0) (pc := 15) C0.1 C0.2.1 dL_best_15 (by decide) ?_
      refine lv_istore (pc := 16) (lv' := [(5, .int 0), (4, .int a1.2.1), (3, .int a1.1), (0, .ref (ad 167)), (1, .int v1), (2, .ref (ad 168))]) C0.1 C0.2.1 dL_best_16 hl (by decide) rfl (fun ls hl => ?_)
      obtain ⟨e3, he3, hf⟩ := bd_e hf
      refine X_loop (pc := 18) (xpc := 170) (fu := fun a2 => a2.2.2) (fl := fun a2 => [(5, .int a2.2.1), (4, .int a1.2.1), (3, .int a2.1), (0, .ref (ad 167)), (1, .int v1), (2, .ref (ad 168))]) (fun a2 r hf hE hG H locs ls hw hl => ?_) he3 (fun H locs ls hw hl => ?_) hw hl
      · unfold gL_best_18 at hf
        refine lv_iload (pc := 18) C0.1 C0.2.1 dL_best_18 (lv_at hl 0 rfl) ?_
        refine lv_aload_n (pc := 20) C0.1 C0.2.1 dL_best_20 rfl (lv_at hl 3 rfl) ?_
        refine lv_iconst (v := 0) (pc := 21) C0.1 C0.2.1 dL_best_21 (by decide) ?_
        obtain ⟨q4, hq4, hf⟩ := bd_e hf
        refine z_backp0 (pc := 22) hI emb_1 hw (z_runV (pc := 22) (aa := ad) (As := [.int 0]) (rest := [.int a2.2.1]) C0 hK (emb_P emb_1 (fun j _ => by rw [Nat.zero_add]) (fun j _ => by rw [Nat.zero_add]) hw.1) hl.1 ⟨Nat.le_of_ble_eq_true rfl, Nat.le_of_ble_eq_true rfl⟩ (kX6_count l D y ad hI0 0 a2.2.2 hq4) (by decide) ly_M rfl rfl wc_X6_count wm_L_37 wi_X6_count ws_X6_count wn_X6 ⟨rfl, rfl⟩ hd_X6_count rfl ⟨Nat.le_of_ble_eq_true rfl, Nat.le_of_ble_eq_true rfl⟩ (Nat.le_of_ble_eq_true rfl) dL_best_22) (fun H locs hw => ?_)
        refine lv_icmp_ge (tgt := 170) (pc := 25) C0.1 C0.2.1 dL_best_25 (by decide) (fun hc => ?_) (fun hc => ?_)
        · have hf := if_t hf hc
          exact hE _ (Option.some.inj hf).symm H locs ls hw (lv_sub hl [0, 1, 2, 3, 4, 5] rfl)
        · have hf := if_f hf hc
          refine lv_iconst (v := 0) (pc := 28) C0.1 C0.2.1 dL_best_28 (by decide) ?_
          refine lv_istore (pc := 29) (lv' := [(6, .int 0), (5, .int a2.2.1), (4, .int a1.2.1), (3, .int a2.1), (0, .ref (ad 167)), (1, .int v1), (2, .ref (ad 168))]) C0.1 C0.2.1 dL_best_29 hl (by decide) rfl (fun ls hl => ?_)
          obtain ⟨e5, he5, hf⟩ := bd_e hf
          refine X_loop (pc := 31) (xpc := 164) (fu := fun a3 => a3.2.2) (fl := fun a3 => [(6, .int a3.2.1), (5, .int a2.2.1), (4, .int a1.2.1), (3, .int a3.1), (0, .ref (ad 167)), (1, .int v1), (2, .ref (ad 168))]) (fun a3 r hf hE hG H locs ls hw hl => ?_) he5 (fun H locs ls hw hl => ?_) hw hl
          · unfold gL_best_31 at hf
            refine lv_iload (pc := 31) C0.1 C0.2.1 dL_best_31 (lv_at hl 0 rfl) ?_
            refine lv_aload_n (pc := 33) C0.1 C0.2.1 dL_best_33 rfl (lv_at hl 4 rfl) ?_
            refine lv_iload_n (pc := 34) C0.1 C0.2.1 dL_best_34 rfl (lv_at hl 5 rfl) ?_
            refine lv_iconst (v := 0) (pc := 35) C0.1 C0.2.1 dL_best_35 (by decide) ?_
            obtain ⟨q6, hq6, hf⟩ := bd_e hf
            refine z_backp0 (pc := 36) hI emb_1 hw (z_runV (pc := 36) (aa := ad) (As := [.int v1, .int 0]) (rest := [.int a3.2.1]) C0 hK (emb_P emb_1 (fun j _ => by rw [Nat.zero_add]) (fun j _ => by rw [Nat.zero_add]) hw.1) hl.1 ⟨Nat.le_of_ble_eq_true rfl, Nat.le_of_ble_eq_true rfl⟩ (kX6_tray l D y ad hI0 v1 0 a3.2.2 hq6) (by decide) ly_M rfl rfl wc_X6_tray wm_L_40 wi_X6_tray ws_X6_tray wn_X6 ⟨rfl, rfl⟩ hd_X6_tray rfl ⟨Nat.le_of_ble_eq_true rfl, Nat.le_of_ble_eq_true rfl⟩ (Nat.le_of_ble_eq_true rfl) dL_best_36) (fun H locs hw => ?_)
            refine lv_aload_n (pc := 39) C0.1 C0.2.1 dL_best_39 rfl (lv_at hl 4 rfl) ?_
            refine lv_iload_n (pc := 40) C0.1 C0.2.1 dL_best_40 rfl (lv_at hl 5 rfl) ?_
            refine lv_iconst (v := 1) (pc := 41) C0.1 C0.2.1 dL_best_41 (by decide) ?_
            obtain ⟨q7, hq7, hf⟩ := bd_e hf
            refine z_backp0 (pc := 42) hI emb_1 hw (z_runV (pc := 42) (aa := ad) (As := [.int v1, .int 1]) (rest := [.int q6, .int a3.2.1]) C0 hK (emb_P emb_1 (fun j _ => by rw [Nat.zero_add]) (fun j _ => by rw [Nat.zero_add]) hw.1) hl.1 ⟨Nat.le_of_ble_eq_true rfl, Nat.le_of_ble_eq_true rfl⟩ (kX6_tray l D y ad hI0 v1 1 a3.2.2 hq7) (by decide) ly_M rfl rfl wc_X6_tray wm_L_40 wi_X6_tray ws_X6_tray wn_X6 ⟨rfl, rfl⟩ hd_X6_tray rfl ⟨Nat.le_of_ble_eq_true rfl, Nat.le_of_ble_eq_true rfl⟩ (Nat.le_of_ble_eq_true rfl) dL_best_42) (fun H locs hw => ?_)
            obtain ⟨j8, hj8, hf⟩ := bd_e hf
            refine X_join (pc := 45) (xpc := 53) (j := j8) (st := [.int a3.2.1]) hw (fun hE0 => ?_) (fun H locs hw => ?_)
            · have hf := hj8
              refine lv_icmp_ne (tgt := 52) (pc := 45) C0.1 C0.2.1 dL_best_45 (by decide) (fun hc => ?_) (fun hc => ?_)
              · have hf := if_f hf hc
                refine lv_iconst (v := 2) (pc := 52) C0.1 C0.2.1 dL_best_52 (by decide) ?_
                exact X_leaf hE0 (Option.some.inj hf) hw
              · have hf := if_t hf hc
                refine lv_iconst (v := 1) (pc := 48) C0.1 C0.2.1 dL_best_48 (by decide) ?_
                refine lv_goto (tgt := 53) (pc := 49) C0.1 C0.2.1 dL_best_49 (by decide) ?_
                exact X_leaf hE0 (Option.some.inj hf) hw
            · skip
              refine lv_icmp_ge (tgt := 164) (pc := 53) C0.1 C0.2.1 dL_best_53 (by decide) (fun hc => ?_) (fun hc => ?_)
              · have hf := if_t hf hc
                exact hE _ (Option.some.inj hf).symm H locs ls hw (lv_sub hl [0, 1, 2, 3, 4, 5, 6] rfl)
              · have hf := if_f hf hc
                refine lv_aload_n (pc := 56) C0.1 C0.2.1 dL_best_56 rfl (lv_at hl 4 rfl) ?_
                refine lv_iload_n (pc := 57) C0.1 C0.2.1 dL_best_57 rfl (lv_at hl 5 rfl) ?_
                refine lv_iload (pc := 58) C0.1 C0.2.1 dL_best_58 (lv_at hl 1 rfl) ?_
                refine lv_iload (pc := 60) C0.1 C0.2.1 dL_best_60 (lv_at hl 2 rfl) ?_
                refine lv_iload (pc := 62) C0.1 C0.2.1 dL_best_62 (lv_at hl 0 rfl) ?_
                refine lv_iconst (v := 1) (pc := 64) C0.1 C0.2.1 dL_best_64 (by decide) ?_
                obtain ⟨j9, hj9, hf⟩ := bd_e hf
                refine X_join (pc := 65) (xpc := 73) (j := j9) (st := [.int a1.2.1, .int a2.2.1, .int v1, .ref (ad 167)]) hw (fun hE0 => ?_) (fun H locs hw => ?_)
                · have hf := hj9
                  refine lv_icmp_ne (tgt := 72) (pc := 65) C0.1 C0.2.1 dL_best_65 (by decide) (fun hc => ?_) (fun hc => ?_)
                  · have hf := if_f hf hc
                    refine lv_iconst (v := 0) (pc := 72) C0.1 C0.2.1 dL_best_72 (by decide) ?_
                    exact X_leaf hE0 (Option.some.inj hf) hw
                  · have hf := if_t hf hc
                    refine lv_iconst (v := 1) (pc := 68) C0.1 C0.2.1 dL_best_68 (by decide) ?_
                    refine lv_goto (tgt := 73) (pc := 69) C0.1 C0.2.1 dL_best_69 (by decide) ?_
                    exact X_leaf hE0 (Option.some.inj hf) hw
                · skip
                  obtain ⟨q10, hq10, hf⟩ := bd_e hf
                  refine z_backp0 (pc := 73) hI emb_1 hw (z_runS (pc := 73) (aa := ad) (As := [.ref (ad 167), .int v1, .int a2.2.1, .int a1.2.1, .int j9]) (rest := []) C0 hK (emb_P emb_1 (fun j _ => by rw [Nat.zero_add]) (fun j _ => by rw [Nat.zero_add]) hw.1) hl.1 ⟨Nat.le_of_ble_eq_true rfl, Nat.le_of_ble_eq_true rfl⟩ (kL_canLie l D y ad hI0 v1 a2.2.1 a1.2.1 j9 a3.2.2 hq10) rfl wc_L_canLie wm_L_66 wt_L_canLie wn_L ⟨rfl, rfl⟩ hd_L_canLie rfl ⟨Nat.le_of_ble_eq_true rfl, Nat.le_of_ble_eq_true rfl⟩ (Nat.le_of_ble_eq_true rfl) dL_best_73) (fun H locs hw => ?_)
                  refine lv_if_eq (tgt := 158) (pc := 76) C0.1 C0.2.1 dL_best_76 (by decide) (fun hc => ?_) (fun hc => ?_)
                  · have hf := if_t hf hc
                    refine lv_iinc (pc := 158) (v := a3.2.1 + 1) (lv' := [(6, .int (a3.2.1 + 1)), (5, .int a2.2.1), (4, .int a1.2.1), (3, .int a3.1), (0, .ref (ad 167)), (1, .int v1), (2, .ref (ad 168))]) C0.1 C0.2.1 dL_best_158 hl (k := 0) rfl rfl (by decide) rfl (fun ls hl => ?_)
                    refine lv_goto (tgt := 31) (pc := 161) C0.1 C0.2.1 dL_best_161 (by decide) ?_
                    exact hG _ (Option.some.inj hf).symm H locs ls hw (lv_sub hl [0, 1, 2, 3, 4, 5, 6] rfl)
                  · have hf := if_f hf hc
                    refine lv_aload_n (pc := 79) C0.1 C0.2.1 dL_best_79 rfl (lv_at hl 4 rfl) ?_
                    refine lv_iload_n (pc := 80) C0.1 C0.2.1 dL_best_80 rfl (lv_at hl 5 rfl) ?_
                    refine lv_iload (pc := 81) C0.1 C0.2.1 dL_best_81 (lv_at hl 1 rfl) ?_
                    refine lv_iload (pc := 83) C0.1 C0.2.1 dL_best_83 (lv_at hl 2 rfl) ?_
                    refine lv_iload (pc := 85) C0.1 C0.2.1 dL_best_85 (lv_at hl 0 rfl) ?_
                    refine lv_iconst (v := 1) (pc := 87) C0.1 C0.2.1 dL_best_87 (by decide) ?_
                    obtain ⟨j11, hj11, hf⟩ := bd_e hf
                    refine X_join (pc := 88) (xpc := 96) (j := j11) (st := [.int a1.2.1, .int a2.2.1, .int v1, .ref (ad 167)]) hw (fun hE0 => ?_) (fun H locs hw => ?_)
                    · have hf := hj11
                      refine lv_icmp_ne (tgt := 95) (pc := 88) C0.1 C0.2.1 dL_best_88 (by decide) (fun hc => ?_) (fun hc => ?_)
                      · have hf := if_f hf hc
                        refine lv_iconst (v := 0) (pc := 95) C0.1 C0.2.1 dL_best_95 (by decide) ?_
                        exact X_leaf hE0 (Option.some.inj hf) hw
                      · have hf := if_t hf hc
                        refine lv_iconst (v := 1) (pc := 91) C0.1 C0.2.1 dL_best_91 (by decide) ?_
                        refine lv_goto (tgt := 96) (pc := 92) C0.1 C0.2.1 dL_best_92 (by decide) ?_
                        exact X_leaf hE0 (Option.some.inj hf) hw
                    · skip
                      obtain ⟨q12, hq12, hf⟩ := bd_e hf
                      refine z_backp0 (pc := 96) hI emb_1 hw (z_runS (pc := 96) (aa := ad) (As := [.ref (ad 167), .int v1, .int a2.2.1, .int a1.2.1, .int j11]) (rest := []) C0 hK (emb_P emb_1 (fun j _ => by rw [Nat.zero_add]) (fun j _ => by rw [Nat.zero_add]) hw.1) hl.1 ⟨Nat.le_of_ble_eq_true rfl, Nat.le_of_ble_eq_true rfl⟩ (kL_look l D y ad hI0 v1 a2.2.1 a1.2.1 j11 a3.2.2 hq12) rfl wc_L_look wm_L_51 wt_L_look wn_L ⟨rfl, rfl⟩ hd_L_look rfl ⟨Nat.le_of_ble_eq_true rfl, Nat.le_of_ble_eq_true rfl⟩ (Nat.le_of_ble_eq_true rfl) dL_best_96) (fun H locs hw => ?_)
                      refine lv_sipush (v := 1000) (pc := 99) C0.1 C0.2.1 dL_best_99 (by decide) ?_
                      refine x_irem (pc := 102) C0.1 C0.2.1 dL_best_102 (by decide) ?_
                      refine lv_aload_n (pc := 103) C0.1 C0.2.1 dL_best_103 rfl (lv_at hl 4 rfl) ?_
                      refine lv_iload_n (pc := 104) C0.1 C0.2.1 dL_best_104 rfl (lv_at hl 5 rfl) ?_
                      obtain ⟨q13, hq13, hf⟩ := bd_e hf
                      refine z_backp0 (pc := 105) hI emb_1 hw (z_runS (pc := 105) (aa := ad) (As := [.ref (ad 167), .int v1]) (rest := [.int (q12 % 1000)]) C0 hK (emb_P emb_1 (fun j _ => by rw [Nat.zero_add]) (fun j _ => by rw [Nat.zero_add]) hw.1) hl.1 ⟨Nat.le_of_ble_eq_true rfl, Nat.le_of_ble_eq_true rfl⟩ (kL_high l D y ad hI0 v1 a3.2.2 hq13) rfl wc_L_high wm_L_55 wt_L_high wn_L ⟨rfl, rfl⟩ hd_L_high rfl ⟨Nat.le_of_ble_eq_true rfl, Nat.le_of_ble_eq_true rfl⟩ (Nat.le_of_ble_eq_true rfl) dL_best_105) (fun H locs hw => ?_)
                      refine lv_iadd (pc := 108) C0.1 C0.2.1 dL_best_108 ?_
                      refine lv_istore (pc := 109) (lv' := [(7, .int ((q12 % 1000) + q13)), (6, .int a3.2.1), (5, .int a2.2.1), (4, .int a1.2.1), (3, .int a3.1), (0, .ref (ad 167)), (1, .int v1), (2, .ref (ad 168))]) C0.1 C0.2.1 dL_best_109 hl (by decide) rfl (fun ls hl => ?_)
                      refine lv_aload_n (pc := 111) C0.1 C0.2.1 dL_best_111 rfl (lv_at hl 7 rfl) ?_
                      refine lv_iconst (v := 0) (pc := 112) C0.1 C0.2.1 dL_best_112 (by decide) ?_
                      refine lv_dup2_11 (pc := 113) C0.1 C0.2.1 dL_best_113 rfl rfl ?_
                      obtain ⟨hi, hf⟩ := gd_e hf
                      refine x_iald (pc := 114) C0 hK hw (by decide) rfl hi dL_best_114 ?_
                      refine lv_iconst (v := 1) (pc := 115) C0.1 C0.2.1 dL_best_115 (by decide) ?_
                      refine lv_iadd (pc := 116) C0.1 C0.2.1 dL_best_116 ?_
                      obtain ⟨hi, hf⟩ := gd_e hf
                      obtain ⟨u14, hu, hf⟩ := nm_f hf
                      refine x_iast (pc := 117) hI C0 hK hw (by decide) rfl hi hu dL_best_117 (fun H locs hw => ?_)
                      refine lv_iload_n (pc := 118) C0.1 C0.2.1 dL_best_118 rfl (lv_at hl 4 rfl) ?_
                      obtain ⟨j15, hj15, hf⟩ := bd_e hf
                      refine X_join (pc := 119) (xpc := 157) (j := j15) (st := []) hw (fun hE0 => ?_) (fun H locs hw => ?_)
                      · have hf := hj15
                        refine lv_if_lt (tgt := 132) (pc := 119) C0.1 C0.2.1 dL_best_119 (by decide) (fun hc => ?_) (fun hc => ?_)
                        · have hf := if_t hf hc
                          refine lv_sipush (v := 1000) (pc := 132) C0.1 C0.2.1 dL_best_132 (by decide) ?_
                          refine lv_iload (pc := 135) C0.1 C0.2.1 dL_best_135 (lv_at hl 0 rfl) ?_
                          refine lv_imul (pc := 137) C0.1 C0.2.1 dL_best_137 ?_
                          refine lv_bipush (v := 100) (pc := 138) C0.1 C0.2.1 dL_best_138 (by decide) ?_
                          refine lv_iload (pc := 140) C0.1 C0.2.1 dL_best_140 (lv_at hl 3 rfl) ?_
                          refine lv_imul (pc := 142) C0.1 C0.2.1 dL_best_142 ?_
                          refine lv_iadd (pc := 143) C0.1 C0.2.1 dL_best_143 ?_
                          refine lv_bipush (v := 10) (pc := 144) C0.1 C0.2.1 dL_best_144 (by decide) ?_
                          refine lv_iload (pc := 146) C0.1 C0.2.1 dL_best_146 (lv_at hl 2 rfl) ?_
                          refine lv_imul (pc := 148) C0.1 C0.2.1 dL_best_148 ?_
                          refine lv_iadd (pc := 149) C0.1 C0.2.1 dL_best_149 ?_
                          refine lv_iload (pc := 150) C0.1 C0.2.1 dL_best_150 (lv_at hl 1 rfl) ?_
                          refine lv_iadd (pc := 152) C0.1 C0.2.1 dL_best_152 ?_
                          refine lv_goto (tgt := 157) (pc := 153) C0.1 C0.2.1 dL_best_153 (by decide) ?_
                          exact X_leaf hE0 (Option.some.inj hf) hw
                        · have hf := if_f hf hc
                          refine lv_iload (pc := 122) C0.1 C0.2.1 dL_best_122 (lv_at hl 0 rfl) ?_
                          refine lv_iload_n (pc := 124) C0.1 C0.2.1 dL_best_124 rfl (lv_at hl 4 rfl) ?_
                          refine lv_sipush (v := 1000) (pc := 125) C0.1 C0.2.1 dL_best_125 (by decide) ?_
                          refine lv_idiv (pc := 128) C0.1 C0.2.1 dL_best_128 (by decide) ?_
                          obtain ⟨j16, hj16, hf⟩ := bd_e hf
                          refine X_join (pc := 129) (xpc := 157) (j := j16) (st := []) hw (fun hE0 => ?_) (fun H locs hw => ?_)
                          · have hf := hj16
                            refine lv_icmp_ge (tgt := 156) (pc := 129) C0.1 C0.2.1 dL_best_129 (by decide) (fun hc => ?_) (fun hc => ?_)
                            · have hf := if_t hf hc
                              refine lv_iload_n (pc := 156) C0.1 C0.2.1 dL_best_156 rfl (lv_at hl 4 rfl) ?_
                              exact X_leaf hE0 (Option.some.inj hf) hw
                            · have hf := if_f hf hc
                              refine lv_sipush (v := 1000) (pc := 132) C0.1 C0.2.1 dL_best_132 (by decide) ?_
                              refine lv_iload (pc := 135) C0.1 C0.2.1 dL_best_135 (lv_at hl 0 rfl) ?_
                              refine lv_imul (pc := 137) C0.1 C0.2.1 dL_best_137 ?_
                              refine lv_bipush (v := 100) (pc := 138) C0.1 C0.2.1 dL_best_138 (by decide) ?_
                              refine lv_iload (pc := 140) C0.1 C0.2.1 dL_best_140 (lv_at hl 3 rfl) ?_
                              refine lv_imul (pc := 142) C0.1 C0.2.1 dL_best_142 ?_
                              refine lv_iadd (pc := 143) C0.1 C0.2.1 dL_best_143 ?_
                              refine lv_bipush (v := 10) (pc := 144) C0.1 C0.2.1 dL_best_144 (by decide) ?_
                              refine lv_iload (pc := 146) C0.1 C0.2.1 dL_best_146 (lv_at hl 2 rfl) ?_
                              refine lv_imul (pc := 148) C0.1 C0.2.1 dL_best_148 ?_
                              refine lv_iadd (pc := 149) C0.1 C0.2.1 dL_best_149 ?_
                              refine lv_iload (pc := 150) C0.1 C0.2.1 dL_best_150 (lv_at hl 1 rfl) ?_
                              refine lv_iadd (pc := 152) C0.1 C0.2.1 dL_best_152 ?_
                              refine lv_goto (tgt := 157) (pc := 153) C0.1 C0.2.1 dL_best_153 (by decide) ?_
                              exact X_leaf hE0 (Option.some.inj hf) hw
                          · skip
                            exact X_leaf hE0 (Option.some.inj hf) hw
                      · skip
                        refine lv_istore_n (pc := 157) (lv' := [(3, .int j15), (7, .int ((q12 % 1000) + q13)), (6, .int a3.2.1), (5, .int a2.2.1), (4, .int a1.2.1), (0, .ref (ad 167)), (1, .int v1), (2, .ref (ad 168))]) C0.1 C0.2.1 dL_best_157 rfl hl (by decide) rfl (fun ls hl => ?_)
                        refine lv_iinc (pc := 158) (v := a3.2.1 + 1) (lv' := [(6, .int (a3.2.1 + 1)), (3, .int j15), (7, .int ((q12 % 1000) + q13)), (5, .int a2.2.1), (4, .int a1.2.1), (0, .ref (ad 167)), (1, .int v1), (2, .ref (ad 168))]) C0.1 C0.2.1 dL_best_158 hl (k := 2) rfl rfl (by decide) rfl (fun ls hl => ?_)
                        refine lv_goto (tgt := 31) (pc := 161) C0.1 C0.2.1 dL_best_161 (by decide) ?_
                        exact hG _ (Option.some.inj hf).symm H locs ls hw (lv_sub hl [0, 3, 4, 1, 5, 6, 7] rfl)
          · skip
            refine lv_iinc (pc := 164) (v := a2.2.1 + 1) (lv' := [(5, .int (a2.2.1 + 1)), (6, .int e5.2.1), (4, .int a1.2.1), (3, .int e5.1), (0, .ref (ad 167)), (1, .int v1), (2, .ref (ad 168))]) C0.1 C0.2.1 dL_best_164 hl (k := 1) rfl rfl (by decide) rfl (fun ls hl => ?_)
            refine lv_goto (tgt := 18) (pc := 167) C0.1 C0.2.1 dL_best_167 (by decide) ?_
            exact hG _ (Option.some.inj hf).symm H locs ls hw (lv_sub hl [0, 2, 3, 4, 5, 6] rfl)
      · skip
        refine lv_iinc (pc := 170) (v := a1.2.1 + 1) (lv' := [(4, .int (a1.2.1 + 1)), (5, .int e3.2.1), (3, .int e3.1), (0, .ref (ad 167)), (1, .int v1), (2, .ref (ad 168))]) C0.1 C0.2.1 dL_best_170 hl (k := 1) rfl rfl (by decide) rfl (fun ls hl => ?_)
        refine lv_goto (tgt := 5) (pc := 173) C0.1 C0.2.1 dL_best_173 (by decide) ?_
        exact hG _ (Option.some.inj hf).symm H locs ls hw (lv_sub hl [0, 2, 3, 4, 5] rfl)
  · skip
    refine lv_iload_n (pc := 176) C0.1 C0.2.1 dL_best_176 rfl (lv_at hl 1 rfl) ?_
    exact x_iret (pc := 177) C0 hK hk hr hw (Option.some.inj hf) dL_best_177
def wL_placed : List Cond := .code yL_placed cL_placed 4 (some .boolean) :: lwT
def rL_placed : Room := { frames := 10, cells := 1, slots := 1, locals := 240 }
set_option maxRecDepth 100000 in
set_option maxHeartbeats 4000000 in
theorem kL_placed (l : Launch) (D : va_G) (y : Nat → ClassId) (ad : Nat → Nat) (hI : XI ad 168) (v1 : Int32) (u : S) {o : Int32 × S} (hf : fL_placed v1 u = some o) : Met l yL_placed wL_placed rL_placed (va_Pc [.ref (ad 167), .int v1] (XW D y ad LX 168 u)) (XQi D y ad LX 168 o) 1 1 (XA ad 168) := by
  refine z_met (bytes := cL_placed) (maxL := 4) (ret := (some .boolean)) (own := RL) (by decide) rfl rfl (Nat.le_of_ble_eq_true rfl) (fun p e s m below meth c ls C0 hK hk hr hw hl => ?_)
  have hl : lv_has ls 4 [(0, .ref (ad 167)), (1, .int v1)] := hl
  unfold fL_placed at hf
  refine lv_aload_n (pc := 0) C0.1 C0.2.1 dL_placed_0 rfl (lv_at hl 0 rfl) ?_
  refine lv_iload_n (pc := 1) C0.1 C0.2.1 dL_placed_1 rfl (lv_at hl 1 rfl) ?_
  refine lv_iconst (v := 5) (pc := 2) C0.1 C0.2.1 dL_placed_2 (by decide) ?_
  obtain ⟨q1, hq1, hf⟩ := bd_e hf
  refine x_backp (pc := 3) hw (x_runV (pc := 3) (As := [.int v1, .int 5]) (rest := []) C0 hK hw hl.1 ⟨Nat.zero_le _, Nat.zero_le _⟩ (kX6_tray l D y ad hI v1 5 u hq1) (by decide) ly_M rfl rfl wc_X6_tray wm_L_40 wi_X6_tray ws_X6_tray wn_X6 ⟨rfl, rfl⟩ hd_X6_tray rfl ⟨Nat.le_of_ble_eq_true rfl, Nat.le_of_ble_eq_true rfl⟩ (Nat.le_of_ble_eq_true rfl) dL_placed_3) (fun H locs hw => ?_)
  refine lv_iconst (v := 1) (pc := 6) C0.1 C0.2.1 dL_placed_6 (by decide) ?_
  refine lv_icmp_ne (tgt := 37) (pc := 7) C0.1 C0.2.1 dL_placed_7 (by decide) (fun hc => ?_) (fun hc => ?_)
  · have hf := if_f hf hc
    refine lv_iconst (v := 1) (pc := 37) C0.1 C0.2.1 dL_placed_37 (by decide) ?_
    obtain ⟨u2, hu, hf⟩ := nm_f hf
    refine z_new (pc := 38) (LZ := LZ1 1) (K := 1) C0 hK wa_int hI hw Lok_X (fun j hj => by simp [LZ1, hj]) rfl hu (by decide) rfl (by decide) (Nat.le_of_ble_eq_true rfl) (Nat.le_of_ble_eq_true rfl) dL_placed_38 (fun ad H hd hnew hI hw => ?_)
    rw [← hd 167 (by decide)] at hl
    have hI0 : XI ad 168 := emb_I (o := 0) (by decide) (fun j _ => by rw [Nat.zero_add]) hI
    refine lv_astore_n (pc := 40) (lv' := [(2, .ref (ad 168)), (0, .ref (ad 167)), (1, .int v1)]) C0.1 C0.2.1 dL_placed_40 rfl hl (by decide) rfl (fun ls hl => ?_)
    refine lv_aload_n (pc := 41) C0.1 C0.2.1 dL_placed_41 rfl (lv_at hl 1 rfl) ?_
    refine lv_iload_n (pc := 42) C0.1 C0.2.1 dL_placed_42 rfl (lv_at hl 2 rfl) ?_
    refine lv_aload_n (pc := 43) C0.1 C0.2.1 dL_placed_43 rfl (lv_at hl 0 rfl) ?_
    obtain ⟨q3, hq3, hf⟩ := bd_e hf
    refine x_back (pc := 44) hw (z_runS (pc := 44) (aa := ad) (As := [.ref (ad 167), .int v1, .ref (ad 168)]) (rest := []) C0 hK hw.1 hl.1 ⟨Nat.le_of_ble_eq_true rfl, Nat.le_of_ble_eq_true rfl⟩ (kL_best l D y ad hI v1 u2 hq3) rfl wc_L_best wm_L_76 wt_L_best wn_L ⟨rfl, rfl⟩ hd_L_best rfl ⟨Nat.le_of_ble_eq_true rfl, Nat.le_of_ble_eq_true rfl⟩ (Nat.le_of_ble_eq_true rfl) dL_placed_44) (fun H locs hw => ?_)
    refine lv_istore_n (pc := 47) (lv' := [(3, .int q3.1), (2, .ref (ad 168)), (0, .ref (ad 167)), (1, .int v1)]) C0.1 C0.2.1 dL_placed_47 rfl hl (by decide) rfl (fun ls hl => ?_)
    refine lv_aload_n (pc := 48) C0.1 C0.2.1 dL_placed_48 rfl (lv_at hl 2 rfl) ?_
    refine lv_iload_n (pc := 49) C0.1 C0.2.1 dL_placed_49 rfl (lv_at hl 3 rfl) ?_
    obtain ⟨q4, hq4, hf⟩ := bd_e hf
    obtain ⟨u5, hu, hf⟩ := nm_f hf
    refine z_back0 (pc := 50) hI emb_1 hw hu (z_runV (pc := 50) (aa := ad) (As := [.int v1]) (rest := []) C0 hK (emb_P emb_1 (fun j _ => by rw [Nat.zero_add]) (fun j _ => by rw [Nat.zero_add]) hw.1) hl.1 ⟨Nat.le_of_ble_eq_true rfl, Nat.le_of_ble_eq_true rfl⟩ (kX6_places l D y ad hI0 v1 q3.2 hq4) (by decide) ly_M rfl rfl wc_X6_places wm_L_73 wi_X6_places ws_X6_places wn_X6 ⟨rfl, rfl⟩ hd_X6_places rfl ⟨Nat.le_of_ble_eq_true rfl, Nat.le_of_ble_eq_true rfl⟩ (Nat.le_of_ble_eq_true rfl) dL_placed_50) (fun H locs hw => ?_)
    refine lv_aload_n (pc := 53) C0.1 C0.2.1 dL_placed_53 rfl (lv_at hl 1 rfl) ?_
    refine lv_iconst (v := 0) (pc := 54) C0.1 C0.2.1 dL_placed_54 (by decide) ?_
    obtain ⟨hi, hf⟩ := gd_e hf
    refine x_iald (pc := 55) C0 hK hw (by decide) rfl hi dL_placed_55 ?_
    refine lv_icmp_eq (tgt := 61) (pc := 56) C0.1 C0.2.1 dL_placed_56 (by decide) (fun hc => ?_) (fun hc => ?_)
    · have hf := if_t hf hc
      refine lv_iload_n (pc := 61) C0.1 C0.2.1 dL_placed_61 rfl (lv_at hl 0 rfl) ?_
      obtain ⟨j6, hj6, hf⟩ := bd_e hf
      refine X_joinS (pc := 62) (xpc := 148) (j := j6) (st := []) hw (fun hE0 => ?_) (fun H locs hw => ?_)
      · have hf := hj6
        refine lv_if_ge (tgt := 84) (pc := 62) C0.1 C0.2.1 dL_placed_62 (by decide) (fun hc => ?_) (fun hc => ?_)
        · have hf := if_t hf hc
          refine lv_aload_n (pc := 84) C0.1 C0.2.1 dL_placed_84 rfl (lv_at hl 2 rfl) ?_
          refine lv_iload_n (pc := 85) C0.1 C0.2.1 dL_placed_85 rfl (lv_at hl 3 rfl) ?_
          refine lv_iconst (v := 0) (pc := 86) C0.1 C0.2.1 dL_placed_86 (by decide) ?_
          obtain ⟨q7, hq7, hf⟩ := bd_e hf
          obtain ⟨u8, hu, hf⟩ := nm_f hf
          refine z_back0 (pc := 87) hI emb_1 hw hu (z_runV (pc := 87) (aa := ad) (As := [.int v1, .int 0]) (rest := []) C0 hK (emb_P emb_1 (fun j _ => by rw [Nat.zero_add]) (fun j _ => by rw [Nat.zero_add]) hw.1) hl.1 ⟨Nat.le_of_ble_eq_true rfl, Nat.le_of_ble_eq_true rfl⟩ (kX6_place l D y ad hI0 v1 0 u5 hq7) (by decide) ly_M rfl rfl wc_X6_place wm_L_70 wi_X6_place ws_X6_place wn_X6 ⟨rfl, rfl⟩ hd_X6_place rfl ⟨Nat.le_of_ble_eq_true rfl, Nat.le_of_ble_eq_true rfl⟩ (Nat.le_of_ble_eq_true rfl) dL_placed_87) (fun H locs hw => ?_)
          refine lv_iload_n (pc := 90) C0.1 C0.2.1 dL_placed_90 rfl (lv_at hl 0 rfl) ?_
          refine lv_bipush (v := 10) (pc := 91) C0.1 C0.2.1 dL_placed_91 (by decide) ?_
          refine lv_idiv (pc := 93) C0.1 C0.2.1 dL_placed_93 (by decide) ?_
          refine lv_bipush (v := 10) (pc := 94) C0.1 C0.2.1 dL_placed_94 (by decide) ?_
          refine x_irem (pc := 96) C0.1 C0.2.1 dL_placed_96 (by decide) ?_
          obtain ⟨j9, hj9, hf⟩ := bd_e hf
          refine X_joinS (pc := 97) (xpc := 148) (j := j9) (st := []) hw (fun hE0 => ?_) (fun H locs hw => ?_)
          · have hf := hj9
            refine lv_icmp_ne (tgt := 147) (pc := 97) C0.1 C0.2.1 dL_placed_97 (by decide) (fun hc => ?_) (fun hc => ?_)
            · have hf := if_f hf hc
              refine lv_iconst (v := 0) (pc := 147) C0.1 C0.2.1 dL_placed_147 (by decide) ?_
              exact X_leafS hE0 (Option.some.inj hf) hw
            · have hf := if_t hf hc
              refine lv_aload_n (pc := 100) C0.1 C0.2.1 dL_placed_100 rfl (lv_at hl 2 rfl) ?_
              refine lv_iload_n (pc := 101) C0.1 C0.2.1 dL_placed_101 rfl (lv_at hl 3 rfl) ?_
              refine lv_iconst (v := 1) (pc := 102) C0.1 C0.2.1 dL_placed_102 (by decide) ?_
              obtain ⟨q10, hq10, hf⟩ := bd_e hf
              obtain ⟨u11, hu, hf⟩ := nm_f hf
              refine z_back0 (pc := 103) hI emb_1 hw hu (z_runV (pc := 103) (aa := ad) (As := [.int v1, .int 1]) (rest := []) C0 hK (emb_P emb_1 (fun j _ => by rw [Nat.zero_add]) (fun j _ => by rw [Nat.zero_add]) hw.1) hl.1 ⟨Nat.le_of_ble_eq_true rfl, Nat.le_of_ble_eq_true rfl⟩ (kX6_place l D y ad hI0 v1 1 u8 hq10) (by decide) ly_M rfl rfl wc_X6_place wm_L_70 wi_X6_place ws_X6_place wn_X6 ⟨rfl, rfl⟩ hd_X6_place rfl ⟨Nat.le_of_ble_eq_true rfl, Nat.le_of_ble_eq_true rfl⟩ (Nat.le_of_ble_eq_true rfl) dL_placed_103) (fun H locs hw => ?_)
              refine lv_iload_n (pc := 106) C0.1 C0.2.1 dL_placed_106 rfl (lv_at hl 0 rfl) ?_
              refine lv_bipush (v := 100) (pc := 107) C0.1 C0.2.1 dL_placed_107 (by decide) ?_
              refine lv_idiv (pc := 109) C0.1 C0.2.1 dL_placed_109 (by decide) ?_
              refine lv_bipush (v := 10) (pc := 110) C0.1 C0.2.1 dL_placed_110 (by decide) ?_
              refine x_irem (pc := 112) C0.1 C0.2.1 dL_placed_112 (by decide) ?_
              obtain ⟨j12, hj12, hf⟩ := bd_e hf
              refine X_joinS (pc := 113) (xpc := 148) (j := j12) (st := []) hw (fun hE0 => ?_) (fun H locs hw => ?_)
              · have hf := hj12
                refine lv_icmp_ne (tgt := 147) (pc := 113) C0.1 C0.2.1 dL_placed_113 (by decide) (fun hc => ?_) (fun hc => ?_)
                · have hf := if_f hf hc
                  refine lv_iconst (v := 0) (pc := 147) C0.1 C0.2.1 dL_placed_147 (by decide) ?_
                  exact X_leafS hE0 (Option.some.inj hf) hw
                · have hf := if_t hf hc
                  refine lv_aload_n (pc := 116) C0.1 C0.2.1 dL_placed_116 rfl (lv_at hl 2 rfl) ?_
                  refine lv_iload_n (pc := 117) C0.1 C0.2.1 dL_placed_117 rfl (lv_at hl 3 rfl) ?_
                  refine lv_iconst (v := 2) (pc := 118) C0.1 C0.2.1 dL_placed_118 (by decide) ?_
                  obtain ⟨q13, hq13, hf⟩ := bd_e hf
                  obtain ⟨u14, hu, hf⟩ := nm_f hf
                  refine z_back0 (pc := 119) hI emb_1 hw hu (z_runV (pc := 119) (aa := ad) (As := [.int v1, .int 2]) (rest := []) C0 hK (emb_P emb_1 (fun j _ => by rw [Nat.zero_add]) (fun j _ => by rw [Nat.zero_add]) hw.1) hl.1 ⟨Nat.le_of_ble_eq_true rfl, Nat.le_of_ble_eq_true rfl⟩ (kX6_place l D y ad hI0 v1 2 u11 hq13) (by decide) ly_M rfl rfl wc_X6_place wm_L_70 wi_X6_place ws_X6_place wn_X6 ⟨rfl, rfl⟩ hd_X6_place rfl ⟨Nat.le_of_ble_eq_true rfl, Nat.le_of_ble_eq_true rfl⟩ (Nat.le_of_ble_eq_true rfl) dL_placed_119) (fun H locs hw => ?_)
                  refine lv_iload_n (pc := 122) C0.1 C0.2.1 dL_placed_122 rfl (lv_at hl 0 rfl) ?_
                  refine lv_bipush (v := 10) (pc := 123) C0.1 C0.2.1 dL_placed_123 (by decide) ?_
                  refine x_irem (pc := 125) C0.1 C0.2.1 dL_placed_125 (by decide) ?_
                  obtain ⟨j15, hj15, hf⟩ := bd_e hf
                  refine X_joinS (pc := 126) (xpc := 148) (j := j15) (st := []) hw (fun hE0 => ?_) (fun H locs hw => ?_)
                  · have hf := hj15
                    refine lv_icmp_ne (tgt := 147) (pc := 126) C0.1 C0.2.1 dL_placed_126 (by decide) (fun hc => ?_) (fun hc => ?_)
                    · have hf := if_f hf hc
                      refine lv_iconst (v := 0) (pc := 147) C0.1 C0.2.1 dL_placed_147 (by decide) ?_
                      exact X_leafS hE0 (Option.some.inj hf) hw
                    · have hf := if_t hf hc
                      refine lv_aload_n (pc := 129) C0.1 C0.2.1 dL_placed_129 rfl (lv_at hl 2 rfl) ?_
                      refine lv_iload_n (pc := 130) C0.1 C0.2.1 dL_placed_130 rfl (lv_at hl 3 rfl) ?_
                      refine lv_iconst (v := 3) (pc := 131) C0.1 C0.2.1 dL_placed_131 (by decide) ?_
                      obtain ⟨q16, hq16, hf⟩ := bd_e hf
                      obtain ⟨u17, hu, hf⟩ := nm_f hf
                      refine z_back0 (pc := 132) hI emb_1 hw hu (z_runV (pc := 132) (aa := ad) (As := [.int v1, .int 3]) (rest := []) C0 hK (emb_P emb_1 (fun j _ => by rw [Nat.zero_add]) (fun j _ => by rw [Nat.zero_add]) hw.1) hl.1 ⟨Nat.le_of_ble_eq_true rfl, Nat.le_of_ble_eq_true rfl⟩ (kX6_place l D y ad hI0 v1 3 u14 hq16) (by decide) ly_M rfl rfl wc_X6_place wm_L_70 wi_X6_place ws_X6_place wn_X6 ⟨rfl, rfl⟩ hd_X6_place rfl ⟨Nat.le_of_ble_eq_true rfl, Nat.le_of_ble_eq_true rfl⟩ (Nat.le_of_ble_eq_true rfl) dL_placed_132) (fun H locs hw => ?_)
                      refine lv_iload_n (pc := 135) C0.1 C0.2.1 dL_placed_135 rfl (lv_at hl 0 rfl) ?_
                      refine lv_sipush (v := 1000) (pc := 136) C0.1 C0.2.1 dL_placed_136 (by decide) ?_
                      refine lv_idiv (pc := 139) C0.1 C0.2.1 dL_placed_139 (by decide) ?_
                      obtain ⟨j18, hj18, hf⟩ := bd_e hf
                      refine X_join (pc := 140) (xpc := 148) (j := j18) (st := []) hw (fun hE0 => ?_) (fun H locs hw => ?_)
                      · have hf := hj18
                        refine lv_icmp_ne (tgt := 147) (pc := 140) C0.1 C0.2.1 dL_placed_140 (by decide) (fun hc => ?_) (fun hc => ?_)
                        · have hf := if_f hf hc
                          refine lv_iconst (v := 0) (pc := 147) C0.1 C0.2.1 dL_placed_147 (by decide) ?_
                          exact X_leaf hE0 (Option.some.inj hf) hw
                        · have hf := if_t hf hc
                          refine lv_iconst (v := 1) (pc := 143) C0.1 C0.2.1 dL_placed_143 (by decide) ?_
                          refine lv_goto (tgt := 148) (pc := 144) C0.1 C0.2.1 dL_placed_144 (by decide) ?_
                          exact X_leaf hE0 (Option.some.inj hf) hw
                      · skip
                        exact X_leafS hE0 (Option.some.inj hf) hw
                  · skip
                    exact X_leafS hE0 (Option.some.inj hf) hw
              · skip
                exact X_leafS hE0 (Option.some.inj hf) hw
          · skip
            exact X_leafS hE0 (Option.some.inj hf) hw
        · have hf := if_f hf hc
          refine lv_aload_n (pc := 65) C0.1 C0.2.1 dL_placed_65 rfl (lv_at hl 2 rfl) ?_
          refine lv_iload_n (pc := 66) C0.1 C0.2.1 dL_placed_66 rfl (lv_at hl 3 rfl) ?_
          refine lv_iconst (v := 3) (pc := 67) C0.1 C0.2.1 dL_placed_67 (by decide) ?_
          obtain ⟨q19, hq19, hf⟩ := bd_e hf
          obtain ⟨u20, hu, hf⟩ := nm_f hf
          refine z_back0 (pc := 68) hI emb_1 hw hu (z_runV (pc := 68) (aa := ad) (As := [.int v1, .int 3]) (rest := []) C0 hK (emb_P emb_1 (fun j _ => by rw [Nat.zero_add]) (fun j _ => by rw [Nat.zero_add]) hw.1) hl.1 ⟨Nat.le_of_ble_eq_true rfl, Nat.le_of_ble_eq_true rfl⟩ (kX6_place l D y ad hI0 v1 3 u5 hq19) (by decide) ly_M rfl rfl wc_X6_place wm_L_70 wi_X6_place ws_X6_place wn_X6 ⟨rfl, rfl⟩ hd_X6_place rfl ⟨Nat.le_of_ble_eq_true rfl, Nat.le_of_ble_eq_true rfl⟩ (Nat.le_of_ble_eq_true rfl) dL_placed_68) (fun H locs hw => ?_)
          refine lv_bipush (v := (-9)) (pc := 71) C0.1 C0.2.1 dL_placed_71 (by decide) ?_
          obtain ⟨j21, hj21, hf⟩ := bd_e hf
          refine X_join (pc := 73) (xpc := 148) (j := j21) (st := []) hw (fun hE0 => ?_) (fun H locs hw => ?_)
          · have hf := hj21
            refine lv_icmp_ne (tgt := 80) (pc := 73) C0.1 C0.2.1 dL_placed_73 (by decide) (fun hc => ?_) (fun hc => ?_)
            · have hf := if_f hf hc
              refine lv_iconst (v := 0) (pc := 80) C0.1 C0.2.1 dL_placed_80 (by decide) ?_
              refine lv_goto (tgt := 148) (pc := 81) C0.1 C0.2.1 dL_placed_81 (by decide) ?_
              exact X_leaf hE0 (Option.some.inj hf) hw
            · have hf := if_t hf hc
              refine lv_iconst (v := 1) (pc := 76) C0.1 C0.2.1 dL_placed_76 (by decide) ?_
              refine lv_goto (tgt := 148) (pc := 77) C0.1 C0.2.1 dL_placed_77 (by decide) ?_
              exact X_leaf hE0 (Option.some.inj hf) hw
          · skip
            exact X_leafS hE0 (Option.some.inj hf) hw
      · skip
        obtain ⟨hz, hf⟩ := gd_e hf
        refine W.widen (k := 1) (n := 1) (Nat.le_of_ble_eq_true rfl) (Nat.le_of_ble_eq_true rfl) ?_
        exact z_zretN (pc := 148) emb_1 (fun j h1 h2 => by rw [show j = 168 by omega]; exact hnew) (fun j hj => (hd j hj).symm) C0 hK hk hr hw hz (Option.some.inj hf) dL_placed_148
    · have hf := if_f hf hc
      refine lv_iconst (v := 0) (pc := 59) C0.1 C0.2.1 dL_placed_59 (by decide) ?_
      refine W.widen (k := 1) (n := 1) (Nat.le_of_ble_eq_true rfl) (Nat.le_of_ble_eq_true rfl) ?_
      exact z_zretN (pc := 60) emb_1 (fun j h1 h2 => by rw [show j = 168 by omega]; exact hnew) (fun j hj => (hd j hj).symm) C0 hK hk hr hw rfl (Option.some.inj hf) dL_placed_60
  · have hf := if_t hf hc
    refine lv_aload_n (pc := 10) C0.1 C0.2.1 dL_placed_10 rfl (lv_at hl 0 rfl) ?_
    refine lv_iload_n (pc := 11) C0.1 C0.2.1 dL_placed_11 rfl (lv_at hl 1 rfl) ?_
    refine lv_iconst (v := 0) (pc := 12) C0.1 C0.2.1 dL_placed_12 (by decide) ?_
    obtain ⟨q22, hq22, hf⟩ := bd_e hf
    refine x_back (pc := 13) hw (x_runV (pc := 13) (As := [.int v1, .int 0]) (rest := []) C0 hK hw hl.1 ⟨Nat.zero_le _, Nat.zero_le _⟩ (kX6_place l D y ad hI v1 0 u hq22) (by decide) ly_M rfl rfl wc_X6_place wm_L_70 wi_X6_place ws_X6_place wn_X6 ⟨rfl, rfl⟩ hd_X6_place rfl ⟨Nat.le_of_ble_eq_true rfl, Nat.le_of_ble_eq_true rfl⟩ (Nat.le_of_ble_eq_true rfl) dL_placed_13) (fun H locs hw => ?_)
    refine lv_bipush (v := (-2)) (pc := 16) C0.1 C0.2.1 dL_placed_16 (by decide) ?_
    obtain ⟨j23, hj23, hf⟩ := bd_e hf
    refine X_joinS (pc := 18) (xpc := 36) (j := j23) (st := []) hw (fun hE0 => ?_) (fun H locs hw => ?_)
    · have hf := hj23
      refine lv_icmp_ne (tgt := 35) (pc := 18) C0.1 C0.2.1 dL_placed_18 (by decide) (fun hc => ?_) (fun hc => ?_)
      · have hf := if_f hf hc
        refine lv_iconst (v := 0) (pc := 35) C0.1 C0.2.1 dL_placed_35 (by decide) ?_
        exact X_leafS hE0 (Option.some.inj hf) hw
      · have hf := if_t hf hc
        refine lv_aload_n (pc := 21) C0.1 C0.2.1 dL_placed_21 rfl (lv_at hl 0 rfl) ?_
        refine lv_iload_n (pc := 22) C0.1 C0.2.1 dL_placed_22 rfl (lv_at hl 1 rfl) ?_
        obtain ⟨q24, hq24, hf⟩ := bd_e hf
        refine x_back (pc := 23) hw (x_runV (pc := 23) (As := [.int v1]) (rest := []) C0 hK hw hl.1 ⟨Nat.zero_le _, Nat.zero_le _⟩ (kX6_places l D y ad hI v1 q22.2 hq24) (by decide) ly_M rfl rfl wc_X6_places wm_L_73 wi_X6_places ws_X6_places wn_X6 ⟨rfl, rfl⟩ hd_X6_places rfl ⟨Nat.le_of_ble_eq_true rfl, Nat.le_of_ble_eq_true rfl⟩ (Nat.le_of_ble_eq_true rfl) dL_placed_23) (fun H locs hw => ?_)
        refine lv_bipush (v := (-2)) (pc := 26) C0.1 C0.2.1 dL_placed_26 (by decide) ?_
        obtain ⟨j25, hj25, hf⟩ := bd_e hf
        refine X_join (pc := 28) (xpc := 36) (j := j25) (st := []) hw (fun hE0 => ?_) (fun H locs hw => ?_)
        · have hf := hj25
          refine lv_icmp_ne (tgt := 35) (pc := 28) C0.1 C0.2.1 dL_placed_28 (by decide) (fun hc => ?_) (fun hc => ?_)
          · have hf := if_f hf hc
            refine lv_iconst (v := 0) (pc := 35) C0.1 C0.2.1 dL_placed_35 (by decide) ?_
            exact X_leaf hE0 (Option.some.inj hf) hw
          · have hf := if_t hf hc
            refine lv_iconst (v := 1) (pc := 31) C0.1 C0.2.1 dL_placed_31 (by decide) ?_
            refine lv_goto (tgt := 36) (pc := 32) C0.1 C0.2.1 dL_placed_32 (by decide) ?_
            exact X_leaf hE0 (Option.some.inj hf) hw
        · skip
          exact X_leafS hE0 (Option.some.inj hf) hw
    · skip
      obtain ⟨hz, hf⟩ := gd_e hf
      refine W.widen (k := 1) (n := 1) (Nat.le_of_ble_eq_true rfl) (Nat.le_of_ble_eq_true rfl) ?_
      exact x_zret (pc := 36) C0 hK hk hr hw hz (Option.some.inj hf) dL_placed_36
def wL_setUp : List Cond := .code yL_setUp cL_setUp 8 (some .boolean) :: lwT
def rL_setUp : Room := { frames := 5, cells := 0, slots := 0, locals := 115 }
set_option maxRecDepth 100000 in
set_option maxHeartbeats 4000000 in
theorem kL_setUp (l : Launch) (D : va_G) (y : Nat → ClassId) (ad : Nat → Nat) (hI : XI ad 168) (b L : Nat) (xs : Nat → Int32) (hbA : ¬ XA ad 168 b) (v2 : Int32) (v3 : Int32) (u : S) {o : Int32 × S} (hf : fL_setUp L xs v2 v3 u = some o) : Met l yL_setUp wL_setUp rL_setUp (va_Pc [.ref (ad 167), .ref b, .int v2, .int v3] (XWs D y ad u b L xs)) (XQi D y ad LX 168 o) 0 0 (XA ad 168) := by
  refine y_metS (bytes := cL_setUp) (maxL := 8) (ret := (some .boolean)) (own := RL) (by decide) rfl rfl (Nat.le_of_ble_eq_true rfl) (fun p e s m below meth c ls C0 hK hk hr hX hbl hw hl => ?_)
  have hl : lv_has ls 8 [(0, .ref (ad 167)), (1, .ref b), (2, .int v2), (3, .int v3)] := hl
  unfold fL_setUp at hf
  refine lv_aload_n (pc := 0) C0.1 C0.2.1 dL_setUp_0 rfl (lv_at hl 1 rfl) ?_
  refine lv_iload_n (pc := 1) C0.1 C0.2.1 dL_setUp_1 rfl (lv_at hl 2 rfl) ?_
  obtain ⟨q1, hq1, hf⟩ := bd_e hf
  refine x_backp (pc := 2) hw (y_runS (pc := 2) (As := [.ref b, .int v2]) (rest := []) C0 hK hw hX hbl hbA hl.1 ⟨Nat.le_of_ble_eq_true rfl, Nat.le_of_ble_eq_true rfl⟩ (kL_cell l D y ad hI b L xs hbA v2 u hq1) rfl wc_L_cell wm_L_10 wt_L_cell wn_L ⟨rfl, rfl⟩ hd_L_cell rfl ⟨Nat.le_of_ble_eq_true rfl, Nat.le_of_ble_eq_true rfl⟩ (Nat.le_of_ble_eq_true rfl) dL_setUp_2) (fun H locs hw => ?_)
  refine lv_istore (pc := 5) (lv' := [(4, .int q1), (0, .ref (ad 167)), (1, .ref b), (2, .int v2), (3, .int v3)]) C0.1 C0.2.1 dL_setUp_5 hl (by decide) rfl (fun ls hl => ?_)
  refine lv_aload_n (pc := 7) C0.1 C0.2.1 dL_setUp_7 rfl (lv_at hl 1 rfl) ?_
  refine lv_iconst (v := 2) (pc := 8) C0.1 C0.2.1 dL_setUp_8 (by decide) ?_
  refine lv_iload (pc := 9) C0.1 C0.2.1 dL_setUp_9 (lv_at hl 0 rfl) ?_
  refine lv_iconst (v := 4) (pc := 11) C0.1 C0.2.1 dL_setUp_11 (by decide) ?_
  obtain ⟨q2, hq2, hf⟩ := bd_e hf
  refine x_backp (pc := 12) hw (x_runS (pc := 12) (As := [.int q1, .int 4]) (rest := [.int 2, .ref (ad 167)]) C0 hK hw hl.1 ⟨Nat.zero_le _, Nat.zero_le _⟩ (kL_low l D y ad hI q1 4 u hq2) rfl wc_L_low wm_L_16 wt_L_low wn_L ⟨rfl, rfl⟩ hd_L_low rfl ⟨Nat.le_of_ble_eq_true rfl, Nat.le_of_ble_eq_true rfl⟩ (Nat.le_of_ble_eq_true rfl) dL_setUp_12) (fun H locs hw => ?_)
  refine lv_iadd (pc := 15) C0.1 C0.2.1 dL_setUp_15 ?_
  refine lv_iconst (v := 2) (pc := 16) C0.1 C0.2.1 dL_setUp_16 (by decide) ?_
  refine lv_iload (pc := 17) C0.1 C0.2.1 dL_setUp_17 (lv_at hl 0 rfl) ?_
  refine lv_iconst (v := 3) (pc := 19) C0.1 C0.2.1 dL_setUp_19 (by decide) ?_
  refine lv_ishr (pc := 20) C0.1 C0.2.1 dL_setUp_20 ?_
  refine lv_iconst (v := 4) (pc := 21) C0.1 C0.2.1 dL_setUp_21 (by decide) ?_
  obtain ⟨q3, hq3, hf⟩ := bd_e hf
  refine x_backp (pc := 22) hw (x_runS (pc := 22) (As := [.int (q1 >>> (3 &&& 31)), .int 4]) (rest := [.int 2, .int (2 + q2), .ref (ad 167)]) C0 hK hw hl.1 ⟨Nat.zero_le _, Nat.zero_le _⟩ (kL_low l D y ad hI (q1 >>> (3 &&& 31)) 4 u hq3) rfl wc_L_low wm_L_16 wt_L_low wn_L ⟨rfl, rfl⟩ hd_L_low rfl ⟨Nat.le_of_ble_eq_true rfl, Nat.le_of_ble_eq_true rfl⟩ (Nat.le_of_ble_eq_true rfl) dL_setUp_22) (fun H locs hw => ?_)
  refine lv_iadd (pc := 25) C0.1 C0.2.1 dL_setUp_25 ?_
  refine lv_iconst (v := 3) (pc := 26) C0.1 C0.2.1 dL_setUp_26 (by decide) ?_
  refine lv_iload (pc := 27) C0.1 C0.2.1 dL_setUp_27 (lv_at hl 0 rfl) ?_
  refine lv_bipush (v := 6) (pc := 29) C0.1 C0.2.1 dL_setUp_29 (by decide) ?_
  refine lv_ishr (pc := 31) C0.1 C0.2.1 dL_setUp_31 ?_
  refine lv_bipush (v := 14) (pc := 32) C0.1 C0.2.1 dL_setUp_32 (by decide) ?_
  obtain ⟨q4, hq4, hf⟩ := bd_e hf
  refine x_backp (pc := 34) hw (x_runS (pc := 34) (As := [.int (q1 >>> (6 &&& 31)), .int 14]) (rest := [.int 3, .int (2 + q3), .int (2 + q2), .ref (ad 167)]) C0 hK hw hl.1 ⟨Nat.zero_le _, Nat.zero_le _⟩ (kL_low l D y ad hI (q1 >>> (6 &&& 31)) 14 u hq4) rfl wc_L_low wm_L_16 wt_L_low wn_L ⟨rfl, rfl⟩ hd_L_low rfl ⟨Nat.le_of_ble_eq_true rfl, Nat.le_of_ble_eq_true rfl⟩ (Nat.le_of_ble_eq_true rfl) dL_setUp_34) (fun H locs hw => ?_)
  refine lv_iadd (pc := 37) C0.1 C0.2.1 dL_setUp_37 ?_
  obtain ⟨q5, hq5, hf⟩ := bd_e hf
  refine x_back (pc := 38) hw (x_runV (pc := 38) (As := [.int (2 + q2), .int (2 + q3), .int (3 + q4)]) (rest := []) C0 hK hw hl.1 ⟨Nat.zero_le _, Nat.zero_le _⟩ (kX6_setBox l D y ad hI (2 + q2) (2 + q3) (3 + q4) u hq5) (by decide) ly_M rfl rfl wc_X6_setBox wm_L_20 wi_X6_setBox ws_X6_setBox wn_X6 ⟨rfl, rfl⟩ hd_X6_setBox rfl ⟨Nat.le_of_ble_eq_true rfl, Nat.le_of_ble_eq_true rfl⟩ (Nat.le_of_ble_eq_true rfl) dL_setUp_38) (fun H locs hw => ?_)
  obtain ⟨j6, hj6, hf⟩ := bd_e hf
  refine X_joinS (pc := 41) (xpc := 85) (j := j6) (st := []) hw (fun hE0 => ?_) (fun H locs hw => ?_)
  · have hf := hj6
    refine lv_if_ne (tgt := 84) (pc := 41) C0.1 C0.2.1 dL_setUp_41 (by decide) (fun hc => ?_) (fun hc => ?_)
    · have hf := if_f hf hc
      refine lv_iconst (v := 0) (pc := 84) C0.1 C0.2.1 dL_setUp_84 (by decide) ?_
      exact X_leafS hE0 (Option.some.inj hf) hw
    · have hf := if_t hf hc
      refine lv_aload_n (pc := 44) C0.1 C0.2.1 dL_setUp_44 rfl (lv_at hl 1 rfl) ?_
      refine lv_iload (pc := 45) C0.1 C0.2.1 dL_setUp_45 (lv_at hl 0 rfl) ?_
      refine lv_bipush (v := 11) (pc := 47) C0.1 C0.2.1 dL_setUp_47 (by decide) ?_
      refine lv_ishr (pc := 49) C0.1 C0.2.1 dL_setUp_49 ?_
      refine lv_iconst (v := 3) (pc := 50) C0.1 C0.2.1 dL_setUp_50 (by decide) ?_
      obtain ⟨q7, hq7, hf⟩ := bd_e hf
      refine x_backp (pc := 51) hw (x_runS (pc := 51) (As := [.int (q1 >>> (11 &&& 31)), .int 3]) (rest := [.ref (ad 167)]) C0 hK hw hl.1 ⟨Nat.zero_le _, Nat.zero_le _⟩ (kL_low l D y ad hI (q1 >>> (11 &&& 31)) 3 q5.2 hq7) rfl wc_L_low wm_L_16 wt_L_low wn_L ⟨rfl, rfl⟩ hd_L_low rfl ⟨Nat.le_of_ble_eq_true rfl, Nat.le_of_ble_eq_true rfl⟩ (Nat.le_of_ble_eq_true rfl) dL_setUp_51) (fun H locs hw => ?_)
      obtain ⟨j8, hj8, hf⟩ := bd_e hf
      refine X_join (pc := 54) (xpc := 72) (j := j8) (st := [.ref (ad 167)]) hw (fun hE0 => ?_) (fun H locs hw => ?_)
      · have hf := hj8
        refine lv_if_ne (tgt := 70) (pc := 54) C0.1 C0.2.1 dL_setUp_54 (by decide) (fun hc => ?_) (fun hc => ?_)
        · have hf := if_f hf hc
          refine lv_bipush (v := 20) (pc := 70) C0.1 C0.2.1 dL_setUp_70 (by decide) ?_
          exact X_leaf hE0 (Option.some.inj hf) hw
        · have hf := if_t hf hc
          refine lv_iload (pc := 57) C0.1 C0.2.1 dL_setUp_57 (lv_at hl 0 rfl) ?_
          refine lv_bipush (v := 13) (pc := 59) C0.1 C0.2.1 dL_setUp_59 (by decide) ?_
          refine lv_ishr (pc := 61) C0.1 C0.2.1 dL_setUp_61 ?_
          refine lv_bipush (v := 101) (pc := 62) C0.1 C0.2.1 dL_setUp_62 (by decide) ?_
          obtain ⟨q9, hq9, hf⟩ := bd_e hf
          refine x_backp (pc := 64) hw (x_runS (pc := 64) (As := [.int (q1 >>> (13 &&& 31)), .int 101]) (rest := [.ref (ad 167)]) C0 hK hw hl.1 ⟨Nat.zero_le _, Nat.zero_le _⟩ (kL_low l D y ad hI (q1 >>> (13 &&& 31)) 101 q5.2 hq9) rfl wc_L_low wm_L_16 wt_L_low wn_L ⟨rfl, rfl⟩ hd_L_low rfl ⟨Nat.le_of_ble_eq_true rfl, Nat.le_of_ble_eq_true rfl⟩ (Nat.le_of_ble_eq_true rfl) dL_setUp_64) (fun H locs hw => ?_)
          refine lv_goto (tgt := 72) (pc := 67) C0.1 C0.2.1 dL_setUp_67 (by decide) ?_
          exact X_leaf hE0 (Option.some.inj hf) hw
      · skip
        obtain ⟨q10, hq10, hf⟩ := bd_e hf
        refine x_back (pc := 72) hw (x_runV (pc := 72) (As := [.int j8]) (rest := []) C0 hK hw hl.1 ⟨Nat.zero_le _, Nat.zero_le _⟩ (kX6_setShare l D y ad hI j8 q5.2 hq10) (by decide) ly_M rfl rfl wc_X6_setShare wm_L_26 wi_X6_setShare ws_X6_setShare wn_X6 ⟨rfl, rfl⟩ hd_X6_setShare rfl ⟨Nat.le_of_ble_eq_true rfl, Nat.le_of_ble_eq_true rfl⟩ (Nat.le_of_ble_eq_true rfl) dL_setUp_72) (fun H locs hw => ?_)
        refine lv_bipush (v := 50) (pc := 75) C0.1 C0.2.1 dL_setUp_75 (by decide) ?_
        obtain ⟨j11, hj11, hf⟩ := bd_e hf
        refine X_join (pc := 77) (xpc := 85) (j := j11) (st := []) hw (fun hE0 => ?_) (fun H locs hw => ?_)
        · have hf := hj11
          refine lv_icmp_ne (tgt := 84) (pc := 77) C0.1 C0.2.1 dL_setUp_77 (by decide) (fun hc => ?_) (fun hc => ?_)
          · have hf := if_f hf hc
            refine lv_iconst (v := 0) (pc := 84) C0.1 C0.2.1 dL_setUp_84 (by decide) ?_
            exact X_leaf hE0 (Option.some.inj hf) hw
          · have hf := if_t hf hc
            refine lv_iconst (v := 1) (pc := 80) C0.1 C0.2.1 dL_setUp_80 (by decide) ?_
            refine lv_goto (tgt := 85) (pc := 81) C0.1 C0.2.1 dL_setUp_81 (by decide) ?_
            exact X_leaf hE0 (Option.some.inj hf) hw
        · skip
          exact X_leafS hE0 (Option.some.inj hf) hw
  · skip
    refine lv_istore (pc := 85) (lv' := [(5, .int j6.1), (4, .int q1), (0, .ref (ad 167)), (1, .ref b), (2, .int v2), (3, .int v3)]) C0.1 C0.2.1 dL_setUp_85 hl (by decide) rfl (fun ls hl => ?_)
    refine lv_iconst (v := 0) (pc := 87) C0.1 C0.2.1 dL_setUp_87 (by decide) ?_
    refine lv_istore (pc := 88) (lv' := [(6, .int 0), (5, .int j6.1), (4, .int q1), (0, .ref (ad 167)), (1, .ref b), (2, .int v2), (3, .int v3)]) C0.1 C0.2.1 dL_setUp_88 hl (by decide) rfl (fun ls hl => ?_)
    obtain ⟨e12, he12, hf⟩ := bd_e hf
    refine X_loop (pc := 90) (xpc := 201) (fu := fun a1 => a1.2.2) (fl := fun a1 => [(6, .int a1.2.1), (5, .int a1.1), (4, .int q1), (0, .ref (ad 167)), (1, .ref b), (2, .int v2), (3, .int v3)]) (fun a1 r hf hE hG H locs ls hw hl => ?_) he12 (fun H locs ls hw hl => ?_) hw hl
    · unfold gL_setUp_90 at hf
      refine lv_iload (pc := 90) C0.1 C0.2.1 dL_setUp_90 (lv_at hl 0 rfl) ?_
      refine lv_iload_n (pc := 92) C0.1 C0.2.1 dL_setUp_92 rfl (lv_at hl 6 rfl) ?_
      refine lv_icmp_ge (tgt := 201) (pc := 93) C0.1 C0.2.1 dL_setUp_93 (by decide) (fun hc => ?_) (fun hc => ?_)
      · have hf := if_t hf hc
        exact hE _ (Option.some.inj hf).symm H locs ls hw (lv_sub hl [0, 1, 2, 3, 4, 5, 6] rfl)
      · have hf := if_f hf hc
        refine lv_iload (pc := 96) C0.1 C0.2.1 dL_setUp_96 (lv_at hl 1 rfl) ?_
        refine lv_if_eq (tgt := 201) (pc := 98) C0.1 C0.2.1 dL_setUp_98 (by decide) (fun hc => ?_) (fun hc => ?_)
        · have hf := if_t hf hc
          exact hE _ (Option.some.inj hf).symm H locs ls hw (lv_sub hl [0, 1, 2, 3, 4, 5, 6] rfl)
        · have hf := if_f hf hc
          refine lv_aload_n (pc := 101) C0.1 C0.2.1 dL_setUp_101 rfl (lv_at hl 4 rfl) ?_
          refine lv_iload_n (pc := 102) C0.1 C0.2.1 dL_setUp_102 rfl (lv_at hl 5 rfl) ?_
          refine lv_iconst (v := 1) (pc := 103) C0.1 C0.2.1 dL_setUp_103 (by decide) ?_
          refine lv_iadd (pc := 104) C0.1 C0.2.1 dL_setUp_104 ?_
          refine lv_iload (pc := 105) C0.1 C0.2.1 dL_setUp_105 (lv_at hl 0 rfl) ?_
          refine lv_iadd (pc := 107) C0.1 C0.2.1 dL_setUp_107 ?_
          obtain ⟨q13, hq13, hf⟩ := bd_e hf
          refine x_backp (pc := 108) hw (y_runS (pc := 108) (As := [.ref b, .int ((v2 + 1) + a1.2.1)]) (rest := []) C0 hK hw hX hbl hbA hl.1 ⟨Nat.le_of_ble_eq_true rfl, Nat.le_of_ble_eq_true rfl⟩ (kL_cell l D y ad hI b L xs hbA ((v2 + 1) + a1.2.1) a1.2.2 hq13) rfl wc_L_cell wm_L_10 wt_L_cell wn_L ⟨rfl, rfl⟩ hd_L_cell rfl ⟨Nat.le_of_ble_eq_true rfl, Nat.le_of_ble_eq_true rfl⟩ (Nat.le_of_ble_eq_true rfl) dL_setUp_108) (fun H locs hw => ?_)
          refine lv_istore (pc := 111) (lv' := [(7, .int q13), (6, .int a1.2.1), (5, .int a1.1), (4, .int q1), (0, .ref (ad 167)), (1, .ref b), (2, .int v2), (3, .int v3)]) C0.1 C0.2.1 dL_setUp_111 hl (by decide) rfl (fun ls hl => ?_)
          refine lv_aload_n (pc := 113) C0.1 C0.2.1 dL_setUp_113 rfl (lv_at hl 4 rfl) ?_
          refine lv_iconst (v := 1) (pc := 114) C0.1 C0.2.1 dL_setUp_114 (by decide) ?_
          refine lv_iload (pc := 115) C0.1 C0.2.1 dL_setUp_115 (lv_at hl 0 rfl) ?_
          refine lv_iconst (v := 4) (pc := 117) C0.1 C0.2.1 dL_setUp_117 (by decide) ?_
          obtain ⟨q14, hq14, hf⟩ := bd_e hf
          refine x_backp (pc := 118) hw (x_runS (pc := 118) (As := [.int q13, .int 4]) (rest := [.int 1, .ref (ad 167)]) C0 hK hw hl.1 ⟨Nat.zero_le _, Nat.zero_le _⟩ (kL_low l D y ad hI q13 4 a1.2.2 hq14) rfl wc_L_low wm_L_16 wt_L_low wn_L ⟨rfl, rfl⟩ hd_L_low rfl ⟨Nat.le_of_ble_eq_true rfl, Nat.le_of_ble_eq_true rfl⟩ (Nat.le_of_ble_eq_true rfl) dL_setUp_118) (fun H locs hw => ?_)
          refine lv_iadd (pc := 121) C0.1 C0.2.1 dL_setUp_121 ?_
          refine lv_iconst (v := 1) (pc := 122) C0.1 C0.2.1 dL_setUp_122 (by decide) ?_
          refine lv_iload (pc := 123) C0.1 C0.2.1 dL_setUp_123 (lv_at hl 0 rfl) ?_
          refine lv_iconst (v := 3) (pc := 125) C0.1 C0.2.1 dL_setUp_125 (by decide) ?_
          refine lv_ishr (pc := 126) C0.1 C0.2.1 dL_setUp_126 ?_
          refine lv_iconst (v := 4) (pc := 127) C0.1 C0.2.1 dL_setUp_127 (by decide) ?_
          obtain ⟨q15, hq15, hf⟩ := bd_e hf
          refine x_backp (pc := 128) hw (x_runS (pc := 128) (As := [.int (q13 >>> (3 &&& 31)), .int 4]) (rest := [.int 1, .int (1 + q14), .ref (ad 167)]) C0 hK hw hl.1 ⟨Nat.zero_le _, Nat.zero_le _⟩ (kL_low l D y ad hI (q13 >>> (3 &&& 31)) 4 a1.2.2 hq15) rfl wc_L_low wm_L_16 wt_L_low wn_L ⟨rfl, rfl⟩ hd_L_low rfl ⟨Nat.le_of_ble_eq_true rfl, Nat.le_of_ble_eq_true rfl⟩ (Nat.le_of_ble_eq_true rfl) dL_setUp_128) (fun H locs hw => ?_)
          refine lv_iadd (pc := 131) C0.1 C0.2.1 dL_setUp_131 ?_
          refine lv_iconst (v := 1) (pc := 132) C0.1 C0.2.1 dL_setUp_132 (by decide) ?_
          refine lv_iload (pc := 133) C0.1 C0.2.1 dL_setUp_133 (lv_at hl 0 rfl) ?_
          refine lv_bipush (v := 6) (pc := 135) C0.1 C0.2.1 dL_setUp_135 (by decide) ?_
          refine lv_ishr (pc := 137) C0.1 C0.2.1 dL_setUp_137 ?_
          refine lv_iconst (v := 3) (pc := 138) C0.1 C0.2.1 dL_setUp_138 (by decide) ?_
          obtain ⟨q16, hq16, hf⟩ := bd_e hf
          refine x_backp (pc := 139) hw (x_runS (pc := 139) (As := [.int (q13 >>> (6 &&& 31)), .int 3]) (rest := [.int 1, .int (1 + q15), .int (1 + q14), .ref (ad 167)]) C0 hK hw hl.1 ⟨Nat.zero_le _, Nat.zero_le _⟩ (kL_low l D y ad hI (q13 >>> (6 &&& 31)) 3 a1.2.2 hq16) rfl wc_L_low wm_L_16 wt_L_low wn_L ⟨rfl, rfl⟩ hd_L_low rfl ⟨Nat.le_of_ble_eq_true rfl, Nat.le_of_ble_eq_true rfl⟩ (Nat.le_of_ble_eq_true rfl) dL_setUp_139) (fun H locs hw => ?_)
          refine lv_iadd (pc := 142) C0.1 C0.2.1 dL_setUp_142 ?_
          refine lv_iload (pc := 143) C0.1 C0.2.1 dL_setUp_143 (lv_at hl 0 rfl) ?_
          refine lv_bipush (v := 9) (pc := 145) C0.1 C0.2.1 dL_setUp_145 (by decide) ?_
          refine lv_ishr (pc := 147) C0.1 C0.2.1 dL_setUp_147 ?_
          refine lv_bipush (v := 10) (pc := 148) C0.1 C0.2.1 dL_setUp_148 (by decide) ?_
          obtain ⟨q17, hq17, hf⟩ := bd_e hf
          refine x_backp (pc := 150) hw (x_runS (pc := 150) (As := [.int (q13 >>> (9 &&& 31)), .int 10]) (rest := [.int (1 + q16), .int (1 + q15), .int (1 + q14), .ref (ad 167)]) C0 hK hw hl.1 ⟨Nat.zero_le _, Nat.zero_le _⟩ (kL_low l D y ad hI (q13 >>> (9 &&& 31)) 10 a1.2.2 hq17) rfl wc_L_low wm_L_16 wt_L_low wn_L ⟨rfl, rfl⟩ hd_L_low rfl ⟨Nat.le_of_ble_eq_true rfl, Nat.le_of_ble_eq_true rfl⟩ (Nat.le_of_ble_eq_true rfl) dL_setUp_150) (fun H locs hw => ?_)
          obtain ⟨q18, hq18, hf⟩ := bd_e hf
          refine x_back (pc := 153) hw (x_runV (pc := 153) (As := [.int (1 + q14), .int (1 + q15), .int (1 + q16), .int q17]) (rest := []) C0 hK hw hl.1 ⟨Nat.zero_le _, Nat.zero_le _⟩ (kX6_add l D y ad hI (1 + q14) (1 + q15) (1 + q16) q17 a1.2.2 hq18) (by decide) ly_M rfl rfl wc_X6_add wm_L_30 wi_X6_add ws_X6_add wn_X6 ⟨rfl, rfl⟩ hd_X6_add rfl ⟨Nat.le_of_ble_eq_true rfl, Nat.le_of_ble_eq_true rfl⟩ (Nat.le_of_ble_eq_true rfl) dL_setUp_153) (fun H locs hw => ?_)
          refine lv_iload (pc := 156) C0.1 C0.2.1 dL_setUp_156 (lv_at hl 1 rfl) ?_
          obtain ⟨j19, hj19, hf⟩ := bd_e hf
          refine X_joinS (pc := 158) (xpc := 193) (j := j19) (st := []) hw (fun hE0 => ?_) (fun H locs hw => ?_)
          · have hf := hj19
            refine lv_icmp_ne (tgt := 192) (pc := 158) C0.1 C0.2.1 dL_setUp_158 (by decide) (fun hc => ?_) (fun hc => ?_)
            · have hf := if_f hf hc
              refine lv_iconst (v := 0) (pc := 192) C0.1 C0.2.1 dL_setUp_192 (by decide) ?_
              exact X_leafS hE0 (Option.some.inj hf) hw
            · have hf := if_t hf hc
              refine lv_aload_n (pc := 161) C0.1 C0.2.1 dL_setUp_161 rfl (lv_at hl 4 rfl) ?_
              refine lv_iload (pc := 162) C0.1 C0.2.1 dL_setUp_162 (lv_at hl 1 rfl) ?_
              refine lv_iconst (v := 1) (pc := 164) C0.1 C0.2.1 dL_setUp_164 (by decide) ?_
              refine lv_iload (pc := 165) C0.1 C0.2.1 dL_setUp_165 (lv_at hl 0 rfl) ?_
              refine lv_bipush (v := 14) (pc := 167) C0.1 C0.2.1 dL_setUp_167 (by decide) ?_
              refine lv_ishr (pc := 169) C0.1 C0.2.1 dL_setUp_169 ?_
              refine lv_iconst (v := 4) (pc := 170) C0.1 C0.2.1 dL_setUp_170 (by decide) ?_
              obtain ⟨q20, hq20, hf⟩ := bd_e hf
              refine x_backp (pc := 171) hw (x_runS (pc := 171) (As := [.int (q13 >>> (14 &&& 31)), .int 4]) (rest := [.int 1, .int a1.2.1, .ref (ad 167)]) C0 hK hw hl.1 ⟨Nat.zero_le _, Nat.zero_le _⟩ (kL_low l D y ad hI (q13 >>> (14 &&& 31)) 4 q18.2 hq20) rfl wc_L_low wm_L_16 wt_L_low wn_L ⟨rfl, rfl⟩ hd_L_low rfl ⟨Nat.le_of_ble_eq_true rfl, Nat.le_of_ble_eq_true rfl⟩ (Nat.le_of_ble_eq_true rfl) dL_setUp_171) (fun H locs hw => ?_)
              obtain ⟨j21, hj21, hf⟩ := bd_e hf
              refine X_join (pc := 174) (xpc := 182) (j := j21) (st := [.int 1, .int a1.2.1, .ref (ad 167)]) hw (fun hE0 => ?_) (fun H locs hw => ?_)
              · have hf := hj21
                refine lv_if_ne (tgt := 181) (pc := 174) C0.1 C0.2.1 dL_setUp_174 (by decide) (fun hc => ?_) (fun hc => ?_)
                · have hf := if_f hf hc
                  refine lv_iconst (v := 0) (pc := 181) C0.1 C0.2.1 dL_setUp_181 (by decide) ?_
                  exact X_leaf hE0 (Option.some.inj hf) hw
                · have hf := if_t hf hc
                  refine lv_iconst (v := 1) (pc := 177) C0.1 C0.2.1 dL_setUp_177 (by decide) ?_
                  refine lv_goto (tgt := 182) (pc := 178) C0.1 C0.2.1 dL_setUp_178 (by decide) ?_
                  exact X_leaf hE0 (Option.some.inj hf) hw
              · skip
                obtain ⟨q22, hq22, hf⟩ := bd_e hf
                refine x_back (pc := 182) hw (x_runV (pc := 182) (As := [.int a1.2.1, .int 1, .int j21]) (rest := []) C0 hK hw hl.1 ⟨Nat.zero_le _, Nat.zero_le _⟩ (kX6_setTray l D y ad hI a1.2.1 1 j21 q18.2 hq22) (by decide) ly_M rfl rfl wc_X6_setTray wm_L_34 wi_X6_setTray ws_X6_setTray wn_X6 ⟨rfl, rfl⟩ hd_X6_setTray rfl ⟨Nat.le_of_ble_eq_true rfl, Nat.le_of_ble_eq_true rfl⟩ (Nat.le_of_ble_eq_true rfl) dL_setUp_182) (fun H locs hw => ?_)
                obtain ⟨j23, hj23, hf⟩ := bd_e hf
                refine X_join (pc := 185) (xpc := 193) (j := j23) (st := []) hw (fun hE0 => ?_) (fun H locs hw => ?_)
                · have hf := hj23
                  refine lv_if_ne (tgt := 192) (pc := 185) C0.1 C0.2.1 dL_setUp_185 (by decide) (fun hc => ?_) (fun hc => ?_)
                  · have hf := if_f hf hc
                    refine lv_iconst (v := 0) (pc := 192) C0.1 C0.2.1 dL_setUp_192 (by decide) ?_
                    exact X_leaf hE0 (Option.some.inj hf) hw
                  · have hf := if_t hf hc
                    refine lv_iconst (v := 1) (pc := 188) C0.1 C0.2.1 dL_setUp_188 (by decide) ?_
                    refine lv_goto (tgt := 193) (pc := 189) C0.1 C0.2.1 dL_setUp_189 (by decide) ?_
                    exact X_leaf hE0 (Option.some.inj hf) hw
                · skip
                  exact X_leafS hE0 (Option.some.inj hf) hw
          · skip
            refine lv_istore (pc := 193) (lv' := [(5, .int j19.1), (7, .int q13), (6, .int a1.2.1), (4, .int q1), (0, .ref (ad 167)), (1, .ref b), (2, .int v2), (3, .int v3)]) C0.1 C0.2.1 dL_setUp_193 hl (by decide) rfl (fun ls hl => ?_)
            refine lv_iinc (pc := 195) (v := a1.2.1 + 1) (lv' := [(6, .int (a1.2.1 + 1)), (5, .int j19.1), (7, .int q13), (4, .int q1), (0, .ref (ad 167)), (1, .ref b), (2, .int v2), (3, .int v3)]) C0.1 C0.2.1 dL_setUp_195 hl (k := 2) rfl rfl (by decide) rfl (fun ls hl => ?_)
            refine lv_goto (tgt := 90) (pc := 198) C0.1 C0.2.1 dL_setUp_198 (by decide) ?_
            exact hG _ (Option.some.inj hf).symm H locs ls hw (lv_sub hl [0, 1, 3, 4, 5, 6, 7] rfl)
    · skip
      refine lv_iload (pc := 201) C0.1 C0.2.1 dL_setUp_201 (lv_at hl 1 rfl) ?_
      obtain ⟨j24, hj24, hf⟩ := bd_e hf
      refine X_join (pc := 203) (xpc := 228) (j := j24) (st := []) hw (fun hE0 => ?_) (fun H locs hw => ?_)
      · have hf := hj24
        refine lv_if_eq (tgt := 227) (pc := 203) C0.1 C0.2.1 dL_setUp_203 (by decide) (fun hc => ?_) (fun hc => ?_)
        · have hf := if_t hf hc
          refine lv_iconst (v := 0) (pc := 227) C0.1 C0.2.1 dL_setUp_227 (by decide) ?_
          exact X_leaf hE0 (Option.some.inj hf) hw
        · have hf := if_f hf hc
          refine lv_aload_n (pc := 206) C0.1 C0.2.1 dL_setUp_206 rfl (lv_at hl 3 rfl) ?_
          refine lv_iconst (v := 4) (pc := 207) C0.1 C0.2.1 dL_setUp_207 (by decide) ?_
          obtain ⟨q25, hq25, hf⟩ := bd_e hf
          refine x_backp (pc := 208) hw (x_runV (pc := 208) (As := [.int 4]) (rest := []) C0 hK hw hl.1 ⟨Nat.zero_le _, Nat.zero_le _⟩ (kX6_count l D y ad hI 4 e12.2.2 hq25) (by decide) ly_M rfl rfl wc_X6_count wm_L_37 wi_X6_count ws_X6_count wn_X6 ⟨rfl, rfl⟩ hd_X6_count rfl ⟨Nat.le_of_ble_eq_true rfl, Nat.le_of_ble_eq_true rfl⟩ (Nat.le_of_ble_eq_true rfl) dL_setUp_208) (fun H locs hw => ?_)
          refine lv_iload_n (pc := 211) C0.1 C0.2.1 dL_setUp_211 rfl (lv_at hl 6 rfl) ?_
          obtain ⟨j26, hj26, hf⟩ := bd_e hf
          refine X_join (pc := 212) (xpc := 228) (j := j26) (st := []) hw (fun hE0 => ?_) (fun H locs hw => ?_)
          · have hf := hj26
            refine lv_icmp_ne (tgt := 227) (pc := 212) C0.1 C0.2.1 dL_setUp_212 (by decide) (fun hc => ?_) (fun hc => ?_)
            · have hf := if_f hf hc
              refine lv_iconst (v := 0) (pc := 227) C0.1 C0.2.1 dL_setUp_227 (by decide) ?_
              exact X_leaf hE0 (Option.some.inj hf) hw
            · have hf := if_t hf hc
              refine lv_aload_n (pc := 215) C0.1 C0.2.1 dL_setUp_215 rfl (lv_at hl 3 rfl) ?_
              refine lv_iconst (v := 5) (pc := 216) C0.1 C0.2.1 dL_setUp_216 (by decide) ?_
              obtain ⟨q27, hq27, hf⟩ := bd_e hf
              refine x_backp (pc := 217) hw (x_runV (pc := 217) (As := [.int 5]) (rest := []) C0 hK hw hl.1 ⟨Nat.zero_le _, Nat.zero_le _⟩ (kX6_count l D y ad hI 5 e12.2.2 hq27) (by decide) ly_M rfl rfl wc_X6_count wm_L_37 wi_X6_count ws_X6_count wn_X6 ⟨rfl, rfl⟩ hd_X6_count rfl ⟨Nat.le_of_ble_eq_true rfl, Nat.le_of_ble_eq_true rfl⟩ (Nat.le_of_ble_eq_true rfl) dL_setUp_217) (fun H locs hw => ?_)
              obtain ⟨j28, hj28, hf⟩ := bd_e hf
              refine X_join (pc := 220) (xpc := 228) (j := j28) (st := []) hw (fun hE0 => ?_) (fun H locs hw => ?_)
              · have hf := hj28
                refine lv_if_ne (tgt := 227) (pc := 220) C0.1 C0.2.1 dL_setUp_220 (by decide) (fun hc => ?_) (fun hc => ?_)
                · have hf := if_f hf hc
                  refine lv_iconst (v := 0) (pc := 227) C0.1 C0.2.1 dL_setUp_227 (by decide) ?_
                  exact X_leaf hE0 (Option.some.inj hf) hw
                · have hf := if_t hf hc
                  refine lv_iconst (v := 1) (pc := 223) C0.1 C0.2.1 dL_setUp_223 (by decide) ?_
                  refine lv_goto (tgt := 228) (pc := 224) C0.1 C0.2.1 dL_setUp_224 (by decide) ?_
                  exact X_leaf hE0 (Option.some.inj hf) hw
              · skip
                exact X_leaf hE0 (Option.some.inj hf) hw
          · skip
            exact X_leaf hE0 (Option.some.inj hf) hw
      · skip
        obtain ⟨hz, hf⟩ := gd_e hf
        exact x_zret (pc := 228) C0 hK hk hr hw hz (Option.some.inj hf) dL_setUp_228
