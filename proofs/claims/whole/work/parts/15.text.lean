def wX4_append : List Cond := .code yX4_append cX4_append 2 none :: lwT
def rX4_append : Room := { frames := 0, cells := 0, slots := 0, locals := 0 }
set_option maxRecDepth 100000 in
set_option maxHeartbeats 4000000 in
theorem kX4_append (l : Launch) (D : va_G) (y : Nat → ClassId) (ad : Nat → Nat) (hI : XI ad 168) (v1 : Int32) (u : S) {o : S} (hf : fX4_append v1 u = some o) : Met l yX4_append wX4_append rX4_append (va_Pc [.ref (ad 160), .int v1] (XW D y ad LX 168 u)) (XQv D y ad LX 168 o) 0 0 (XA ad 168) := by
  refine x_met (bytes := cX4_append) (maxL := 2) (ret := none) (own := RX4) (by decide) rfl rfl (Nat.le_of_ble_eq_true rfl) (fun p e s m below meth c ls C0 hK hk hr hw hl => ?_)
  have hl : lv_has ls 2 [(0, .ref (ad 160)), (1, .int v1)] := hl
  unfold fX4_append at hf
  refine lv_aload_n (pc := 0) C0.1 C0.2.1 dX4_append_0 rfl (lv_at hl 0 rfl) ?_
  refine x_get (pc := 1) (v := .int (u.1 160 0)) C0 hK hw (by decide) ly_X rfl inX4 0 (by decide) wf_X4_26 rfl rfl dX4_append_1 ?_
  refine lv_bipush (v := 100) (pc := 4) C0.1 C0.2.1 dX4_append_4 (by decide) ?_
  refine lv_icmp_ge (tgt := 29) (pc := 6) C0.1 C0.2.1 dX4_append_6 (by decide) (fun hc => ?_) (fun hc => ?_)
  · have hf := if_t hf hc
    exact x_vret (pc := 29) C0 hK hk hr hw (Option.some.inj hf) dX4_append_29
  · have hf := if_f hf hc
    refine lv_aload_n (pc := 9) C0.1 C0.2.1 dX4_append_9 rfl (lv_at hl 0 rfl) ?_
    refine x_get (pc := 10) (v := .ref (ad 161)) C0 hK hw (by decide) ly_X rfl inX4 3 (by decide) wf_X4_22 rfl rfl dX4_append_10 ?_
    refine lv_aload_n (pc := 13) C0.1 C0.2.1 dX4_append_13 rfl (lv_at hl 0 rfl) ?_
    refine x_get (pc := 14) (v := .int (u.1 160 0)) C0 hK hw (by decide) ly_X rfl inX4 0 (by decide) wf_X4_26 rfl rfl dX4_append_14 ?_
    refine lv_iload_n (pc := 17) C0.1 C0.2.1 dX4_append_17 rfl (lv_at hl 1 rfl) ?_
    obtain ⟨hi, hf⟩ := gd_e hf
    obtain ⟨u1, hu, hf⟩ := nm_f hf
    refine x_cast (pc := 18) hI C0 hK hw (by decide) ly_Y hi hu dX4_append_18 (fun H locs hw => ?_)
    refine lv_aload_n (pc := 19) C0.1 C0.2.1 dX4_append_19 rfl (lv_at hl 0 rfl) ?_
    refine lv_dup (pc := 20) C0.1 C0.2.1 dX4_append_20 rfl ?_
    refine x_get (pc := 21) (v := .int (u1.1 160 0)) C0 hK hw (by decide) ly_X rfl inX4 0 (by decide) wf_X4_26 rfl rfl dX4_append_21 ?_
    refine lv_iconst (v := 1) (pc := 24) C0.1 C0.2.1 dX4_append_24 (by decide) ?_
    refine lv_iadd (pc := 25) C0.1 C0.2.1 dX4_append_25 ?_
    obtain ⟨u2, hu, hf⟩ := nm_f hf
    refine x_put (pc := 26) hI C0 hK hw (by decide) ly_X rfl inX4 tyX4_ok nmX4 0 (by decide) wf_X4_26 rfl rfl rfl hu rfl rfl dX4_append_26 (fun H locs hw => ?_)
    exact x_vret (pc := 29) C0 hK hk hr hw (Option.some.inj hf) dX4_append_29
def wX4_next : List Cond := .code yX4_next cX4_next 1 (some .char) :: lwT
def rX4_next : Room := { frames := 0, cells := 0, slots := 0, locals := 0 }
set_option maxRecDepth 100000 in
set_option maxHeartbeats 4000000 in
theorem kX4_next (l : Launch) (D : va_G) (y : Nat → ClassId) (ad : Nat → Nat) (hI : XI ad 168)  (u : S) {o : Int32} (hf : fX4_next  u = some o) : Met l yX4_next wX4_next rX4_next (va_Pc [.ref (ad 160)] (XW D y ad LX 168 u)) (XQi D y ad LX 168 (o, u)) 0 0 (XA ad 168) := by
  refine x_met (bytes := cX4_next) (maxL := 1) (ret := (some .char)) (own := RX4) (by decide) rfl rfl (Nat.le_of_ble_eq_true rfl) (fun p e s m below meth c ls C0 hK hk hr hw hl => ?_)
  have hl : lv_has ls 1 [(0, .ref (ad 160))] := hl
  unfold fX4_next at hf
  refine lv_aload_n (pc := 0) C0.1 C0.2.1 dX4_next_0 rfl (lv_at hl 0 rfl) ?_
  refine x_get (pc := 1) (v := .int (u.1 160 4)) C0 hK hw (by decide) ly_X rfl inX4 4 (by decide) wf_X4_29 rfl rfl dX4_next_1 ?_
  refine lv_aload_n (pc := 4) C0.1 C0.2.1 dX4_next_4 rfl (lv_at hl 0 rfl) ?_
  refine x_get (pc := 5) (v := .int (u.1 160 0)) C0 hK hw (by decide) ly_X rfl inX4 0 (by decide) wf_X4_26 rfl rfl dX4_next_5 ?_
  refine lv_icmp_ge (tgt := 32) (pc := 8) C0.1 C0.2.1 dX4_next_8 (by decide) (fun hc => ?_) (fun hc => ?_)
  · have hf := if_t hf hc
    refine lv_iconst (v := 0) (pc := 32) C0.1 C0.2.1 dX4_next_32 (by decide) ?_
    obtain ⟨hz, hf⟩ := gd_e hf
    exact x_cret (pc := 33) C0 hK hk hr hw hz (congrArg (fun z => (z, u)) (Option.some.inj hf)) dX4_next_33
  · have hf := if_f hf hc
    refine lv_aload_n (pc := 11) C0.1 C0.2.1 dX4_next_11 rfl (lv_at hl 0 rfl) ?_
    refine x_get (pc := 12) (v := .int (u.1 160 4)) C0 hK hw (by decide) ly_X rfl inX4 4 (by decide) wf_X4_29 rfl rfl dX4_next_12 ?_
    refine lv_bipush (v := 100) (pc := 15) C0.1 C0.2.1 dX4_next_15 (by decide) ?_
    refine lv_icmp_ge (tgt := 32) (pc := 17) C0.1 C0.2.1 dX4_next_17 (by decide) (fun hc => ?_) (fun hc => ?_)
    · have hf := if_t hf hc
      refine lv_iconst (v := 0) (pc := 32) C0.1 C0.2.1 dX4_next_32 (by decide) ?_
      obtain ⟨hz, hf⟩ := gd_e hf
      exact x_cret (pc := 33) C0 hK hk hr hw hz (congrArg (fun z => (z, u)) (Option.some.inj hf)) dX4_next_33
    · have hf := if_f hf hc
      refine lv_aload_n (pc := 20) C0.1 C0.2.1 dX4_next_20 rfl (lv_at hl 0 rfl) ?_
      refine x_get (pc := 21) (v := .ref (ad 161)) C0 hK hw (by decide) ly_X rfl inX4 3 (by decide) wf_X4_22 rfl rfl dX4_next_21 ?_
      refine lv_aload_n (pc := 24) C0.1 C0.2.1 dX4_next_24 rfl (lv_at hl 0 rfl) ?_
      refine x_get (pc := 25) (v := .int (u.1 160 4)) C0 hK hw (by decide) ly_X rfl inX4 4 (by decide) wf_X4_29 rfl rfl dX4_next_25 ?_
      obtain ⟨hi, hf⟩ := gd_e hf
      refine x_cald (pc := 28) C0 hK hw (by decide) ly_Y hi dX4_next_28 ?_
      refine lv_goto (tgt := 33) (pc := 29) C0.1 C0.2.1 dX4_next_29 (by decide) ?_
      obtain ⟨hz, hf⟩ := gd_e hf
      exact x_cret (pc := 33) C0 hK hk hr hw hz (congrArg (fun z => (z, u)) (Option.some.inj hf)) dX4_next_33
def wX4_isDigit : List Cond := .code yX4_isDigit cX4_isDigit 1 (some .boolean) :: lwT
def rX4_isDigit : Room := { frames := 0, cells := 0, slots := 0, locals := 0 }
set_option maxRecDepth 100000 in
set_option maxHeartbeats 4000000 in
theorem kX4_isDigit (l : Launch) (D : va_G) (y : Nat → ClassId) (ad : Nat → Nat) (hI : XI ad 168) (v0 : Int32) (u : S) {o : Int32} (hf : fX4_isDigit v0 u = some o) : Met l yX4_isDigit wX4_isDigit rX4_isDigit (va_Pc [.int v0] (XW D y ad LX 168 u)) (XQi D y ad LX 168 (o, u)) 0 0 (XA ad 168) := by
  refine x_met (bytes := cX4_isDigit) (maxL := 1) (ret := (some .boolean)) (own := RX4) (by decide) rfl rfl (Nat.le_of_ble_eq_true rfl) (fun p e s m below meth c ls C0 hK hk hr hw hl => ?_)
  have hl : lv_has ls 1 [(0, .int v0)] := hl
  unfold fX4_isDigit at hf
  refine lv_iload_n (pc := 0) C0.1 C0.2.1 dX4_isDigit_0 rfl (lv_at hl 0 rfl) ?_
  refine lv_bipush (v := 48) (pc := 1) C0.1 C0.2.1 dX4_isDigit_1 (by decide) ?_
  refine lv_icmp_lt (tgt := 16) (pc := 3) C0.1 C0.2.1 dX4_isDigit_3 (by decide) (fun hc => ?_) (fun hc => ?_)
  · have hf := if_t hf hc
    refine lv_iconst (v := 0) (pc := 16) C0.1 C0.2.1 dX4_isDigit_16 (by decide) ?_
    exact x_zret (pc := 17) C0 hK hk hr hw rfl (congrArg (fun z => (z, u)) (Option.some.inj hf)) dX4_isDigit_17
  · have hf := if_f hf hc
    refine lv_iload_n (pc := 6) C0.1 C0.2.1 dX4_isDigit_6 rfl (lv_at hl 0 rfl) ?_
    refine lv_bipush (v := 57) (pc := 7) C0.1 C0.2.1 dX4_isDigit_7 (by decide) ?_
    refine lv_icmp_gt (tgt := 16) (pc := 9) C0.1 C0.2.1 dX4_isDigit_9 (by decide) (fun hc => ?_) (fun hc => ?_)
    · have hf := if_t hf hc
      refine lv_iconst (v := 0) (pc := 16) C0.1 C0.2.1 dX4_isDigit_16 (by decide) ?_
      exact x_zret (pc := 17) C0 hK hk hr hw rfl (congrArg (fun z => (z, u)) (Option.some.inj hf)) dX4_isDigit_17
    · have hf := if_f hf hc
      refine lv_iconst (v := 1) (pc := 12) C0.1 C0.2.1 dX4_isDigit_12 (by decide) ?_
      refine lv_goto (tgt := 17) (pc := 13) C0.1 C0.2.1 dX4_isDigit_13 (by decide) ?_
      exact x_zret (pc := 17) C0 hK hk hr hw rfl (congrArg (fun z => (z, u)) (Option.some.inj hf)) dX4_isDigit_17
def wX4_fail : List Cond := .code yX4_fail cX4_fail 3 (some .boolean) :: lwT
def rX4_fail : Room := { frames := 0, cells := 0, slots := 0, locals := 0 }
set_option maxRecDepth 100000 in
set_option maxHeartbeats 4000000 in
theorem kX4_fail (l : Launch) (D : va_G) (y : Nat → ClassId) (ad : Nat → Nat) (hI : XI ad 168) (v1 : Int32) (v2 : Int32) (u : S) {o : Int32 × S} (hf : fX4_fail v1 v2 u = some o) : Met l yX4_fail wX4_fail rX4_fail (va_Pc [.ref (ad 160), .int v1, .int v2] (XW D y ad LX 168 u)) (XQi D y ad LX 168 o) 0 0 (XA ad 168) := by
  refine x_met (bytes := cX4_fail) (maxL := 3) (ret := (some .boolean)) (own := RX4) (by decide) rfl rfl (Nat.le_of_ble_eq_true rfl) (fun p e s m below meth c ls C0 hK hk hr hw hl => ?_)
  have hl : lv_has ls 3 [(0, .ref (ad 160)), (1, .int v1), (2, .int v2)] := hl
  unfold fX4_fail at hf
  refine lv_aload_n (pc := 0) C0.1 C0.2.1 dX4_fail_0 rfl (lv_at hl 0 rfl) ?_
  refine lv_iload_n (pc := 1) C0.1 C0.2.1 dX4_fail_1 rfl (lv_at hl 1 rfl) ?_
  obtain ⟨u1, hu, hf⟩ := nm_f hf
  refine x_put (pc := 2) hI C0 hK hw (by decide) ly_X rfl inX4 tyX4_ok nmX4 1 (by decide) wf_X4_9 rfl rfl rfl hu rfl rfl dX4_fail_2 (fun H locs hw => ?_)
  refine lv_aload_n (pc := 5) C0.1 C0.2.1 dX4_fail_5 rfl (lv_at hl 0 rfl) ?_
  refine lv_iload_n (pc := 6) C0.1 C0.2.1 dX4_fail_6 rfl (lv_at hl 2 rfl) ?_
  obtain ⟨u2, hu, hf⟩ := nm_f hf
  refine x_put (pc := 7) hI C0 hK hw (by decide) ly_X rfl inX4 tyX4_ok nmX4 4 (by decide) wf_X4_29 rfl rfl rfl hu rfl rfl dX4_fail_7 (fun H locs hw => ?_)
  refine lv_iconst (v := 0) (pc := 10) C0.1 C0.2.1 dX4_fail_10 (by decide) ?_
  exact x_zret (pc := 11) C0 hK hk hr hw rfl (Option.some.inj hf) dX4_fail_11
def wX4_readNumber : List Cond := .code yX4_readNumber cX4_readNumber 3 (some .boolean) :: lwT
def rX4_readNumber : Room := { frames := 1, cells := 0, slots := 0, locals := 22 }
set_option maxRecDepth 100000 in
set_option maxHeartbeats 4000000 in
theorem kX4_readNumber (l : Launch) (D : va_G) (y : Nat → ClassId) (ad : Nat → Nat) (hI : XI ad 168) (v1 : Int32) (u : S) {o : Int32 × S} (hf : fX4_readNumber v1 u = some o) : Met l yX4_readNumber wX4_readNumber rX4_readNumber (va_Pc [.ref (ad 160), .int v1] (XW D y ad LX 168 u)) (XQi D y ad LX 168 o) 0 0 (XA ad 168) := by
  refine x_met (bytes := cX4_readNumber) (maxL := 3) (ret := (some .boolean)) (own := RX4) (by decide) rfl rfl (Nat.le_of_ble_eq_true rfl) (fun p e s m below meth c ls C0 hK hk hr hw hl => ?_)
  have hl : lv_has ls 3 [(0, .ref (ad 160)), (1, .int v1)] := hl
  unfold fX4_readNumber at hf
  refine lv_aload_n (pc := 0) C0.1 C0.2.1 dX4_readNumber_0 rfl (lv_at hl 0 rfl) ?_
  refine x_get (pc := 1) (v := .int (u.1 160 4)) C0 hK hw (by decide) ly_X rfl inX4 4 (by decide) wf_X4_29 rfl rfl dX4_readNumber_1 ?_
  refine lv_istore_n (pc := 4) (lv' := [(2, .int (u.1 160 4)), (0, .ref (ad 160)), (1, .int v1)]) C0.1 C0.2.1 dX4_readNumber_4 rfl hl (by decide) rfl (fun ls hl => ?_)
  refine lv_aload_n (pc := 5) C0.1 C0.2.1 dX4_readNumber_5 rfl (lv_at hl 1 rfl) ?_
  refine lv_iconst (v := 0) (pc := 6) C0.1 C0.2.1 dX4_readNumber_6 (by decide) ?_
  obtain ⟨u1, hu, hf⟩ := nm_f hf
  refine x_put (pc := 7) hI C0 hK hw (by decide) ly_X rfl inX4 tyX4_ok nmX4 5 (by decide) wf_X4_55 rfl rfl rfl hu rfl rfl dX4_readNumber_7 (fun H locs hw => ?_)
  obtain ⟨e2, he2, hf⟩ := bd_e hf
  refine X_loop (pc := 10) (xpc := 62) (fu := fun a1 => a1) (fl := fun a1 => [(2, .int (u.1 160 4)), (0, .ref (ad 160)), (1, .int v1)]) (fun a1 r hf hE hG H locs ls hw hl => ?_) he2 (fun H locs ls hw hl => ?_) hw hl
  · unfold gX4_readNumber_10 at hf
    refine lv_aload_n (pc := 10) C0.1 C0.2.1 dX4_readNumber_10 rfl (lv_at hl 1 rfl) ?_
    refine x_get (pc := 11) (v := .int (a1.1 160 4)) C0 hK hw (by decide) ly_X rfl inX4 4 (by decide) wf_X4_29 rfl rfl dX4_readNumber_11 ?_
    refine lv_iload_n (pc := 14) C0.1 C0.2.1 dX4_readNumber_14 rfl (lv_at hl 0 rfl) ?_
    refine lv_iconst (v := 2) (pc := 15) C0.1 C0.2.1 dX4_readNumber_15 (by decide) ?_
    refine lv_iadd (pc := 16) C0.1 C0.2.1 dX4_readNumber_16 ?_
    refine lv_icmp_ge (tgt := 62) (pc := 17) C0.1 C0.2.1 dX4_readNumber_17 (by decide) (fun hc => ?_) (fun hc => ?_)
    · have hf := if_t hf hc
      exact hE _ (Option.some.inj hf).symm H locs ls hw (lv_sub hl [0, 1, 2] rfl)
    · have hf := if_f hf hc
      refine lv_aload_n (pc := 20) C0.1 C0.2.1 dX4_readNumber_20 rfl (lv_at hl 1 rfl) ?_
      obtain ⟨q3, hq3, hf⟩ := bd_e hf
      refine x_backp (pc := 21) hw (x_runV (pc := 21) (As := []) (rest := []) C0 hK hw hl.1 ⟨Nat.zero_le _, Nat.zero_le _⟩ (kX4_next l D y ad hI  a1 hq3) (by decide) ly_X rfl rfl wc_X4_next wm_X4_39 wi_X4_next ws_X4_next wn_X4 ⟨rfl, rfl⟩ hd_X4_next rfl ⟨Nat.le_of_ble_eq_true rfl, Nat.le_of_ble_eq_true rfl⟩ (Nat.le_of_ble_eq_true rfl) dX4_readNumber_21) (fun H locs hw => ?_)
      obtain ⟨q4, hq4, hf⟩ := bd_e hf
      refine x_backp (pc := 24) hw (x_runS (pc := 24) (As := [.int q3]) (rest := []) C0 hK hw hl.1 ⟨Nat.zero_le _, Nat.zero_le _⟩ (kX4_isDigit l D y ad hI q3 a1 hq4) rfl wc_X4_isDigit wm_X4_43 wt_X4_isDigit wn_X4 ⟨rfl, rfl⟩ hd_X4_isDigit rfl ⟨Nat.le_of_ble_eq_true rfl, Nat.le_of_ble_eq_true rfl⟩ (Nat.le_of_ble_eq_true rfl) dX4_readNumber_24) (fun H locs hw => ?_)
      refine lv_if_eq (tgt := 62) (pc := 27) C0.1 C0.2.1 dX4_readNumber_27 (by decide) (fun hc => ?_) (fun hc => ?_)
      · have hf := if_t hf hc
        exact hE _ (Option.some.inj hf).symm H locs ls hw (lv_sub hl [0, 1, 2] rfl)
      · have hf := if_f hf hc
        refine lv_aload_n (pc := 30) C0.1 C0.2.1 dX4_readNumber_30 rfl (lv_at hl 1 rfl) ?_
        refine lv_bipush (v := 10) (pc := 31) C0.1 C0.2.1 dX4_readNumber_31 (by decide) ?_
        refine lv_aload_n (pc := 33) C0.1 C0.2.1 dX4_readNumber_33 rfl (lv_at hl 1 rfl) ?_
        refine x_get (pc := 34) (v := .int (a1.1 160 5)) C0 hK hw (by decide) ly_X rfl inX4 5 (by decide) wf_X4_55 rfl rfl dX4_readNumber_34 ?_
        refine lv_imul (pc := 37) C0.1 C0.2.1 dX4_readNumber_37 ?_
        refine lv_aload_n (pc := 38) C0.1 C0.2.1 dX4_readNumber_38 rfl (lv_at hl 1 rfl) ?_
        obtain ⟨q5, hq5, hf⟩ := bd_e hf
        refine x_backp (pc := 39) hw (x_runV (pc := 39) (As := []) (rest := [.int (10 * (a1.1 160 5)), .ref (ad 160)]) C0 hK hw hl.1 ⟨Nat.zero_le _, Nat.zero_le _⟩ (kX4_next l D y ad hI  a1 hq5) (by decide) ly_X rfl rfl wc_X4_next wm_X4_39 wi_X4_next ws_X4_next wn_X4 ⟨rfl, rfl⟩ hd_X4_next rfl ⟨Nat.le_of_ble_eq_true rfl, Nat.le_of_ble_eq_true rfl⟩ (Nat.le_of_ble_eq_true rfl) dX4_readNumber_39) (fun H locs hw => ?_)
        refine lv_iadd (pc := 42) C0.1 C0.2.1 dX4_readNumber_42 ?_
        refine lv_bipush (v := 48) (pc := 43) C0.1 C0.2.1 dX4_readNumber_43 (by decide) ?_
        refine lv_isub (pc := 45) C0.1 C0.2.1 dX4_readNumber_45 ?_
        obtain ⟨u6, hu, hf⟩ := nm_f hf
        refine x_put (pc := 46) hI C0 hK hw (by decide) ly_X rfl inX4 tyX4_ok nmX4 5 (by decide) wf_X4_55 rfl rfl rfl hu rfl rfl dX4_readNumber_46 (fun H locs hw => ?_)
        refine lv_aload_n (pc := 49) C0.1 C0.2.1 dX4_readNumber_49 rfl (lv_at hl 1 rfl) ?_
        refine lv_dup (pc := 50) C0.1 C0.2.1 dX4_readNumber_50 rfl ?_
        refine x_get (pc := 51) (v := .int (u6.1 160 4)) C0 hK hw (by decide) ly_X rfl inX4 4 (by decide) wf_X4_29 rfl rfl dX4_readNumber_51 ?_
        refine lv_iconst (v := 1) (pc := 54) C0.1 C0.2.1 dX4_readNumber_54 (by decide) ?_
        refine lv_iadd (pc := 55) C0.1 C0.2.1 dX4_readNumber_55 ?_
        obtain ⟨u7, hu, hf⟩ := nm_f hf
        refine x_put (pc := 56) hI C0 hK hw (by decide) ly_X rfl inX4 tyX4_ok nmX4 4 (by decide) wf_X4_29 rfl rfl rfl hu rfl rfl dX4_readNumber_56 (fun H locs hw => ?_)
        refine lv_goto (tgt := 10) (pc := 59) C0.1 C0.2.1 dX4_readNumber_59 (by decide) ?_
        exact hG _ (Option.some.inj hf).symm H locs ls hw (lv_sub hl [0, 1, 2] rfl)
  · skip
    refine lv_aload_n (pc := 62) C0.1 C0.2.1 dX4_readNumber_62 rfl (lv_at hl 1 rfl) ?_
    refine x_get (pc := 63) (v := .int (e2.1 160 4)) C0 hK hw (by decide) ly_X rfl inX4 4 (by decide) wf_X4_29 rfl rfl dX4_readNumber_63 ?_
    refine lv_iload_n (pc := 66) C0.1 C0.2.1 dX4_readNumber_66 rfl (lv_at hl 0 rfl) ?_
    refine lv_icmp_eq (tgt := 80) (pc := 67) C0.1 C0.2.1 dX4_readNumber_67 (by decide) (fun hc => ?_) (fun hc => ?_)
    · have hf := if_t hf hc
      refine lv_aload_n (pc := 80) C0.1 C0.2.1 dX4_readNumber_80 rfl (lv_at hl 1 rfl) ?_
      refine lv_iconst (v := 1) (pc := 81) C0.1 C0.2.1 dX4_readNumber_81 (by decide) ?_
      refine lv_aload_n (pc := 82) C0.1 C0.2.1 dX4_readNumber_82 rfl (lv_at hl 1 rfl) ?_
      refine x_get (pc := 83) (v := .int (e2.1 160 4)) C0 hK hw (by decide) ly_X rfl inX4 4 (by decide) wf_X4_29 rfl rfl dX4_readNumber_83 ?_
      obtain ⟨q8, hq8, hf⟩ := bd_e hf
      refine x_back (pc := 86) hw (x_runV (pc := 86) (As := [.int 1, .int (e2.1 160 4)]) (rest := []) C0 hK hw hl.1 ⟨Nat.zero_le _, Nat.zero_le _⟩ (kX4_fail l D y ad hI 1 (e2.1 160 4) e2 hq8) (by decide) ly_X rfl rfl wc_X4_fail wm_X4_47 wi_X4_fail ws_X4_fail wn_X4 ⟨rfl, rfl⟩ hd_X4_fail rfl ⟨Nat.le_of_ble_eq_true rfl, Nat.le_of_ble_eq_true rfl⟩ (Nat.le_of_ble_eq_true rfl) dX4_readNumber_86) (fun H locs hw => ?_)
      obtain ⟨hz, hf⟩ := gd_e hf
      exact x_zret (pc := 89) C0 hK hk hr hw hz (Option.some.inj hf) dX4_readNumber_89
    · have hf := if_f hf hc
      refine lv_aload_n (pc := 70) C0.1 C0.2.1 dX4_readNumber_70 rfl (lv_at hl 1 rfl) ?_
      obtain ⟨q9, hq9, hf⟩ := bd_e hf
      refine x_backp (pc := 71) hw (x_runV (pc := 71) (As := []) (rest := []) C0 hK hw hl.1 ⟨Nat.zero_le _, Nat.zero_le _⟩ (kX4_next l D y ad hI  e2 hq9) (by decide) ly_X rfl rfl wc_X4_next wm_X4_39 wi_X4_next ws_X4_next wn_X4 ⟨rfl, rfl⟩ hd_X4_next rfl ⟨Nat.le_of_ble_eq_true rfl, Nat.le_of_ble_eq_true rfl⟩ (Nat.le_of_ble_eq_true rfl) dX4_readNumber_71) (fun H locs hw => ?_)
      obtain ⟨q10, hq10, hf⟩ := bd_e hf
      refine x_backp (pc := 74) hw (x_runS (pc := 74) (As := [.int q9]) (rest := []) C0 hK hw hl.1 ⟨Nat.zero_le _, Nat.zero_le _⟩ (kX4_isDigit l D y ad hI q9 e2 hq10) rfl wc_X4_isDigit wm_X4_43 wt_X4_isDigit wn_X4 ⟨rfl, rfl⟩ hd_X4_isDigit rfl ⟨Nat.le_of_ble_eq_true rfl, Nat.le_of_ble_eq_true rfl⟩ (Nat.le_of_ble_eq_true rfl) dX4_readNumber_74) (fun H locs hw => ?_)
      refine lv_if_eq (tgt := 90) (pc := 77) C0.1 C0.2.1 dX4_readNumber_77 (by decide) (fun hc => ?_) (fun hc => ?_)
      · have hf := if_t hf hc
        refine lv_aload_n (pc := 90) C0.1 C0.2.1 dX4_readNumber_90 rfl (lv_at hl 1 rfl) ?_
        refine x_get (pc := 91) (v := .int (e2.1 160 5)) C0 hK hw (by decide) ly_X rfl inX4 5 (by decide) wf_X4_55 rfl rfl dX4_readNumber_91 ?_
        refine lv_iconst (v := 1) (pc := 94) C0.1 C0.2.1 dX4_readNumber_94 (by decide) ?_
        refine lv_iload_n (pc := 95) C0.1 C0.2.1 dX4_readNumber_95 rfl (lv_at hl 2 rfl) ?_
        obtain ⟨q11, hq11, hf⟩ := bd_e hf
        refine x_backp (pc := 96) hw (x_runSN (pc := 96) (As := [.int (e2.1 160 5), .int 1, .int v1]) (rest := []) C0 hK hw hl.1 ⟨Nat.zero_le _, Nat.zero_le _⟩ (kX6_isWithin l D y ad hI (e2.1 160 5) 1 v1 e2 hq11) rfl wc_X6_isWithin wt_X6_isWithin wn_X6 ⟨rfl, rfl⟩ rfl ⟨Nat.le_of_ble_eq_true rfl, Nat.le_of_ble_eq_true rfl⟩ (Nat.le_of_ble_eq_true rfl) dX4_readNumber_96) (fun H locs hw => ?_)
        refine lv_if_ne (tgt := 111) (pc := 99) C0.1 C0.2.1 dX4_readNumber_99 (by decide) (fun hc => ?_) (fun hc => ?_)
        · have hf := if_f hf hc
          refine lv_iconst (v := 1) (pc := 111) C0.1 C0.2.1 dX4_readNumber_111 (by decide) ?_
          refine lv_goto (tgt := 116) (pc := 112) C0.1 C0.2.1 dX4_readNumber_112 (by decide) ?_
          exact x_zret (pc := 116) C0 hK hk hr hw rfl (Option.some.inj hf) dX4_readNumber_116
        · have hf := if_t hf hc
          refine lv_aload_n (pc := 102) C0.1 C0.2.1 dX4_readNumber_102 rfl (lv_at hl 1 rfl) ?_
          refine lv_iconst (v := 2) (pc := 103) C0.1 C0.2.1 dX4_readNumber_103 (by decide) ?_
          refine lv_iload_n (pc := 104) C0.1 C0.2.1 dX4_readNumber_104 rfl (lv_at hl 0 rfl) ?_
          obtain ⟨q12, hq12, hf⟩ := bd_e hf
          refine x_back (pc := 105) hw (x_runV (pc := 105) (As := [.int 2, .int (u.1 160 4)]) (rest := []) C0 hK hw hl.1 ⟨Nat.zero_le _, Nat.zero_le _⟩ (kX4_fail l D y ad hI 2 (u.1 160 4) e2 hq12) (by decide) ly_X rfl rfl wc_X4_fail wm_X4_47 wi_X4_fail ws_X4_fail wn_X4 ⟨rfl, rfl⟩ hd_X4_fail rfl ⟨Nat.le_of_ble_eq_true rfl, Nat.le_of_ble_eq_true rfl⟩ (Nat.le_of_ble_eq_true rfl) dX4_readNumber_105) (fun H locs hw => ?_)
          refine lv_if_eq (tgt := 115) (pc := 108) C0.1 C0.2.1 dX4_readNumber_108 (by decide) (fun hc => ?_) (fun hc => ?_)
          · have hf := if_t hf hc
            refine lv_iconst (v := 0) (pc := 115) C0.1 C0.2.1 dX4_readNumber_115 (by decide) ?_
            exact x_zret (pc := 116) C0 hK hk hr hw rfl (Option.some.inj hf) dX4_readNumber_116
          · have hf := if_f hf hc
            refine lv_iconst (v := 1) (pc := 111) C0.1 C0.2.1 dX4_readNumber_111 (by decide) ?_
            refine lv_goto (tgt := 116) (pc := 112) C0.1 C0.2.1 dX4_readNumber_112 (by decide) ?_
            exact x_zret (pc := 116) C0 hK hk hr hw rfl (Option.some.inj hf) dX4_readNumber_116
      · have hf := if_f hf hc
        refine lv_aload_n (pc := 80) C0.1 C0.2.1 dX4_readNumber_80 rfl (lv_at hl 1 rfl) ?_
        refine lv_iconst (v := 1) (pc := 81) C0.1 C0.2.1 dX4_readNumber_81 (by decide) ?_
        refine lv_aload_n (pc := 82) C0.1 C0.2.1 dX4_readNumber_82 rfl (lv_at hl 1 rfl) ?_
        refine x_get (pc := 83) (v := .int (e2.1 160 4)) C0 hK hw (by decide) ly_X rfl inX4 4 (by decide) wf_X4_29 rfl rfl dX4_readNumber_83 ?_
        obtain ⟨q13, hq13, hf⟩ := bd_e hf
        refine x_back (pc := 86) hw (x_runV (pc := 86) (As := [.int 1, .int (e2.1 160 4)]) (rest := []) C0 hK hw hl.1 ⟨Nat.zero_le _, Nat.zero_le _⟩ (kX4_fail l D y ad hI 1 (e2.1 160 4) e2 hq13) (by decide) ly_X rfl rfl wc_X4_fail wm_X4_47 wi_X4_fail ws_X4_fail wn_X4 ⟨rfl, rfl⟩ hd_X4_fail rfl ⟨Nat.le_of_ble_eq_true rfl, Nat.le_of_ble_eq_true rfl⟩ (Nat.le_of_ble_eq_true rfl) dX4_readNumber_86) (fun H locs hw => ?_)
        obtain ⟨hz, hf⟩ := gd_e hf
        exact x_zret (pc := 89) C0 hK hk hr hw hz (Option.some.inj hf) dX4_readNumber_89
def wX4_readSign : List Cond := .code yX4_readSign cX4_readSign 2 (some .boolean) :: lwT
def rX4_readSign : Room := { frames := 1, cells := 0, slots := 0, locals := 22 }
set_option maxRecDepth 100000 in
set_option maxHeartbeats 4000000 in
theorem kX4_readSign (l : Launch) (D : va_G) (y : Nat → ClassId) (ad : Nat → Nat) (hI : XI ad 168) (v1 : Int32) (u : S) {o : Int32 × S} (hf : fX4_readSign v1 u = some o) : Met l yX4_readSign wX4_readSign rX4_readSign (va_Pc [.ref (ad 160), .int v1] (XW D y ad LX 168 u)) (XQi D y ad LX 168 o) 0 0 (XA ad 168) := by
  refine x_met (bytes := cX4_readSign) (maxL := 2) (ret := (some .boolean)) (own := RX4) (by decide) rfl rfl (Nat.le_of_ble_eq_true rfl) (fun p e s m below meth c ls C0 hK hk hr hw hl => ?_)
  have hl : lv_has ls 2 [(0, .ref (ad 160)), (1, .int v1)] := hl
  unfold fX4_readSign at hf
  refine lv_aload_n (pc := 0) C0.1 C0.2.1 dX4_readSign_0 rfl (lv_at hl 0 rfl) ?_
  obtain ⟨q1, hq1, hf⟩ := bd_e hf
  refine x_backp (pc := 1) hw (x_runV (pc := 1) (As := []) (rest := []) C0 hK hw hl.1 ⟨Nat.zero_le _, Nat.zero_le _⟩ (kX4_next l D y ad hI  u hq1) (by decide) ly_X rfl rfl wc_X4_next wm_X4_39 wi_X4_next ws_X4_next wn_X4 ⟨rfl, rfl⟩ hd_X4_next rfl ⟨Nat.le_of_ble_eq_true rfl, Nat.le_of_ble_eq_true rfl⟩ (Nat.le_of_ble_eq_true rfl) dX4_readSign_1) (fun H locs hw => ?_)
  refine lv_iload_n (pc := 4) C0.1 C0.2.1 dX4_readSign_4 rfl (lv_at hl 1 rfl) ?_
  refine lv_icmp_eq (tgt := 18) (pc := 5) C0.1 C0.2.1 dX4_readSign_5 (by decide) (fun hc => ?_) (fun hc => ?_)
  · have hf := if_t hf hc
    refine lv_aload_n (pc := 18) C0.1 C0.2.1 dX4_readSign_18 rfl (lv_at hl 0 rfl) ?_
    refine lv_dup (pc := 19) C0.1 C0.2.1 dX4_readSign_19 rfl ?_
    refine x_get (pc := 20) (v := .int (u.1 160 4)) C0 hK hw (by decide) ly_X rfl inX4 4 (by decide) wf_X4_29 rfl rfl dX4_readSign_20 ?_
    refine lv_iconst (v := 1) (pc := 23) C0.1 C0.2.1 dX4_readSign_23 (by decide) ?_
    refine lv_iadd (pc := 24) C0.1 C0.2.1 dX4_readSign_24 ?_
    obtain ⟨u2, hu, hf⟩ := nm_f hf
    refine x_put (pc := 25) hI C0 hK hw (by decide) ly_X rfl inX4 tyX4_ok nmX4 4 (by decide) wf_X4_29 rfl rfl rfl hu rfl rfl dX4_readSign_25 (fun H locs hw => ?_)
    refine lv_iconst (v := 1) (pc := 28) C0.1 C0.2.1 dX4_readSign_28 (by decide) ?_
    exact x_zret (pc := 29) C0 hK hk hr hw rfl (Option.some.inj hf) dX4_readSign_29
  · have hf := if_f hf hc
    refine lv_aload_n (pc := 8) C0.1 C0.2.1 dX4_readSign_8 rfl (lv_at hl 0 rfl) ?_
    refine lv_iconst (v := 1) (pc := 9) C0.1 C0.2.1 dX4_readSign_9 (by decide) ?_
    refine lv_aload_n (pc := 10) C0.1 C0.2.1 dX4_readSign_10 rfl (lv_at hl 0 rfl) ?_
    refine x_get (pc := 11) (v := .int (u.1 160 4)) C0 hK hw (by decide) ly_X rfl inX4 4 (by decide) wf_X4_29 rfl rfl dX4_readSign_11 ?_
    obtain ⟨q3, hq3, hf⟩ := bd_e hf
    refine x_back (pc := 14) hw (x_runV (pc := 14) (As := [.int 1, .int (u.1 160 4)]) (rest := []) C0 hK hw hl.1 ⟨Nat.zero_le _, Nat.zero_le _⟩ (kX4_fail l D y ad hI 1 (u.1 160 4) u hq3) (by decide) ly_X rfl rfl wc_X4_fail wm_X4_47 wi_X4_fail ws_X4_fail wn_X4 ⟨rfl, rfl⟩ hd_X4_fail rfl ⟨Nat.le_of_ble_eq_true rfl, Nat.le_of_ble_eq_true rfl⟩ (Nat.le_of_ble_eq_true rfl) dX4_readSign_14) (fun H locs hw => ?_)
    obtain ⟨hz, hf⟩ := gd_e hf
    exact x_zret (pc := 17) C0 hK hk hr hw hz (Option.some.inj hf) dX4_readSign_17
def wX4_readLid : List Cond := .code yX4_readLid cX4_readLid 2 (some .boolean) :: lwT
def rX4_readLid : Room := { frames := 1, cells := 0, slots := 0, locals := 20 }
set_option maxRecDepth 100000 in
set_option maxHeartbeats 4000000 in
theorem kX4_readLid (l : Launch) (D : va_G) (y : Nat → ClassId) (ad : Nat → Nat) (hI : XI ad 168) (v1 : Nat) (hv1 : v1 < 132) (u : S) {o : Int32 × S} (hf : fX4_readLid v1 u = some o) : Met l yX4_readLid wX4_readLid rX4_readLid (va_Pc [.ref (ad 160), .ref (ad v1)] (XW D y ad LX 168 u)) (XQi D y ad LX 168 o) 0 0 (XA ad 168) := by
  refine x_met (bytes := cX4_readLid) (maxL := 2) (ret := (some .boolean)) (own := RX4) (by decide) rfl rfl (Nat.le_of_ble_eq_true rfl) (fun p e s m below meth c ls C0 hK hk hr hw hl => ?_)
  have hl : lv_has ls 2 [(0, .ref (ad 160)), (1, .ref (ad v1))] := hl
  unfold fX4_readLid at hf
  refine lv_aload_n (pc := 0) C0.1 C0.2.1 dX4_readLid_0 rfl (lv_at hl 0 rfl) ?_
  obtain ⟨q1, hq1, hf⟩ := bd_e hf
  refine x_backp (pc := 1) hw (x_runV (pc := 1) (As := []) (rest := []) C0 hK hw hl.1 ⟨Nat.zero_le _, Nat.zero_le _⟩ (kX4_next l D y ad hI  u hq1) (by decide) ly_X rfl rfl wc_X4_next wm_X4_39 wi_X4_next ws_X4_next wn_X4 ⟨rfl, rfl⟩ hd_X4_next rfl ⟨Nat.le_of_ble_eq_true rfl, Nat.le_of_ble_eq_true rfl⟩ (Nat.le_of_ble_eq_true rfl) dX4_readLid_1) (fun H locs hw => ?_)
  refine lv_bipush (v := 108) (pc := 4) C0.1 C0.2.1 dX4_readLid_4 (by decide) ?_
  refine lv_icmp_ne (tgt := 24) (pc := 6) C0.1 C0.2.1 dX4_readLid_6 (by decide) (fun hc => ?_) (fun hc => ?_)
  · have hf := if_f hf hc
    refine lv_iconst (v := 1) (pc := 24) C0.1 C0.2.1 dX4_readLid_24 (by decide) ?_
    exact x_zret (pc := 25) C0 hK hk hr hw rfl (Option.some.inj hf) dX4_readLid_25
  · have hf := if_t hf hc
    refine lv_aload_n (pc := 9) C0.1 C0.2.1 dX4_readLid_9 rfl (lv_at hl 0 rfl) ?_
    refine lv_dup (pc := 10) C0.1 C0.2.1 dX4_readLid_10 rfl ?_
    refine x_get (pc := 11) (v := .int (u.1 160 4)) C0 hK hw (by decide) ly_X rfl inX4 4 (by decide) wf_X4_29 rfl rfl dX4_readLid_11 ?_
    refine lv_iconst (v := 1) (pc := 14) C0.1 C0.2.1 dX4_readLid_14 (by decide) ?_
    refine lv_iadd (pc := 15) C0.1 C0.2.1 dX4_readLid_15 ?_
    obtain ⟨u2, hu, hf⟩ := nm_f hf
    refine x_put (pc := 16) hI C0 hK hw (by decide) ly_X rfl inX4 tyX4_ok nmX4 4 (by decide) wf_X4_29 rfl rfl rfl hu rfl rfl dX4_readLid_16 (fun H locs hw => ?_)
    refine lv_aload_n (pc := 19) C0.1 C0.2.1 dX4_readLid_19 rfl (lv_at hl 1 rfl) ?_
    refine lv_iconst (v := 1) (pc := 20) C0.1 C0.2.1 dX4_readLid_20 (by decide) ?_
    obtain ⟨u3, hu, hf⟩ := nm_f hf
    refine x_put (pc := 21) hI C0 hK hw (jy_T hv1) (ly_T hv1) rfl inX5 tyX5_ok nmX5 4 (by decide) wf_X4_82 rfl rfl rfl hu rfl rfl dX4_readLid_21 (fun H locs hw => ?_)
    refine lv_iconst (v := 1) (pc := 24) C0.1 C0.2.1 dX4_readLid_24 (by decide) ?_
    exact x_zret (pc := 25) C0 hK hk hr hw rfl (Option.some.inj hf) dX4_readLid_25
def wX4_readTurn : List Cond := .code yX4_readTurn cX4_readTurn 2 (some .boolean) :: lwT
def rX4_readTurn : Room := { frames := 1, cells := 0, slots := 0, locals := 22 }
set_option maxRecDepth 100000 in
set_option maxHeartbeats 4000000 in
theorem kX4_readTurn (l : Launch) (D : va_G) (y : Nat → ClassId) (ad : Nat → Nat) (hI : XI ad 168) (v1 : Nat) (hv1 : v1 < 132) (u : S) {o : Int32 × S} (hf : fX4_readTurn v1 u = some o) : Met l yX4_readTurn wX4_readTurn rX4_readTurn (va_Pc [.ref (ad 160), .ref (ad v1)] (XW D y ad LX 168 u)) (XQi D y ad LX 168 o) 0 0 (XA ad 168) := by
  refine x_met (bytes := cX4_readTurn) (maxL := 2) (ret := (some .boolean)) (own := RX4) (by decide) rfl rfl (Nat.le_of_ble_eq_true rfl) (fun p e s m below meth c ls C0 hK hk hr hw hl => ?_)
  have hl : lv_has ls 2 [(0, .ref (ad 160)), (1, .ref (ad v1))] := hl
  unfold fX4_readTurn at hf
  refine lv_aload_n (pc := 0) C0.1 C0.2.1 dX4_readTurn_0 rfl (lv_at hl 0 rfl) ?_
  obtain ⟨q1, hq1, hf⟩ := bd_e hf
  refine x_backp (pc := 1) hw (x_runV (pc := 1) (As := []) (rest := []) C0 hK hw hl.1 ⟨Nat.zero_le _, Nat.zero_le _⟩ (kX4_next l D y ad hI  u hq1) (by decide) ly_X rfl rfl wc_X4_next wm_X4_39 wi_X4_next ws_X4_next wn_X4 ⟨rfl, rfl⟩ hd_X4_next rfl ⟨Nat.le_of_ble_eq_true rfl, Nat.le_of_ble_eq_true rfl⟩ (Nat.le_of_ble_eq_true rfl) dX4_readTurn_1) (fun H locs hw => ?_)
  refine lv_bipush (v := 64) (pc := 4) C0.1 C0.2.1 dX4_readTurn_4 (by decide) ?_
  refine lv_icmp_eq (tgt := 11) (pc := 6) C0.1 C0.2.1 dX4_readTurn_6 (by decide) (fun hc => ?_) (fun hc => ?_)
  · have hf := if_t hf hc
    refine lv_aload_n (pc := 11) C0.1 C0.2.1 dX4_readTurn_11 rfl (lv_at hl 0 rfl) ?_
    refine lv_dup (pc := 12) C0.1 C0.2.1 dX4_readTurn_12 rfl ?_
    refine x_get (pc := 13) (v := .int (u.1 160 4)) C0 hK hw (by decide) ly_X rfl inX4 4 (by decide) wf_X4_29 rfl rfl dX4_readTurn_13 ?_
    refine lv_iconst (v := 1) (pc := 16) C0.1 C0.2.1 dX4_readTurn_16 (by decide) ?_
    refine lv_iadd (pc := 17) C0.1 C0.2.1 dX4_readTurn_17 ?_
    obtain ⟨u2, hu, hf⟩ := nm_f hf
    refine x_put (pc := 18) hI C0 hK hw (by decide) ly_X rfl inX4 tyX4_ok nmX4 4 (by decide) wf_X4_29 rfl rfl rfl hu rfl rfl dX4_readTurn_18 (fun H locs hw => ?_)
    refine lv_aload_n (pc := 21) C0.1 C0.2.1 dX4_readTurn_21 rfl (lv_at hl 0 rfl) ?_
    obtain ⟨q3, hq3, hf⟩ := bd_e hf
    refine x_backp (pc := 22) hw (x_runV (pc := 22) (As := []) (rest := []) C0 hK hw hl.1 ⟨Nat.zero_le _, Nat.zero_le _⟩ (kX4_next l D y ad hI  u2 hq3) (by decide) ly_X rfl rfl wc_X4_next wm_X4_39 wi_X4_next ws_X4_next wn_X4 ⟨rfl, rfl⟩ hd_X4_next rfl ⟨Nat.le_of_ble_eq_true rfl, Nat.le_of_ble_eq_true rfl⟩ (Nat.le_of_ble_eq_true rfl) dX4_readTurn_22) (fun H locs hw => ?_)
    obtain ⟨q4, hq4, hf⟩ := bd_e hf
    refine x_backp (pc := 25) hw (x_runS (pc := 25) (As := [.int q3]) (rest := []) C0 hK hw hl.1 ⟨Nat.zero_le _, Nat.zero_le _⟩ (kX4_isDigit l D y ad hI q3 u2 hq4) rfl wc_X4_isDigit wm_X4_43 wt_X4_isDigit wn_X4 ⟨rfl, rfl⟩ hd_X4_isDigit rfl ⟨Nat.le_of_ble_eq_true rfl, Nat.le_of_ble_eq_true rfl⟩ (Nat.le_of_ble_eq_true rfl) dX4_readTurn_25) (fun H locs hw => ?_)
    refine lv_if_ne (tgt := 41) (pc := 28) C0.1 C0.2.1 dX4_readTurn_28 (by decide) (fun hc => ?_) (fun hc => ?_)
    · have hf := if_f hf hc
      refine lv_aload_n (pc := 41) C0.1 C0.2.1 dX4_readTurn_41 rfl (lv_at hl 1 rfl) ?_
      refine lv_aload_n (pc := 42) C0.1 C0.2.1 dX4_readTurn_42 rfl (lv_at hl 0 rfl) ?_
      obtain ⟨q5, hq5, hf⟩ := bd_e hf
      refine x_backp (pc := 43) hw (x_runV (pc := 43) (As := []) (rest := [.ref (ad v1)]) C0 hK hw hl.1 ⟨Nat.zero_le _, Nat.zero_le _⟩ (kX4_next l D y ad hI  u2 hq5) (by decide) ly_X rfl rfl wc_X4_next wm_X4_39 wi_X4_next ws_X4_next wn_X4 ⟨rfl, rfl⟩ hd_X4_next rfl ⟨Nat.le_of_ble_eq_true rfl, Nat.le_of_ble_eq_true rfl⟩ (Nat.le_of_ble_eq_true rfl) dX4_readTurn_43) (fun H locs hw => ?_)
      refine lv_bipush (v := 48) (pc := 46) C0.1 C0.2.1 dX4_readTurn_46 (by decide) ?_
      refine lv_isub (pc := 48) C0.1 C0.2.1 dX4_readTurn_48 ?_
      obtain ⟨u6, hu, hf⟩ := nm_f hf
      refine x_put (pc := 49) hI C0 hK hw (jy_T hv1) (ly_T hv1) rfl inX5 tyX5_ok nmX5 3 (by decide) wf_X4_85 rfl rfl rfl hu rfl rfl dX4_readTurn_49 (fun H locs hw => ?_)
      refine lv_aload_n (pc := 52) C0.1 C0.2.1 dX4_readTurn_52 rfl (lv_at hl 0 rfl) ?_
      refine lv_dup (pc := 53) C0.1 C0.2.1 dX4_readTurn_53 rfl ?_
      refine x_get (pc := 54) (v := .int (u6.1 160 4)) C0 hK hw (by decide) ly_X rfl inX4 4 (by decide) wf_X4_29 rfl rfl dX4_readTurn_54 ?_
      refine lv_iconst (v := 1) (pc := 57) C0.1 C0.2.1 dX4_readTurn_57 (by decide) ?_
      refine lv_iadd (pc := 58) C0.1 C0.2.1 dX4_readTurn_58 ?_
      obtain ⟨u7, hu, hf⟩ := nm_f hf
      refine x_put (pc := 59) hI C0 hK hw (by decide) ly_X rfl inX4 tyX4_ok nmX4 4 (by decide) wf_X4_29 rfl rfl rfl hu rfl rfl dX4_readTurn_59 (fun H locs hw => ?_)
      refine lv_iconst (v := 1) (pc := 62) C0.1 C0.2.1 dX4_readTurn_62 (by decide) ?_
      exact x_zret (pc := 63) C0 hK hk hr hw rfl (Option.some.inj hf) dX4_readTurn_63
    · have hf := if_t hf hc
      refine lv_aload_n (pc := 31) C0.1 C0.2.1 dX4_readTurn_31 rfl (lv_at hl 0 rfl) ?_
      refine lv_iconst (v := 1) (pc := 32) C0.1 C0.2.1 dX4_readTurn_32 (by decide) ?_
      refine lv_aload_n (pc := 33) C0.1 C0.2.1 dX4_readTurn_33 rfl (lv_at hl 0 rfl) ?_
      refine x_get (pc := 34) (v := .int (u2.1 160 4)) C0 hK hw (by decide) ly_X rfl inX4 4 (by decide) wf_X4_29 rfl rfl dX4_readTurn_34 ?_
      obtain ⟨q8, hq8, hf⟩ := bd_e hf
      refine x_back (pc := 37) hw (x_runV (pc := 37) (As := [.int 1, .int (u2.1 160 4)]) (rest := []) C0 hK hw hl.1 ⟨Nat.zero_le _, Nat.zero_le _⟩ (kX4_fail l D y ad hI 1 (u2.1 160 4) u2 hq8) (by decide) ly_X rfl rfl wc_X4_fail wm_X4_47 wi_X4_fail ws_X4_fail wn_X4 ⟨rfl, rfl⟩ hd_X4_fail rfl ⟨Nat.le_of_ble_eq_true rfl, Nat.le_of_ble_eq_true rfl⟩ (Nat.le_of_ble_eq_true rfl) dX4_readTurn_37) (fun H locs hw => ?_)
      obtain ⟨hz, hf⟩ := gd_e hf
      exact x_zret (pc := 40) C0 hK hk hr hw hz (Option.some.inj hf) dX4_readTurn_40
  · have hf := if_f hf hc
    refine lv_iconst (v := 1) (pc := 9) C0.1 C0.2.1 dX4_readTurn_9 (by decide) ?_
    exact x_zret (pc := 10) C0 hK hk hr hw rfl (Option.some.inj hf) dX4_readTurn_10
def wX4_readTray : List Cond := .code yX4_readTray cX4_readTray 4 (some .boolean) :: lwT
def rX4_readTray : Room := { frames := 2, cells := 0, slots := 0, locals := 44 }
set_option maxRecDepth 100000 in
set_option maxHeartbeats 4000000 in
theorem kX4_readTray (l : Launch) (D : va_G) (y : Nat → ClassId) (ad : Nat → Nat) (hI : XI ad 168)  (u : S) {o : Int32 × S} (hf : fX4_readTray  u = some o) : Met l yX4_readTray wX4_readTray rX4_readTray (va_Pc [.ref (ad 160)] (XW D y ad LX 168 u)) (XQi D y ad LX 168 o) 0 0 (XA ad 168) := by
  refine x_met (bytes := cX4_readTray) (maxL := 4) (ret := (some .boolean)) (own := RX4) (by decide) rfl rfl (Nat.le_of_ble_eq_true rfl) (fun p e s m below meth c ls C0 hK hk hr hw hl => ?_)
  have hl : lv_has ls 4 [(0, .ref (ad 160))] := hl
  unfold fX4_readTray at hf
  refine lv_aload_n (pc := 0) C0.1 C0.2.1 dX4_readTray_0 rfl (lv_at hl 0 rfl) ?_
  refine x_get (pc := 1) (v := .ref (ad (132 + 10))) C0 hK hw (by decide) ly_X rfl inX4 2 (by decide) wf_X4_18 rfl rfl dX4_readTray_1 ?_
  refine x_get (pc := 4) (v := .int (u.1 (132 + 10) 4)) C0 hK hw (jy_B (by decide)) (ly_B (by decide)) rfl inX0 4 (by decide) wf_X4_32 rfl rfl dX4_readTray_4 ?_
  refine lv_bipush (v := 12) (pc := 7) C0.1 C0.2.1 dX4_readTray_7 (by decide) ?_
  refine lv_icmp_lt (tgt := 36) (pc := 9) C0.1 C0.2.1 dX4_readTray_9 (by decide) (fun hc => ?_) (fun hc => ?_)
  · have hf := if_t hf hc
    refine lv_aload_n (pc := 36) C0.1 C0.2.1 dX4_readTray_36 rfl (lv_at hl 0 rfl) ?_
    refine lv_bipush (v := 10) (pc := 37) C0.1 C0.2.1 dX4_readTray_37 (by decide) ?_
    obtain ⟨q1, hq1, hf⟩ := bd_e hf
    refine x_back (pc := 39) hw (x_runV (pc := 39) (As := [.int 10]) (rest := []) C0 hK hw hl.1 ⟨Nat.zero_le _, Nat.zero_le _⟩ (kX4_readNumber l D y ad hI 10 u hq1) (by decide) ly_X rfl rfl wc_X4_readNumber wm_X4_51 wi_X4_readNumber ws_X4_readNumber wn_X4 ⟨rfl, rfl⟩ hd_X4_readNumber rfl ⟨Nat.le_of_ble_eq_true rfl, Nat.le_of_ble_eq_true rfl⟩ (Nat.le_of_ble_eq_true rfl) dX4_readTray_39) (fun H locs hw => ?_)
    refine lv_if_ne (tgt := 47) (pc := 42) C0.1 C0.2.1 dX4_readTray_42 (by decide) (fun hc => ?_) (fun hc => ?_)
    · have hf := if_f hf hc
      refine lv_aload_n (pc := 47) C0.1 C0.2.1 dX4_readTray_47 rfl (lv_at hl 0 rfl) ?_
      refine x_get (pc := 48) (v := .int (q1.2.1 160 5)) C0 hK hw (by decide) ly_X rfl inX4 5 (by decide) wf_X4_55 rfl rfl dX4_readTray_48 ?_
      refine lv_istore_n (pc := 51) (lv' := [(1, .int (q1.2.1 160 5)), (0, .ref (ad 160))]) C0.1 C0.2.1 dX4_readTray_51 rfl hl (by decide) rfl (fun ls hl => ?_)
      refine lv_aload_n (pc := 52) C0.1 C0.2.1 dX4_readTray_52 rfl (lv_at hl 1 rfl) ?_
      refine lv_bipush (v := 120) (pc := 53) C0.1 C0.2.1 dX4_readTray_53 (by decide) ?_
      obtain ⟨q2, hq2, hf⟩ := bd_e hf
      refine x_back (pc := 55) hw (x_runV (pc := 55) (As := [.int 120]) (rest := []) C0 hK hw hl.1 ⟨Nat.zero_le _, Nat.zero_le _⟩ (kX4_readSign l D y ad hI 120 q1.2 hq2) (by decide) ly_X rfl rfl wc_X4_readSign wm_X4_58 wi_X4_readSign ws_X4_readSign wn_X4 ⟨rfl, rfl⟩ hd_X4_readSign rfl ⟨Nat.le_of_ble_eq_true rfl, Nat.le_of_ble_eq_true rfl⟩ (Nat.le_of_ble_eq_true rfl) dX4_readTray_55) (fun H locs hw => ?_)
      refine lv_if_eq (tgt := 70) (pc := 58) C0.1 C0.2.1 dX4_readTray_58 (by decide) (fun hc => ?_) (fun hc => ?_)
      · have hf := if_t hf hc
        refine lv_iconst (v := 0) (pc := 70) C0.1 C0.2.1 dX4_readTray_70 (by decide) ?_
        exact x_zret (pc := 71) C0 hK hk hr hw rfl (Option.some.inj hf) dX4_readTray_71
      · have hf := if_f hf hc
        refine lv_aload_n (pc := 61) C0.1 C0.2.1 dX4_readTray_61 rfl (lv_at hl 1 rfl) ?_
        refine lv_bipush (v := 10) (pc := 62) C0.1 C0.2.1 dX4_readTray_62 (by decide) ?_
        obtain ⟨q3, hq3, hf⟩ := bd_e hf
        refine x_back (pc := 64) hw (x_runV (pc := 64) (As := [.int 10]) (rest := []) C0 hK hw hl.1 ⟨Nat.zero_le _, Nat.zero_le _⟩ (kX4_readNumber l D y ad hI 10 q2.2 hq3) (by decide) ly_X rfl rfl wc_X4_readNumber wm_X4_51 wi_X4_readNumber ws_X4_readNumber wn_X4 ⟨rfl, rfl⟩ hd_X4_readNumber rfl ⟨Nat.le_of_ble_eq_true rfl, Nat.le_of_ble_eq_true rfl⟩ (Nat.le_of_ble_eq_true rfl) dX4_readTray_64) (fun H locs hw => ?_)
        refine lv_if_ne (tgt := 72) (pc := 67) C0.1 C0.2.1 dX4_readTray_67 (by decide) (fun hc => ?_) (fun hc => ?_)
        · have hf := if_f hf hc
          refine lv_aload_n (pc := 72) C0.1 C0.2.1 dX4_readTray_72 rfl (lv_at hl 1 rfl) ?_
          refine x_get (pc := 73) (v := .int (q3.2.1 160 5)) C0 hK hw (by decide) ly_X rfl inX4 5 (by decide) wf_X4_55 rfl rfl dX4_readTray_73 ?_
          refine lv_istore_n (pc := 76) (lv' := [(2, .int (q3.2.1 160 5)), (1, .int (q1.2.1 160 5)), (0, .ref (ad 160))]) C0.1 C0.2.1 dX4_readTray_76 rfl hl (by decide) rfl (fun ls hl => ?_)
          refine lv_aload_n (pc := 77) C0.1 C0.2.1 dX4_readTray_77 rfl (lv_at hl 2 rfl) ?_
          refine lv_bipush (v := 120) (pc := 78) C0.1 C0.2.1 dX4_readTray_78 (by decide) ?_
          obtain ⟨q4, hq4, hf⟩ := bd_e hf
          refine x_back (pc := 80) hw (x_runV (pc := 80) (As := [.int 120]) (rest := []) C0 hK hw hl.1 ⟨Nat.zero_le _, Nat.zero_le _⟩ (kX4_readSign l D y ad hI 120 q3.2 hq4) (by decide) ly_X rfl rfl wc_X4_readSign wm_X4_58 wi_X4_readSign ws_X4_readSign wn_X4 ⟨rfl, rfl⟩ hd_X4_readSign rfl ⟨Nat.le_of_ble_eq_true rfl, Nat.le_of_ble_eq_true rfl⟩ (Nat.le_of_ble_eq_true rfl) dX4_readTray_80) (fun H locs hw => ?_)
          refine lv_if_eq (tgt := 95) (pc := 83) C0.1 C0.2.1 dX4_readTray_83 (by decide) (fun hc => ?_) (fun hc => ?_)
          · have hf := if_t hf hc
            refine lv_iconst (v := 0) (pc := 95) C0.1 C0.2.1 dX4_readTray_95 (by decide) ?_
            exact x_zret (pc := 96) C0 hK hk hr hw rfl (Option.some.inj hf) dX4_readTray_96
          · have hf := if_f hf hc
            refine lv_aload_n (pc := 86) C0.1 C0.2.1 dX4_readTray_86 rfl (lv_at hl 2 rfl) ?_
            refine lv_bipush (v := 9) (pc := 87) C0.1 C0.2.1 dX4_readTray_87 (by decide) ?_
            obtain ⟨q5, hq5, hf⟩ := bd_e hf
            refine x_back (pc := 89) hw (x_runV (pc := 89) (As := [.int 9]) (rest := []) C0 hK hw hl.1 ⟨Nat.zero_le _, Nat.zero_le _⟩ (kX4_readNumber l D y ad hI 9 q4.2 hq5) (by decide) ly_X rfl rfl wc_X4_readNumber wm_X4_51 wi_X4_readNumber ws_X4_readNumber wn_X4 ⟨rfl, rfl⟩ hd_X4_readNumber rfl ⟨Nat.le_of_ble_eq_true rfl, Nat.le_of_ble_eq_true rfl⟩ (Nat.le_of_ble_eq_true rfl) dX4_readTray_89) (fun H locs hw => ?_)
            refine lv_if_ne (tgt := 97) (pc := 92) C0.1 C0.2.1 dX4_readTray_92 (by decide) (fun hc => ?_) (fun hc => ?_)
            · have hf := if_f hf hc
              refine lv_aload_n (pc := 97) C0.1 C0.2.1 dX4_readTray_97 rfl (lv_at hl 2 rfl) ?_
              refine x_get (pc := 98) (v := .ref (ad (132 + 10))) C0 hK hw (by decide) ly_X rfl inX4 2 (by decide) wf_X4_18 rfl rfl dX4_readTray_98 ?_
              refine x_get (pc := 101) (v := .ref (ad (143 + 10))) C0 hK hw (jy_B (by decide)) (ly_B (by decide)) rfl inX0 5 (by decide) wf_X4_61 rfl rfl dX4_readTray_101 ?_
              refine lv_aload_n (pc := 104) C0.1 C0.2.1 dX4_readTray_104 rfl (lv_at hl 2 rfl) ?_
              refine x_get (pc := 105) (v := .ref (ad (132 + 10))) C0 hK hw (by decide) ly_X rfl inX4 2 (by decide) wf_X4_18 rfl rfl dX4_readTray_105 ?_
              refine x_get (pc := 108) (v := .int (q5.2.1 (132 + 10) 4)) C0 hK hw (jy_B (by decide)) (ly_B (by decide)) rfl inX0 4 (by decide) wf_X4_32 rfl rfl dX4_readTray_108 ?_
              obtain ⟨hi, hf⟩ := gd_e hf
              have hT6 : 12 * 10 + (q5.2.1 (132 + 10) 4).toNatClampNeg < 132 := tb (by decide) (inb_lt hi)
              refine x_aldT (pc := 111) (t := 12 * 10 + (q5.2.1 (132 + 10) 4).toNatClampNeg) C0 hK hw (jy_R (by decide)) (ly_R (by decide)) hi rfl dX4_readTray_111 ?_
              refine lv_astore_n (pc := 112) (lv' := [(3, .ref (ad (12 * 10 + (q5.2.1 (132 + 10) 4).toNatClampNeg))), (2, .int (q3.2.1 160 5)), (1, .int (q1.2.1 160 5)), (0, .ref (ad 160))]) C0.1 C0.2.1 dX4_readTray_112 rfl hl (by decide) rfl (fun ls hl => ?_)
              refine lv_aload_n (pc := 113) C0.1 C0.2.1 dX4_readTray_113 rfl (lv_at hl 0 rfl) ?_
              refine lv_iload_n (pc := 114) C0.1 C0.2.1 dX4_readTray_114 rfl (lv_at hl 2 rfl) ?_
              refine lv_iload_n (pc := 115) C0.1 C0.2.1 dX4_readTray_115 rfl (lv_at hl 1 rfl) ?_
              refine lv_aload_n (pc := 116) C0.1 C0.2.1 dX4_readTray_116 rfl (lv_at hl 3 rfl) ?_
              refine x_get (pc := 117) (v := .int (q5.2.1 160 5)) C0 hK hw (by decide) ly_X rfl inX4 5 (by decide) wf_X4_55 rfl rfl dX4_readTray_117 ?_
              refine lv_iconst (v := 0) (pc := 120) C0.1 C0.2.1 dX4_readTray_120 (by decide) ?_
              obtain ⟨q7, hq7, hf⟩ := bd_e hf
              refine x_backv (pc := 121) hw (x_runV (pc := 121) (As := [.int (q1.2.1 160 5), .int (q3.2.1 160 5), .int (q5.2.1 160 5), .int 0]) (rest := []) C0 hK hw hl.1 ⟨Nat.zero_le _, Nat.zero_le _⟩ (kX5_become l D y ad hI (12 * 10 + (q5.2.1 (132 + 10) 4).toNatClampNeg) hT6 (q1.2.1 160 5) (q3.2.1 160 5) (q5.2.1 160 5) 0 q5.2 hq7) (jy_T hT6) (ly_T hT6) rfl rfl wc_X5_become wm_X4_65 wi_X5_become ws_X5_become wn_X5 ⟨rfl, rfl⟩ hd_X5_become rfl ⟨Nat.le_of_ble_eq_true rfl, Nat.le_of_ble_eq_true rfl⟩ (Nat.le_of_ble_eq_true rfl) dX4_readTray_121) (fun H locs hw => ?_)
              refine lv_aload_n (pc := 124) C0.1 C0.2.1 dX4_readTray_124 rfl (lv_at hl 3 rfl) ?_
              refine lv_aload_n (pc := 125) C0.1 C0.2.1 dX4_readTray_125 rfl (lv_at hl 0 rfl) ?_
              obtain ⟨q8, hq8, hf⟩ := bd_e hf
              refine x_back (pc := 126) hw (x_runV (pc := 126) (As := [.ref (ad (12 * 10 + (q5.2.1 (132 + 10) 4).toNatClampNeg))]) (rest := []) C0 hK hw hl.1 ⟨Nat.zero_le _, Nat.zero_le _⟩ (kX4_readLid l D y ad hI (12 * 10 + (q5.2.1 (132 + 10) 4).toNatClampNeg) hT6 q7 hq8) (by decide) ly_X rfl rfl wc_X4_readLid wm_X4_71 wi_X4_readLid ws_X4_readLid wn_X4 ⟨rfl, rfl⟩ hd_X4_readLid rfl ⟨Nat.le_of_ble_eq_true rfl, Nat.le_of_ble_eq_true rfl⟩ (Nat.le_of_ble_eq_true rfl) dX4_readTray_126) (fun H locs hw => ?_)
              refine lv_if_eq (tgt := 153) (pc := 129) C0.1 C0.2.1 dX4_readTray_129 (by decide) (fun hc => ?_) (fun hc => ?_)
              · have hf := if_t hf hc
                refine lv_iconst (v := 0) (pc := 153) C0.1 C0.2.1 dX4_readTray_153 (by decide) ?_
                exact x_zret (pc := 154) C0 hK hk hr hw rfl (Option.some.inj hf) dX4_readTray_154
              · have hf := if_f hf hc
                refine lv_aload_n (pc := 132) C0.1 C0.2.1 dX4_readTray_132 rfl (lv_at hl 3 rfl) ?_
                refine lv_aload_n (pc := 133) C0.1 C0.2.1 dX4_readTray_133 rfl (lv_at hl 0 rfl) ?_
                obtain ⟨q9, hq9, hf⟩ := bd_e hf
                refine x_back (pc := 134) hw (x_runV (pc := 134) (As := [.ref (ad (12 * 10 + (q5.2.1 (132 + 10) 4).toNatClampNeg))]) (rest := []) C0 hK hw hl.1 ⟨Nat.zero_le _, Nat.zero_le _⟩ (kX4_readTurn l D y ad hI (12 * 10 + (q5.2.1 (132 + 10) 4).toNatClampNeg) hT6 q8.2 hq9) (by decide) ly_X rfl rfl wc_X4_readTurn wm_X4_75 wi_X4_readTurn ws_X4_readTurn wn_X4 ⟨rfl, rfl⟩ hd_X4_readTurn rfl ⟨Nat.le_of_ble_eq_true rfl, Nat.le_of_ble_eq_true rfl⟩ (Nat.le_of_ble_eq_true rfl) dX4_readTray_134) (fun H locs hw => ?_)
                refine lv_if_eq (tgt := 153) (pc := 137) C0.1 C0.2.1 dX4_readTray_137 (by decide) (fun hc => ?_) (fun hc => ?_)
                · have hf := if_t hf hc
                  refine lv_iconst (v := 0) (pc := 153) C0.1 C0.2.1 dX4_readTray_153 (by decide) ?_
                  exact x_zret (pc := 154) C0 hK hk hr hw rfl (Option.some.inj hf) dX4_readTray_154
                · have hf := if_f hf hc
                  refine lv_aload_n (pc := 140) C0.1 C0.2.1 dX4_readTray_140 rfl (lv_at hl 3 rfl) ?_
                  refine lv_bipush (v := 59) (pc := 141) C0.1 C0.2.1 dX4_readTray_141 (by decide) ?_
                  obtain ⟨q10, hq10, hf⟩ := bd_e hf
                  refine x_back (pc := 143) hw (x_runV (pc := 143) (As := [.int 59]) (rest := []) C0 hK hw hl.1 ⟨Nat.zero_le _, Nat.zero_le _⟩ (kX4_readSign l D y ad hI 59 q9.2 hq10) (by decide) ly_X rfl rfl wc_X4_readSign wm_X4_58 wi_X4_readSign ws_X4_readSign wn_X4 ⟨rfl, rfl⟩ hd_X4_readSign rfl ⟨Nat.le_of_ble_eq_true rfl, Nat.le_of_ble_eq_true rfl⟩ (Nat.le_of_ble_eq_true rfl) dX4_readTray_143) (fun H locs hw => ?_)
                  refine lv_if_eq (tgt := 153) (pc := 146) C0.1 C0.2.1 dX4_readTray_146 (by decide) (fun hc => ?_) (fun hc => ?_)
                  · have hf := if_t hf hc
                    refine lv_iconst (v := 0) (pc := 153) C0.1 C0.2.1 dX4_readTray_153 (by decide) ?_
                    exact x_zret (pc := 154) C0 hK hk hr hw rfl (Option.some.inj hf) dX4_readTray_154
                  · have hf := if_f hf hc
                    refine lv_iconst (v := 1) (pc := 149) C0.1 C0.2.1 dX4_readTray_149 (by decide) ?_
                    refine lv_goto (tgt := 154) (pc := 150) C0.1 C0.2.1 dX4_readTray_150 (by decide) ?_
                    exact x_zret (pc := 154) C0 hK hk hr hw rfl (Option.some.inj hf) dX4_readTray_154
            · have hf := if_t hf hc
              refine lv_iconst (v := 0) (pc := 95) C0.1 C0.2.1 dX4_readTray_95 (by decide) ?_
              exact x_zret (pc := 96) C0 hK hk hr hw rfl (Option.some.inj hf) dX4_readTray_96
        · have hf := if_t hf hc
          refine lv_iconst (v := 0) (pc := 70) C0.1 C0.2.1 dX4_readTray_70 (by decide) ?_
          exact x_zret (pc := 71) C0 hK hk hr hw rfl (Option.some.inj hf) dX4_readTray_71
    · have hf := if_t hf hc
      refine lv_iconst (v := 0) (pc := 45) C0.1 C0.2.1 dX4_readTray_45 (by decide) ?_
      exact x_zret (pc := 46) C0 hK hk hr hw rfl (Option.some.inj hf) dX4_readTray_46
  · have hf := if_f hf hc
    refine lv_aload_n (pc := 12) C0.1 C0.2.1 dX4_readTray_12 rfl (lv_at hl 0 rfl) ?_
    refine lv_aload_n (pc := 13) C0.1 C0.2.1 dX4_readTray_13 rfl (lv_at hl 0 rfl) ?_
    obtain ⟨q11, hq11, hf⟩ := bd_e hf
    refine x_backp (pc := 14) hw (x_runV (pc := 14) (As := []) (rest := [.ref (ad 160)]) C0 hK hw hl.1 ⟨Nat.zero_le _, Nat.zero_le _⟩ (kX4_next l D y ad hI  u hq11) (by decide) ly_X rfl rfl wc_X4_next wm_X4_39 wi_X4_next ws_X4_next wn_X4 ⟨rfl, rfl⟩ hd_X4_next rfl ⟨Nat.le_of_ble_eq_true rfl, Nat.le_of_ble_eq_true rfl⟩ (Nat.le_of_ble_eq_true rfl) dX4_readTray_14) (fun H locs hw => ?_)
    obtain ⟨q12, hq12, hf⟩ := bd_e hf
    refine x_backp (pc := 17) hw (x_runS (pc := 17) (As := [.int q11]) (rest := [.ref (ad 160)]) C0 hK hw hl.1 ⟨Nat.zero_le _, Nat.zero_le _⟩ (kX4_isDigit l D y ad hI q11 u hq12) rfl wc_X4_isDigit wm_X4_43 wt_X4_isDigit wn_X4 ⟨rfl, rfl⟩ hd_X4_isDigit rfl ⟨Nat.le_of_ble_eq_true rfl, Nat.le_of_ble_eq_true rfl⟩ (Nat.le_of_ble_eq_true rfl) dX4_readTray_17) (fun H locs hw => ?_)
    refine lv_if_eq (tgt := 27) (pc := 20) C0.1 C0.2.1 dX4_readTray_20 (by decide) (fun hc => ?_) (fun hc => ?_)
    · have hf := if_t hf hc
      refine lv_iconst (v := 1) (pc := 27) C0.1 C0.2.1 dX4_readTray_27 (by decide) ?_
      refine lv_aload_n (pc := 28) C0.1 C0.2.1 dX4_readTray_28 rfl (lv_at hl 0 rfl) ?_
      refine x_get (pc := 29) (v := .int (u.1 160 4)) C0 hK hw (by decide) ly_X rfl inX4 4 (by decide) wf_X4_29 rfl rfl dX4_readTray_29 ?_
      obtain ⟨q13, hq13, hf⟩ := bd_e hf
      refine x_back (pc := 32) hw (x_runV (pc := 32) (As := [.int 1, .int (u.1 160 4)]) (rest := []) C0 hK hw hl.1 ⟨Nat.zero_le _, Nat.zero_le _⟩ (kX4_fail l D y ad hI 1 (u.1 160 4) u hq13) (by decide) ly_X rfl rfl wc_X4_fail wm_X4_47 wi_X4_fail ws_X4_fail wn_X4 ⟨rfl, rfl⟩ hd_X4_fail rfl ⟨Nat.le_of_ble_eq_true rfl, Nat.le_of_ble_eq_true rfl⟩ (Nat.le_of_ble_eq_true rfl) dX4_readTray_32) (fun H locs hw => ?_)
      obtain ⟨hz, hf⟩ := gd_e hf
      exact x_zret (pc := 35) C0 hK hk hr hw hz (Option.some.inj hf) dX4_readTray_35
    · have hf := if_f hf hc
      refine lv_iconst (v := 3) (pc := 23) C0.1 C0.2.1 dX4_readTray_23 (by decide) ?_
      refine lv_goto (tgt := 28) (pc := 24) C0.1 C0.2.1 dX4_readTray_24 (by decide) ?_
      refine lv_aload_n (pc := 28) C0.1 C0.2.1 dX4_readTray_28 rfl (lv_at hl 0 rfl) ?_
      refine x_get (pc := 29) (v := .int (u.1 160 4)) C0 hK hw (by decide) ly_X rfl inX4 4 (by decide) wf_X4_29 rfl rfl dX4_readTray_29 ?_
      obtain ⟨q14, hq14, hf⟩ := bd_e hf
      refine x_back (pc := 32) hw (x_runV (pc := 32) (As := [.int 3, .int (u.1 160 4)]) (rest := []) C0 hK hw hl.1 ⟨Nat.zero_le _, Nat.zero_le _⟩ (kX4_fail l D y ad hI 3 (u.1 160 4) u hq14) (by decide) ly_X rfl rfl wc_X4_fail wm_X4_47 wi_X4_fail ws_X4_fail wn_X4 ⟨rfl, rfl⟩ hd_X4_fail rfl ⟨Nat.le_of_ble_eq_true rfl, Nat.le_of_ble_eq_true rfl⟩ (Nat.le_of_ble_eq_true rfl) dX4_readTray_32) (fun H locs hw => ?_)
      obtain ⟨hz, hf⟩ := gd_e hf
      exact x_zret (pc := 35) C0 hK hk hr hw hz (Option.some.inj hf) dX4_readTray_35
def wX4_read : List Cond := .code yX4_read cX4_read 2 (some .int) :: lwT
def rX4_read : Room := { frames := 3, cells := 0, slots := 0, locals := 67 }
set_option maxRecDepth 100000 in
set_option maxHeartbeats 4000000 in
theorem kX4_read (l : Launch) (D : va_G) (y : Nat → ClassId) (ad : Nat → Nat) (hI : XI ad 168)  (u : S) {o : Int32 × S} (hf : fX4_read  u = some o) : Met l yX4_read wX4_read rX4_read (va_Pc [.ref (ad 160)] (XW D y ad LX 168 u)) (XQi D y ad LX 168 o) 0 0 (XA ad 168) := by
  refine x_met (bytes := cX4_read) (maxL := 2) (ret := (some .int)) (own := RX4) (by decide) rfl rfl (Nat.le_of_ble_eq_true rfl) (fun p e s m below meth c ls C0 hK hk hr hw hl => ?_)
  have hl : lv_has ls 2 [(0, .ref (ad 160))] := hl
  unfold fX4_read at hf
  refine lv_aload_n (pc := 0) C0.1 C0.2.1 dX4_read_0 rfl (lv_at hl 0 rfl) ?_
  refine lv_iconst (v := 0) (pc := 1) C0.1 C0.2.1 dX4_read_1 (by decide) ?_
  obtain ⟨u1, hu, hf⟩ := nm_f hf
  refine x_put (pc := 2) hI C0 hK hw (by decide) ly_X rfl inX4 tyX4_ok nmX4 1 (by decide) wf_X4_9 rfl rfl rfl hu rfl rfl dX4_read_2 (fun H locs hw => ?_)
  refine lv_aload_n (pc := 5) C0.1 C0.2.1 dX4_read_5 rfl (lv_at hl 0 rfl) ?_
  refine lv_iconst (v := 0) (pc := 6) C0.1 C0.2.1 dX4_read_6 (by decide) ?_
  obtain ⟨u2, hu, hf⟩ := nm_f hf
  refine x_put (pc := 7) hI C0 hK hw (by decide) ly_X rfl inX4 tyX4_ok nmX4 4 (by decide) wf_X4_29 rfl rfl rfl hu rfl rfl dX4_read_7 (fun H locs hw => ?_)
  refine lv_aload_n (pc := 10) C0.1 C0.2.1 dX4_read_10 rfl (lv_at hl 0 rfl) ?_
  refine x_get (pc := 11) (v := .ref (ad (132 + 10))) C0 hK hw (by decide) ly_X rfl inX4 2 (by decide) wf_X4_18 rfl rfl dX4_read_11 ?_
  refine lv_iconst (v := 0) (pc := 14) C0.1 C0.2.1 dX4_read_14 (by decide) ?_
  obtain ⟨u3, hu, hf⟩ := nm_f hf
  refine x_put (pc := 15) hI C0 hK hw (jy_B (by decide)) (ly_B (by decide)) rfl inX0 tyX0_ok nmX0 4 (by decide) wf_X4_32 rfl rfl rfl hu rfl rfl dX4_read_15 (fun H locs hw => ?_)
  refine lv_iconst (v := 0) (pc := 18) C0.1 C0.2.1 dX4_read_18 (by decide) ?_
  refine lv_istore_n (pc := 19) (lv' := [(1, .int 0), (0, .ref (ad 160))]) C0.1 C0.2.1 dX4_read_19 rfl hl (by decide) rfl (fun ls hl => ?_)
  obtain ⟨e4, he4, hf⟩ := bd_e hf
  refine X_loop (pc := 20) (xpc := 70) (fu := fun a1 => a1.2) (fl := fun a1 => [(1, .int a1.1), (0, .ref (ad 160))]) (fun a1 r hf hE hG H locs ls hw hl => ?_) he4 (fun H locs ls hw hl => ?_) hw hl
  · unfold gX4_read_20 at hf
    refine lv_iload_n (pc := 20) C0.1 C0.2.1 dX4_read_20 rfl (lv_at hl 0 rfl) ?_
    refine lv_bipush (v := 12) (pc := 21) C0.1 C0.2.1 dX4_read_21 (by decide) ?_
    refine lv_icmp_gt (tgt := 70) (pc := 23) C0.1 C0.2.1 dX4_read_23 (by decide) (fun hc => ?_) (fun hc => ?_)
    · have hf := if_t hf hc
      exact hE _ (Option.some.inj hf).symm H locs ls hw (lv_sub hl [0, 1] rfl)
    · have hf := if_f hf hc
      refine lv_aload_n (pc := 26) C0.1 C0.2.1 dX4_read_26 rfl (lv_at hl 1 rfl) ?_
      refine x_get (pc := 27) (v := .int (a1.2.1 160 4)) C0 hK hw (by decide) ly_X rfl inX4 4 (by decide) wf_X4_29 rfl rfl dX4_read_27 ?_
      refine lv_aload_n (pc := 30) C0.1 C0.2.1 dX4_read_30 rfl (lv_at hl 1 rfl) ?_
      refine x_get (pc := 31) (v := .int (a1.2.1 160 0)) C0 hK hw (by decide) ly_X rfl inX4 0 (by decide) wf_X4_26 rfl rfl dX4_read_31 ?_
      refine lv_icmp_ge (tgt := 70) (pc := 34) C0.1 C0.2.1 dX4_read_34 (by decide) (fun hc => ?_) (fun hc => ?_)
      · have hf := if_t hf hc
        exact hE _ (Option.some.inj hf).symm H locs ls hw (lv_sub hl [0, 1] rfl)
      · have hf := if_f hf hc
        refine lv_aload_n (pc := 37) C0.1 C0.2.1 dX4_read_37 rfl (lv_at hl 1 rfl) ?_
        refine x_get (pc := 38) (v := .int (a1.2.1 160 1)) C0 hK hw (by decide) ly_X rfl inX4 1 (by decide) wf_X4_9 rfl rfl dX4_read_38 ?_
        refine lv_if_ne (tgt := 70) (pc := 41) C0.1 C0.2.1 dX4_read_41 (by decide) (fun hc => ?_) (fun hc => ?_)
        · have hf := if_f hf hc
          exact hE _ (Option.some.inj hf).symm H locs ls hw (lv_sub hl [0, 1] rfl)
        · have hf := if_t hf hc
          refine lv_aload_n (pc := 44) C0.1 C0.2.1 dX4_read_44 rfl (lv_at hl 1 rfl) ?_
          obtain ⟨q5, hq5, hf⟩ := bd_e hf
          refine x_back (pc := 45) hw (x_runV (pc := 45) (As := []) (rest := []) C0 hK hw hl.1 ⟨Nat.zero_le _, Nat.zero_le _⟩ (kX4_readTray l D y ad hI  a1.2 hq5) (by decide) ly_X rfl rfl wc_X4_readTray wm_X4_35 wi_X4_readTray ws_X4_readTray wn_X4 ⟨rfl, rfl⟩ hd_X4_readTray rfl ⟨Nat.le_of_ble_eq_true rfl, Nat.le_of_ble_eq_true rfl⟩ (Nat.le_of_ble_eq_true rfl) dX4_read_45) (fun H locs hw => ?_)
          refine lv_if_eq (tgt := 64) (pc := 48) C0.1 C0.2.1 dX4_read_48 (by decide) (fun hc => ?_) (fun hc => ?_)
          · have hf := if_t hf hc
            refine lv_iinc (pc := 64) (v := a1.1 + 1) (lv' := [(1, .int (a1.1 + 1)), (0, .ref (ad 160))]) C0.1 C0.2.1 dX4_read_64 hl (k := 0) rfl rfl (by decide) rfl (fun ls hl => ?_)
            refine lv_goto (tgt := 20) (pc := 67) C0.1 C0.2.1 dX4_read_67 (by decide) ?_
            exact hG _ (Option.some.inj hf).symm H locs ls hw (lv_sub hl [0, 1] rfl)
          · have hf := if_f hf hc
            refine lv_aload_n (pc := 51) C0.1 C0.2.1 dX4_read_51 rfl (lv_at hl 1 rfl) ?_
            refine x_get (pc := 52) (v := .ref (ad (132 + 10))) C0 hK hw (by decide) ly_X rfl inX4 2 (by decide) wf_X4_18 rfl rfl dX4_read_52 ?_
            refine lv_dup (pc := 55) C0.1 C0.2.1 dX4_read_55 rfl ?_
            refine x_get (pc := 56) (v := .int (q5.2.1 (132 + 10) 4)) C0 hK hw (jy_B (by decide)) (ly_B (by decide)) rfl inX0 4 (by decide) wf_X4_32 rfl rfl dX4_read_56 ?_
            refine lv_iconst (v := 1) (pc := 59) C0.1 C0.2.1 dX4_read_59 (by decide) ?_
            refine lv_iadd (pc := 60) C0.1 C0.2.1 dX4_read_60 ?_
            obtain ⟨u6, hu, hf⟩ := nm_f hf
            refine x_put (pc := 61) hI C0 hK hw (jy_B (by decide)) (ly_B (by decide)) rfl inX0 tyX0_ok nmX0 4 (by decide) wf_X4_32 rfl rfl rfl hu rfl rfl dX4_read_61 (fun H locs hw => ?_)
            refine lv_iinc (pc := 64) (v := a1.1 + 1) (lv' := [(1, .int (a1.1 + 1)), (0, .ref (ad 160))]) C0.1 C0.2.1 dX4_read_64 hl (k := 0) rfl rfl (by decide) rfl (fun ls hl => ?_)
            refine lv_goto (tgt := 20) (pc := 67) C0.1 C0.2.1 dX4_read_67 (by decide) ?_
            exact hG _ (Option.some.inj hf).symm H locs ls hw (lv_sub hl [0, 1] rfl)
  · skip
    refine lv_aload_n (pc := 70) C0.1 C0.2.1 dX4_read_70 rfl (lv_at hl 1 rfl) ?_
    refine x_get (pc := 71) (v := .int (e4.2.1 160 1)) C0 hK hw (by decide) ly_X rfl inX4 1 (by decide) wf_X4_9 rfl rfl dX4_read_71 ?_
    refine lv_if_ne (tgt := 87) (pc := 74) C0.1 C0.2.1 dX4_read_74 (by decide) (fun hc => ?_) (fun hc => ?_)
    · have hf := if_f hf hc
      refine lv_bipush (v := (-10)) (pc := 87) C0.1 C0.2.1 dX4_read_87 (by decide) ?_
      refine lv_aload_n (pc := 89) C0.1 C0.2.1 dX4_read_89 rfl (lv_at hl 1 rfl) ?_
      refine x_get (pc := 90) (v := .int (e4.2.1 160 4)) C0 hK hw (by decide) ly_X rfl inX4 4 (by decide) wf_X4_29 rfl rfl dX4_read_90 ?_
      refine lv_isub (pc := 93) C0.1 C0.2.1 dX4_read_93 ?_
      exact x_iret (pc := 94) C0 hK hk hr hw (Option.some.inj hf) dX4_read_94
    · have hf := if_t hf hc
      refine lv_aload_n (pc := 77) C0.1 C0.2.1 dX4_read_77 rfl (lv_at hl 1 rfl) ?_
      refine x_get (pc := 78) (v := .ref (ad (132 + 10))) C0 hK hw (by decide) ly_X rfl inX4 2 (by decide) wf_X4_18 rfl rfl dX4_read_78 ?_
      refine x_get (pc := 81) (v := .int (e4.2.1 (132 + 10) 4)) C0 hK hw (jy_B (by decide)) (ly_B (by decide)) rfl inX0 4 (by decide) wf_X4_32 rfl rfl dX4_read_81 ?_
      refine lv_goto (tgt := 94) (pc := 84) C0.1 C0.2.1 dX4_read_84 (by decide) ?_
      exact x_iret (pc := 94) C0 hK hk hr hw (Option.some.inj hf) dX4_read_94
