def wX7_in : List Cond := .code yX7_in cX7_in 3 (some .boolean) :: lwT
def rX7_in : Room := { frames := 0, cells := 0, slots := 0, locals := 0 }
set_option maxRecDepth 100000 in
set_option maxHeartbeats 4000000 in
theorem kX7_in (l : Launch) (D : va_G) (y : Nat → ClassId) (ad : Nat → Nat) (hI : XI ad 8) (v0 : Int32) (v1 : Int32) (v2 : Int32) (u : S) {o : Int32} (hf : fX7_in v0 v1 v2 u = some o) : Met l yX7_in wX7_in rX7_in (va_Pc [.int v0, .int v1, .int v2] (XW D y ad LM 8 u)) (XQi D y ad LM 8 (o, u)) 0 0 (XA ad 8) := by
  refine x_met (bytes := cX7_in) (maxL := 3) (ret := (some .boolean)) (own := RX7) (by decide) rfl rfl (Nat.le_of_ble_eq_true rfl) (fun p e s m below meth c ls C0 hK hk hr hw hl => ?_)
  have hl : lv_has ls 3 [(0, .int v0), (1, .int v1), (2, .int v2)] := hl
  unfold fX7_in at hf
  refine lv_iload_n (pc := 0) C0.1 C0.2.1 dX7_in_0 rfl (lv_at hl 0 rfl) ?_
  refine lv_iload_n (pc := 1) C0.1 C0.2.1 dX7_in_1 rfl (lv_at hl 1 rfl) ?_
  refine lv_icmp_lt (tgt := 14) (pc := 2) C0.1 C0.2.1 dX7_in_2 (by decide) (fun hc => ?_) (fun hc => ?_)
  · have hf := if_t hf hc
    refine lv_iconst (v := 0) (pc := 14) C0.1 C0.2.1 dX7_in_14 (by decide) ?_
    exact x_zret (pc := 15) C0 hK hk hr hw rfl (congrArg (fun z => (z, u)) (Option.some.inj hf)) dX7_in_15
  · have hf := if_f hf hc
    refine lv_iload_n (pc := 5) C0.1 C0.2.1 dX7_in_5 rfl (lv_at hl 0 rfl) ?_
    refine lv_iload_n (pc := 6) C0.1 C0.2.1 dX7_in_6 rfl (lv_at hl 2 rfl) ?_
    refine lv_icmp_gt (tgt := 14) (pc := 7) C0.1 C0.2.1 dX7_in_7 (by decide) (fun hc => ?_) (fun hc => ?_)
    · have hf := if_t hf hc
      refine lv_iconst (v := 0) (pc := 14) C0.1 C0.2.1 dX7_in_14 (by decide) ?_
      exact x_zret (pc := 15) C0 hK hk hr hw rfl (congrArg (fun z => (z, u)) (Option.some.inj hf)) dX7_in_15
    · have hf := if_f hf hc
      refine lv_iconst (v := 1) (pc := 10) C0.1 C0.2.1 dX7_in_10 (by decide) ?_
      refine lv_goto (tgt := 15) (pc := 11) C0.1 C0.2.1 dX7_in_11 (by decide) ?_
      exact x_zret (pc := 15) C0 hK hk hr hw rfl (congrArg (fun z => (z, u)) (Option.some.inj hf)) dX7_in_15
def wX7_copies : List Cond := .code yX7_copies cX7_copies 4 none :: lwT
def rX7_copies : Room := { frames := 0, cells := 0, slots := 0, locals := 0 }
set_option maxRecDepth 100000 in
set_option maxHeartbeats 4000000 in
theorem kX7_copies (l : Launch) (D : va_G) (y : Nat → ClassId) (ad : Nat → Nat) (hI : XI ad 8) (v1 : Int32) (v2 : Int32) (u : S) {o : S} (hf : fX7_copies v1 v2 u = some o) : Met l yX7_copies wX7_copies rX7_copies (va_Pc [.ref (ad 0), .int v1, .int v2] (XW D y ad LM 8 u)) (XQv D y ad LM 8 o) 0 0 (XA ad 8) := by
  refine x_met (bytes := cX7_copies) (maxL := 4) (ret := none) (own := RX7) (by decide) rfl rfl (Nat.le_of_ble_eq_true rfl) (fun p e s m below meth c ls C0 hK hk hr hw hl => ?_)
  have hl : lv_has ls 4 [(0, .ref (ad 0)), (1, .int v1), (2, .int v2)] := hl
  unfold fX7_copies at hf
  refine lv_iconst (v := 0) (pc := 0) C0.1 C0.2.1 dX7_copies_0 (by decide) ?_
  refine lv_istore_n (pc := 1) (lv' := [(3, .int 0), (0, .ref (ad 0)), (1, .int v1), (2, .int v2)]) C0.1 C0.2.1 dX7_copies_1 rfl hl (by decide) rfl (fun ls hl => ?_)
  obtain ⟨e1, he1, hf⟩ := bd_e hf
  refine X_loop (pc := 2) (xpc := 36) (fu := fun a1 => a1.2) (fl := fun a1 => [(3, .int a1.1), (0, .ref (ad 0)), (1, .int v1), (2, .int v2)]) (fun a1 r hf hE hG H locs ls hw hl => ?_) he1 (fun H locs ls hw hl => ?_) hw hl
  · unfold gX7_copies_2 at hf
    refine lv_iload_n (pc := 2) C0.1 C0.2.1 dX7_copies_2 rfl (lv_at hl 0 rfl) ?_
    refine lv_bipush (v := 125) (pc := 3) C0.1 C0.2.1 dX7_copies_3 (by decide) ?_
    refine lv_icmp_ge (tgt := 36) (pc := 5) C0.1 C0.2.1 dX7_copies_5 (by decide) (fun hc => ?_) (fun hc => ?_)
    · have hf := if_t hf hc
      exact hE _ (Option.some.inj hf).symm H locs ls hw (lv_sub hl [0, 1, 2, 3] rfl)
    · have hf := if_f hf hc
      refine lv_aload_n (pc := 8) C0.1 C0.2.1 dX7_copies_8 rfl (lv_at hl 1 rfl) ?_
      refine x_get (pc := 9) (v := .ref (ad 1)) C0 hK hw (by decide) ly_m0 rfl inX7 0 (by decide) wf_X7_7 rfl rfl dX7_copies_9 ?_
      refine lv_bipush (v := 125) (pc := 12) C0.1 C0.2.1 dX7_copies_12 (by decide) ?_
      refine lv_iload_n (pc := 14) C0.1 C0.2.1 dX7_copies_14 rfl (lv_at hl 3 rfl) ?_
      refine lv_imul (pc := 15) C0.1 C0.2.1 dX7_copies_15 ?_
      refine lv_iload_n (pc := 16) C0.1 C0.2.1 dX7_copies_16 rfl (lv_at hl 0 rfl) ?_
      refine lv_iadd (pc := 17) C0.1 C0.2.1 dX7_copies_17 ?_
      refine lv_aload_n (pc := 18) C0.1 C0.2.1 dX7_copies_18 rfl (lv_at hl 1 rfl) ?_
      refine x_get (pc := 19) (v := .ref (ad 1)) C0 hK hw (by decide) ly_m0 rfl inX7 0 (by decide) wf_X7_7 rfl rfl dX7_copies_19 ?_
      refine lv_bipush (v := 125) (pc := 22) C0.1 C0.2.1 dX7_copies_22 (by decide) ?_
      refine lv_iload_n (pc := 24) C0.1 C0.2.1 dX7_copies_24 rfl (lv_at hl 2 rfl) ?_
      refine lv_imul (pc := 25) C0.1 C0.2.1 dX7_copies_25 ?_
      refine lv_iload_n (pc := 26) C0.1 C0.2.1 dX7_copies_26 rfl (lv_at hl 0 rfl) ?_
      refine lv_iadd (pc := 27) C0.1 C0.2.1 dX7_copies_27 ?_
      obtain ⟨hi, hf⟩ := gd_e hf
      refine x_iald (pc := 28) C0 hK hw (by decide) ly_m1 hi dX7_copies_28 ?_
      obtain ⟨hi, hf⟩ := gd_e hf
      obtain ⟨u2, hu, hf⟩ := nm_f hf
      refine x_iast (pc := 29) hI C0 hK hw (by decide) ly_m1 hi hu dX7_copies_29 (fun H locs hw => ?_)
      refine lv_iinc (pc := 30) (v := a1.1 + 1) (lv' := [(3, .int (a1.1 + 1)), (0, .ref (ad 0)), (1, .int v1), (2, .int v2)]) C0.1 C0.2.1 dX7_copies_30 hl (k := 0) rfl rfl (by decide) rfl (fun ls hl => ?_)
      refine lv_goto (tgt := 2) (pc := 33) C0.1 C0.2.1 dX7_copies_33 (by decide) ?_
      exact hG _ (Option.some.inj hf).symm H locs ls hw (lv_sub hl [0, 1, 2, 3] rfl)
  · skip
    exact x_vret (pc := 36) C0 hK hk hr hw (Option.some.inj hf) dX7_copies_36
def wX7_records : List Cond := .code yX7_records cX7_records 2 none :: lwT
def rX7_records : Room := { frames := 1, cells := 0, slots := 0, locals := 23 }
set_option maxRecDepth 100000 in
set_option maxHeartbeats 4000000 in
theorem kX7_records (l : Launch) (D : va_G) (y : Nat → ClassId) (ad : Nat → Nat) (hI : XI ad 8)  (u : S) {o : S} (hf : fX7_records  u = some o) : Met l yX7_records wX7_records rX7_records (va_Pc [.ref (ad 0)] (XW D y ad LM 8 u)) (XQv D y ad LM 8 o) 0 0 (XA ad 8) := by
  refine x_met (bytes := cX7_records) (maxL := 2) (ret := none) (own := RX7) (by decide) rfl rfl (Nat.le_of_ble_eq_true rfl) (fun p e s m below meth c ls C0 hK hk hr hw hl => ?_)
  have hl : lv_has ls 2 [(0, .ref (ad 0))] := hl
  unfold fX7_records at hf
  refine lv_aload_n (pc := 0) C0.1 C0.2.1 dX7_records_0 rfl (lv_at hl 0 rfl) ?_
  refine x_get (pc := 1) (v := .int (u.1 0 1)) C0 hK hw (by decide) ly_m0 rfl inX7 1 (by decide) wf_X7_31 rfl rfl dX7_records_1 ?_
  refine lv_bipush (v := 8) (pc := 4) C0.1 C0.2.1 dX7_records_4 (by decide) ?_
  refine lv_icmp_ne (tgt := 41) (pc := 6) C0.1 C0.2.1 dX7_records_6 (by decide) (fun hc => ?_) (fun hc => ?_)
  · have hf := if_f hf hc
    refine lv_aload_n (pc := 41) C0.1 C0.2.1 dX7_records_41 rfl (lv_at hl 0 rfl) ?_
    refine lv_dup (pc := 42) C0.1 C0.2.1 dX7_records_42 rfl ?_
    refine x_get (pc := 43) (v := .int (u.1 0 1)) C0 hK hw (by decide) ly_m0 rfl inX7 1 (by decide) wf_X7_31 rfl rfl dX7_records_43 ?_
    refine lv_iconst (v := 1) (pc := 46) C0.1 C0.2.1 dX7_records_46 (by decide) ?_
    refine lv_iadd (pc := 47) C0.1 C0.2.1 dX7_records_47 ?_
    obtain ⟨u1, hu, hf⟩ := nm_f hf
    refine x_put (pc := 48) hI C0 hK hw (by decide) ly_m0 rfl inX7 tyX7_ok nmX7 1 (by decide) wf_X7_31 rfl rfl rfl hu rfl rfl dX7_records_48 (fun H locs hw => ?_)
    refine lv_aload_n (pc := 51) C0.1 C0.2.1 dX7_records_51 rfl (lv_at hl 0 rfl) ?_
    refine lv_iconst (v := 0) (pc := 52) C0.1 C0.2.1 dX7_records_52 (by decide) ?_
    refine lv_aload_n (pc := 53) C0.1 C0.2.1 dX7_records_53 rfl (lv_at hl 0 rfl) ?_
    refine x_get (pc := 54) (v := .int (u1.1 0 1)) C0 hK hw (by decide) ly_m0 rfl inX7 1 (by decide) wf_X7_31 rfl rfl dX7_records_54 ?_
    obtain ⟨q2, hq2, hf⟩ := bd_e hf
    refine x_backv (pc := 57) hw (x_runV (pc := 57) (As := [.int 0, .int (u1.1 0 1)]) (rest := []) C0 hK hw hl.1 ⟨Nat.zero_le _, Nat.zero_le _⟩ (kX7_copies l D y ad hI 0 (u1.1 0 1) u1 hq2) (by decide) ly_m0 rfl rfl wc_X7_copies wm_X7_35 wi_X7_copies ws_X7_copies wn_X7 ⟨rfl, rfl⟩ hd_X7_copies rfl ⟨Nat.le_of_ble_eq_true rfl, Nat.le_of_ble_eq_true rfl⟩ (Nat.le_of_ble_eq_true rfl) dX7_records_57) (fun H locs hw => ?_)
    exact x_vret (pc := 60) C0 hK hk hr hw (Option.some.inj hf) dX7_records_60
  · have hf := if_t hf hc
    refine lv_iconst (v := 1) (pc := 9) C0.1 C0.2.1 dX7_records_9 (by decide) ?_
    refine lv_istore_n (pc := 10) (lv' := [(1, .int 1), (0, .ref (ad 0))]) C0.1 C0.2.1 dX7_records_10 rfl hl (by decide) rfl (fun ls hl => ?_)
    obtain ⟨e3, he3, hf⟩ := bd_e hf
    refine X_loop (pc := 11) (xpc := 31) (fu := fun a1 => a1.2) (fl := fun a1 => [(1, .int a1.1), (0, .ref (ad 0))]) (fun a1 r hf hE hG H locs ls hw hl => ?_) he3 (fun H locs ls hw hl => ?_) hw hl
    · unfold gX7_records_11 at hf
      refine lv_iload_n (pc := 11) C0.1 C0.2.1 dX7_records_11 rfl (lv_at hl 0 rfl) ?_
      refine lv_bipush (v := 8) (pc := 12) C0.1 C0.2.1 dX7_records_12 (by decide) ?_
      refine lv_icmp_ge (tgt := 31) (pc := 14) C0.1 C0.2.1 dX7_records_14 (by decide) (fun hc => ?_) (fun hc => ?_)
      · have hf := if_t hf hc
        exact hE _ (Option.some.inj hf).symm H locs ls hw (lv_sub hl [0, 1] rfl)
      · have hf := if_f hf hc
        refine lv_aload_n (pc := 17) C0.1 C0.2.1 dX7_records_17 rfl (lv_at hl 1 rfl) ?_
        refine lv_iload_n (pc := 18) C0.1 C0.2.1 dX7_records_18 rfl (lv_at hl 0 rfl) ?_
        refine lv_iconst (v := 1) (pc := 19) C0.1 C0.2.1 dX7_records_19 (by decide) ?_
        refine lv_iadd (pc := 20) C0.1 C0.2.1 dX7_records_20 ?_
        refine lv_iload_n (pc := 21) C0.1 C0.2.1 dX7_records_21 rfl (lv_at hl 0 rfl) ?_
        obtain ⟨q4, hq4, hf⟩ := bd_e hf
        refine x_backv (pc := 22) hw (x_runV (pc := 22) (As := [.int (a1.1 + 1), .int a1.1]) (rest := []) C0 hK hw hl.1 ⟨Nat.zero_le _, Nat.zero_le _⟩ (kX7_copies l D y ad hI (a1.1 + 1) a1.1 a1.2 hq4) (by decide) ly_m0 rfl rfl wc_X7_copies wm_X7_35 wi_X7_copies ws_X7_copies wn_X7 ⟨rfl, rfl⟩ hd_X7_copies rfl ⟨Nat.le_of_ble_eq_true rfl, Nat.le_of_ble_eq_true rfl⟩ (Nat.le_of_ble_eq_true rfl) dX7_records_22) (fun H locs hw => ?_)
        refine lv_iinc (pc := 25) (v := a1.1 + 1) (lv' := [(1, .int (a1.1 + 1)), (0, .ref (ad 0))]) C0.1 C0.2.1 dX7_records_25 hl (k := 0) rfl rfl (by decide) rfl (fun ls hl => ?_)
        refine lv_goto (tgt := 11) (pc := 28) C0.1 C0.2.1 dX7_records_28 (by decide) ?_
        exact hG _ (Option.some.inj hf).symm H locs ls hw (lv_sub hl [0, 1] rfl)
    · skip
      refine lv_aload_n (pc := 31) C0.1 C0.2.1 dX7_records_31 rfl (lv_at hl 1 rfl) ?_
      refine lv_dup (pc := 32) C0.1 C0.2.1 dX7_records_32 rfl ?_
      refine x_get (pc := 33) (v := .int (e3.2.1 0 1)) C0 hK hw (by decide) ly_m0 rfl inX7 1 (by decide) wf_X7_31 rfl rfl dX7_records_33 ?_
      refine lv_iconst (v := 1) (pc := 36) C0.1 C0.2.1 dX7_records_36 (by decide) ?_
      refine lv_isub (pc := 37) C0.1 C0.2.1 dX7_records_37 ?_
      obtain ⟨u5, hu, hf⟩ := nm_f hf
      refine x_put (pc := 38) hI C0 hK hw (by decide) ly_m0 rfl inX7 tyX7_ok nmX7 1 (by decide) wf_X7_31 rfl rfl rfl hu rfl rfl dX7_records_38 (fun H locs hw => ?_)
      refine lv_aload_n (pc := 41) C0.1 C0.2.1 dX7_records_41 rfl (lv_at hl 1 rfl) ?_
      refine lv_dup (pc := 42) C0.1 C0.2.1 dX7_records_42 rfl ?_
      refine x_get (pc := 43) (v := .int (u5.1 0 1)) C0 hK hw (by decide) ly_m0 rfl inX7 1 (by decide) wf_X7_31 rfl rfl dX7_records_43 ?_
      refine lv_iconst (v := 1) (pc := 46) C0.1 C0.2.1 dX7_records_46 (by decide) ?_
      refine lv_iadd (pc := 47) C0.1 C0.2.1 dX7_records_47 ?_
      obtain ⟨u6, hu, hf⟩ := nm_f hf
      refine x_put (pc := 48) hI C0 hK hw (by decide) ly_m0 rfl inX7 tyX7_ok nmX7 1 (by decide) wf_X7_31 rfl rfl rfl hu rfl rfl dX7_records_48 (fun H locs hw => ?_)
      refine lv_aload_n (pc := 51) C0.1 C0.2.1 dX7_records_51 rfl (lv_at hl 1 rfl) ?_
      refine lv_iconst (v := 0) (pc := 52) C0.1 C0.2.1 dX7_records_52 (by decide) ?_
      refine lv_aload_n (pc := 53) C0.1 C0.2.1 dX7_records_53 rfl (lv_at hl 1 rfl) ?_
      refine x_get (pc := 54) (v := .int (u6.1 0 1)) C0 hK hw (by decide) ly_m0 rfl inX7 1 (by decide) wf_X7_31 rfl rfl dX7_records_54 ?_
      obtain ⟨q7, hq7, hf⟩ := bd_e hf
      refine x_backv (pc := 57) hw (x_runV (pc := 57) (As := [.int 0, .int (u6.1 0 1)]) (rest := []) C0 hK hw hl.1 ⟨Nat.zero_le _, Nat.zero_le _⟩ (kX7_copies l D y ad hI 0 (u6.1 0 1) u6 hq7) (by decide) ly_m0 rfl rfl wc_X7_copies wm_X7_35 wi_X7_copies ws_X7_copies wn_X7 ⟨rfl, rfl⟩ hd_X7_copies rfl ⟨Nat.le_of_ble_eq_true rfl, Nat.le_of_ble_eq_true rfl⟩ (Nat.le_of_ble_eq_true rfl) dX7_records_57) (fun H locs hw => ?_)
      exact x_vret (pc := 60) C0 hK hk hr hw (Option.some.inj hf) dX7_records_60
def wX7_undo : List Cond := .code yX7_undo cX7_undo 1 (some .int) :: lwT
def rX7_undo : Room := { frames := 1, cells := 0, slots := 0, locals := 23 }
set_option maxRecDepth 100000 in
set_option maxHeartbeats 4000000 in
theorem kX7_undo (l : Launch) (D : va_G) (y : Nat → ClassId) (ad : Nat → Nat) (hI : XI ad 8)  (u : S) {o : Int32 × S} (hf : fX7_undo  u = some o) : Met l yX7_undo wX7_undo rX7_undo (va_Pc [.ref (ad 0)] (XW D y ad LM 8 u)) (XQi D y ad LM 8 o) 0 0 (XA ad 8) := by
  refine x_met (bytes := cX7_undo) (maxL := 1) (ret := (some .int)) (own := RX7) (by decide) rfl rfl (Nat.le_of_ble_eq_true rfl) (fun p e s m below meth c ls C0 hK hk hr hw hl => ?_)
  have hl : lv_has ls 1 [(0, .ref (ad 0))] := hl
  unfold fX7_undo at hf
  refine lv_aload_n (pc := 0) C0.1 C0.2.1 dX7_undo_0 rfl (lv_at hl 0 rfl) ?_
  refine x_get (pc := 1) (v := .int (u.1 0 1)) C0 hK hw (by decide) ly_m0 rfl inX7 1 (by decide) wf_X7_31 rfl rfl dX7_undo_1 ?_
  refine lv_if_ne (tgt := 10) (pc := 4) C0.1 C0.2.1 dX7_undo_4 (by decide) (fun hc => ?_) (fun hc => ?_)
  · have hf := if_f hf hc
    refine lv_aload_n (pc := 10) C0.1 C0.2.1 dX7_undo_10 rfl (lv_at hl 0 rfl) ?_
    refine lv_aload_n (pc := 11) C0.1 C0.2.1 dX7_undo_11 rfl (lv_at hl 0 rfl) ?_
    refine x_get (pc := 12) (v := .int (u.1 0 1)) C0 hK hw (by decide) ly_m0 rfl inX7 1 (by decide) wf_X7_31 rfl rfl dX7_undo_12 ?_
    refine lv_iconst (v := 0) (pc := 15) C0.1 C0.2.1 dX7_undo_15 (by decide) ?_
    obtain ⟨q1, hq1, hf⟩ := bd_e hf
    refine x_backv (pc := 16) hw (x_runV (pc := 16) (As := [.int (u.1 0 1), .int 0]) (rest := []) C0 hK hw hl.1 ⟨Nat.zero_le _, Nat.zero_le _⟩ (kX7_copies l D y ad hI (u.1 0 1) 0 u hq1) (by decide) ly_m0 rfl rfl wc_X7_copies wm_X7_35 wi_X7_copies ws_X7_copies wn_X7 ⟨rfl, rfl⟩ hd_X7_copies rfl ⟨Nat.le_of_ble_eq_true rfl, Nat.le_of_ble_eq_true rfl⟩ (Nat.le_of_ble_eq_true rfl) dX7_undo_16) (fun H locs hw => ?_)
    refine lv_aload_n (pc := 19) C0.1 C0.2.1 dX7_undo_19 rfl (lv_at hl 0 rfl) ?_
    refine lv_dup (pc := 20) C0.1 C0.2.1 dX7_undo_20 rfl ?_
    refine x_get (pc := 21) (v := .int (q1.1 0 1)) C0 hK hw (by decide) ly_m0 rfl inX7 1 (by decide) wf_X7_31 rfl rfl dX7_undo_21 ?_
    refine lv_iconst (v := 1) (pc := 24) C0.1 C0.2.1 dX7_undo_24 (by decide) ?_
    refine lv_isub (pc := 25) C0.1 C0.2.1 dX7_undo_25 ?_
    obtain ⟨u2, hu, hf⟩ := nm_f hf
    refine x_put (pc := 26) hI C0 hK hw (by decide) ly_m0 rfl inX7 tyX7_ok nmX7 1 (by decide) wf_X7_31 rfl rfl rfl hu rfl rfl dX7_undo_26 (fun H locs hw => ?_)
    refine lv_aload_n (pc := 29) C0.1 C0.2.1 dX7_undo_29 rfl (lv_at hl 0 rfl) ?_
    refine x_get (pc := 30) (v := .int (u2.1 0 1)) C0 hK hw (by decide) ly_m0 rfl inX7 1 (by decide) wf_X7_31 rfl rfl dX7_undo_30 ?_
    exact x_iret (pc := 33) C0 hK hk hr hw (Option.some.inj hf) dX7_undo_33
  · have hf := if_t hf hc
    refine lv_bipush (v := (-2)) (pc := 7) C0.1 C0.2.1 dX7_undo_7 (by decide) ?_
    exact x_iret (pc := 9) C0 hK hk hr hw (Option.some.inj hf) dX7_undo_9
def wX7_of : List Cond := .code yX7_of cX7_of 3 (some .int) :: lwT
def rX7_of : Room := { frames := 0, cells := 0, slots := 0, locals := 0 }
set_option maxRecDepth 100000 in
set_option maxHeartbeats 4000000 in
theorem kX7_of (l : Launch) (D : va_G) (y : Nat → ClassId) (ad : Nat → Nat) (hI : XI ad 8) (v1 : Int32) (v2 : Int32) (u : S) {o : Int32} (hf : fX7_of v1 v2 u = some o) : Met l yX7_of wX7_of rX7_of (va_Pc [.ref (ad 0), .int v1, .int v2] (XW D y ad LM 8 u)) (XQi D y ad LM 8 (o, u)) 0 0 (XA ad 8) := by
  refine x_met (bytes := cX7_of) (maxL := 3) (ret := (some .int)) (own := RX7) (by decide) rfl rfl (Nat.le_of_ble_eq_true rfl) (fun p e s m below meth c ls C0 hK hk hr hw hl => ?_)
  have hl : lv_has ls 3 [(0, .ref (ad 0)), (1, .int v1), (2, .int v2)] := hl
  unfold fX7_of at hf
  refine lv_aload_n (pc := 0) C0.1 C0.2.1 dX7_of_0 rfl (lv_at hl 0 rfl) ?_
  refine x_get (pc := 1) (v := .ref (ad 1)) C0 hK hw (by decide) ly_m0 rfl inX7 0 (by decide) wf_X7_7 rfl rfl dX7_of_1 ?_
  refine lv_iconst (v := 5) (pc := 4) C0.1 C0.2.1 dX7_of_4 (by decide) ?_
  refine lv_bipush (v := 10) (pc := 5) C0.1 C0.2.1 dX7_of_5 (by decide) ?_
  refine lv_iload_n (pc := 7) C0.1 C0.2.1 dX7_of_7 rfl (lv_at hl 1 rfl) ?_
  refine lv_imul (pc := 8) C0.1 C0.2.1 dX7_of_8 ?_
  refine lv_iadd (pc := 9) C0.1 C0.2.1 dX7_of_9 ?_
  refine lv_iload_n (pc := 10) C0.1 C0.2.1 dX7_of_10 rfl (lv_at hl 2 rfl) ?_
  refine lv_iadd (pc := 11) C0.1 C0.2.1 dX7_of_11 ?_
  obtain ⟨hi, hf⟩ := gd_e hf
  refine x_iald (pc := 12) C0 hK hw (by decide) ly_m1 hi dX7_of_12 ?_
  exact x_iret (pc := 13) C0 hK hk hr hw (congrArg (fun z => (z, u)) (Option.some.inj hf)) dX7_of_13
def wX7_sets : List Cond := .code yX7_sets cX7_sets 4 none :: lwT
def rX7_sets : Room := { frames := 0, cells := 0, slots := 0, locals := 0 }
set_option maxRecDepth 100000 in
set_option maxHeartbeats 4000000 in
theorem kX7_sets (l : Launch) (D : va_G) (y : Nat → ClassId) (ad : Nat → Nat) (hI : XI ad 8) (v1 : Int32) (v2 : Int32) (v3 : Int32) (u : S) {o : S} (hf : fX7_sets v1 v2 v3 u = some o) : Met l yX7_sets wX7_sets rX7_sets (va_Pc [.ref (ad 0), .int v1, .int v2, .int v3] (XW D y ad LM 8 u)) (XQv D y ad LM 8 o) 0 0 (XA ad 8) := by
  refine x_met (bytes := cX7_sets) (maxL := 4) (ret := none) (own := RX7) (by decide) rfl rfl (Nat.le_of_ble_eq_true rfl) (fun p e s m below meth c ls C0 hK hk hr hw hl => ?_)
  have hl : lv_has ls 4 [(0, .ref (ad 0)), (1, .int v1), (2, .int v2), (3, .int v3)] := hl
  unfold fX7_sets at hf
  refine lv_aload_n (pc := 0) C0.1 C0.2.1 dX7_sets_0 rfl (lv_at hl 0 rfl) ?_
  refine x_get (pc := 1) (v := .ref (ad 1)) C0 hK hw (by decide) ly_m0 rfl inX7 0 (by decide) wf_X7_7 rfl rfl dX7_sets_1 ?_
  refine lv_iconst (v := 5) (pc := 4) C0.1 C0.2.1 dX7_sets_4 (by decide) ?_
  refine lv_bipush (v := 10) (pc := 5) C0.1 C0.2.1 dX7_sets_5 (by decide) ?_
  refine lv_iload_n (pc := 7) C0.1 C0.2.1 dX7_sets_7 rfl (lv_at hl 1 rfl) ?_
  refine lv_imul (pc := 8) C0.1 C0.2.1 dX7_sets_8 ?_
  refine lv_iadd (pc := 9) C0.1 C0.2.1 dX7_sets_9 ?_
  refine lv_iload_n (pc := 10) C0.1 C0.2.1 dX7_sets_10 rfl (lv_at hl 2 rfl) ?_
  refine lv_iadd (pc := 11) C0.1 C0.2.1 dX7_sets_11 ?_
  refine lv_iload_n (pc := 12) C0.1 C0.2.1 dX7_sets_12 rfl (lv_at hl 3 rfl) ?_
  obtain ⟨hi, hf⟩ := gd_e hf
  obtain ⟨u1, hu, hf⟩ := nm_f hf
  refine x_iast (pc := 13) hI C0 hK hw (by decide) ly_m1 hi hu dX7_sets_13 (fun H locs hw => ?_)
  exact x_vret (pc := 14) C0 hK hk hr hw (Option.some.inj hf) dX7_sets_14
def wX7_trays : List Cond := .code yX7_trays cX7_trays 1 (some .int) :: lwT
def rX7_trays : Room := { frames := 0, cells := 0, slots := 0, locals := 0 }
set_option maxRecDepth 100000 in
set_option maxHeartbeats 4000000 in
theorem kX7_trays (l : Launch) (D : va_G) (y : Nat → ClassId) (ad : Nat → Nat) (hI : XI ad 8)  (u : S) {o : Int32} (hf : fX7_trays  u = some o) : Met l yX7_trays wX7_trays rX7_trays (va_Pc [.ref (ad 0)] (XW D y ad LM 8 u)) (XQi D y ad LM 8 (o, u)) 0 0 (XA ad 8) := by
  refine x_met (bytes := cX7_trays) (maxL := 1) (ret := (some .int)) (own := RX7) (by decide) rfl rfl (Nat.le_of_ble_eq_true rfl) (fun p e s m below meth c ls C0 hK hk hr hw hl => ?_)
  have hl : lv_has ls 1 [(0, .ref (ad 0))] := hl
  unfold fX7_trays at hf
  refine lv_aload_n (pc := 0) C0.1 C0.2.1 dX7_trays_0 rfl (lv_at hl 0 rfl) ?_
  refine x_get (pc := 1) (v := .ref (ad 1)) C0 hK hw (by decide) ly_m0 rfl inX7 0 (by decide) wf_X7_7 rfl rfl dX7_trays_1 ?_
  refine lv_iconst (v := 4) (pc := 4) C0.1 C0.2.1 dX7_trays_4 (by decide) ?_
  obtain ⟨hi, hf⟩ := gd_e hf
  refine x_iald (pc := 5) C0 hK hw (by decide) ly_m1 hi dX7_trays_5 ?_
  exact x_iret (pc := 6) C0 hK hk hr hw (congrArg (fun z => (z, u)) (Option.some.inj hf)) dX7_trays_6
def wX7_isTray : List Cond := .code yX7_isTray cX7_isTray 2 (some .boolean) :: lwT
def rX7_isTray : Room := { frames := 1, cells := 0, slots := 0, locals := 22 }
set_option maxRecDepth 100000 in
set_option maxHeartbeats 4000000 in
theorem kX7_isTray (l : Launch) (D : va_G) (y : Nat → ClassId) (ad : Nat → Nat) (hI : XI ad 8) (v1 : Int32) (u : S) {o : Int32} (hf : fX7_isTray v1 u = some o) : Met l yX7_isTray wX7_isTray rX7_isTray (va_Pc [.ref (ad 0), .int v1] (XW D y ad LM 8 u)) (XQi D y ad LM 8 (o, u)) 0 0 (XA ad 8) := by
  refine x_met (bytes := cX7_isTray) (maxL := 2) (ret := (some .boolean)) (own := RX7) (by decide) rfl rfl (Nat.le_of_ble_eq_true rfl) (fun p e s m below meth c ls C0 hK hk hr hw hl => ?_)
  have hl : lv_has ls 2 [(0, .ref (ad 0)), (1, .int v1)] := hl
  unfold fX7_isTray at hf
  refine lv_iload_n (pc := 0) C0.1 C0.2.1 dX7_isTray_0 rfl (lv_at hl 1 rfl) ?_
  refine lv_iconst (v := 0) (pc := 1) C0.1 C0.2.1 dX7_isTray_1 (by decide) ?_
  refine lv_aload_n (pc := 2) C0.1 C0.2.1 dX7_isTray_2 rfl (lv_at hl 0 rfl) ?_
  obtain ⟨q1, hq1, hf⟩ := bd_e hf
  refine x_backp (pc := 3) hw (x_runV (pc := 3) (As := []) (rest := [.int 0, .int v1]) C0 hK hw hl.1 ⟨Nat.zero_le _, Nat.zero_le _⟩ (kX7_trays l D y ad hI  u hq1) (by decide) ly_m0 rfl rfl wc_X7_trays wm_X7_39 wi_X7_trays ws_X7_trays wn_X7 ⟨rfl, rfl⟩ hd_X7_trays rfl ⟨Nat.le_of_ble_eq_true rfl, Nat.le_of_ble_eq_true rfl⟩ (Nat.le_of_ble_eq_true rfl) dX7_isTray_3) (fun H locs hw => ?_)
  refine lv_iconst (v := 1) (pc := 6) C0.1 C0.2.1 dX7_isTray_6 (by decide) ?_
  refine lv_isub (pc := 7) C0.1 C0.2.1 dX7_isTray_7 ?_
  obtain ⟨q2, hq2, hf⟩ := bd_e hf
  refine x_backp (pc := 8) hw (x_runS (pc := 8) (As := [.int v1, .int 0, .int (q1 - 1)]) (rest := []) C0 hK hw hl.1 ⟨Nat.zero_le _, Nat.zero_le _⟩ (kX7_in l D y ad hI v1 0 (q1 - 1) u hq2) rfl wc_X7_in wm_X7_43 wt_X7_in wn_X7 ⟨rfl, rfl⟩ hd_X7_in rfl ⟨Nat.le_of_ble_eq_true rfl, Nat.le_of_ble_eq_true rfl⟩ (Nat.le_of_ble_eq_true rfl) dX7_isTray_8) (fun H locs hw => ?_)
  obtain ⟨hz, hf⟩ := gd_e hf
  exact x_zret (pc := 11) C0 hK hk hr hw hz (congrArg (fun z => (z, u)) (Option.some.inj hf)) dX7_isTray_11
def wX7_isIn : List Cond := .code yX7_isIn cX7_isIn 2 (some .boolean) :: lwT
def rX7_isIn : Room := { frames := 1, cells := 0, slots := 0, locals := 22 }
set_option maxRecDepth 100000 in
set_option maxHeartbeats 4000000 in
theorem kX7_isIn (l : Launch) (D : va_G) (y : Nat → ClassId) (ad : Nat → Nat) (hI : XI ad 8) (v1 : Int32) (u : S) {o : Int32} (hf : fX7_isIn v1 u = some o) : Met l yX7_isIn wX7_isIn rX7_isIn (va_Pc [.ref (ad 0), .int v1] (XW D y ad LM 8 u)) (XQi D y ad LM 8 (o, u)) 0 0 (XA ad 8) := by
  refine x_met (bytes := cX7_isIn) (maxL := 2) (ret := (some .boolean)) (own := RX7) (by decide) rfl rfl (Nat.le_of_ble_eq_true rfl) (fun p e s m below meth c ls C0 hK hk hr hw hl => ?_)
  have hl : lv_has ls 2 [(0, .ref (ad 0)), (1, .int v1)] := hl
  unfold fX7_isIn at hf
  refine lv_aload_n (pc := 0) C0.1 C0.2.1 dX7_isIn_0 rfl (lv_at hl 0 rfl) ?_
  refine lv_iload_n (pc := 1) C0.1 C0.2.1 dX7_isIn_1 rfl (lv_at hl 1 rfl) ?_
  refine lv_iconst (v := 5) (pc := 2) C0.1 C0.2.1 dX7_isIn_2 (by decide) ?_
  obtain ⟨q1, hq1, hf⟩ := bd_e hf
  refine x_backp (pc := 3) hw (x_runV (pc := 3) (As := [.int v1, .int 5]) (rest := []) C0 hK hw hl.1 ⟨Nat.zero_le _, Nat.zero_le _⟩ (kX7_of l D y ad hI v1 5 u hq1) (by decide) ly_m0 rfl rfl wc_X7_of wm_X7_47 wi_X7_of ws_X7_of wn_X7 ⟨rfl, rfl⟩ hd_X7_of rfl ⟨Nat.le_of_ble_eq_true rfl, Nat.le_of_ble_eq_true rfl⟩ (Nat.le_of_ble_eq_true rfl) dX7_isIn_3) (fun H locs hw => ?_)
  refine lv_iconst (v := 1) (pc := 6) C0.1 C0.2.1 dX7_isIn_6 (by decide) ?_
  refine lv_icmp_ne (tgt := 14) (pc := 7) C0.1 C0.2.1 dX7_isIn_7 (by decide) (fun hc => ?_) (fun hc => ?_)
  · have hf := if_f hf hc
    refine lv_iconst (v := 0) (pc := 14) C0.1 C0.2.1 dX7_isIn_14 (by decide) ?_
    exact x_zret (pc := 15) C0 hK hk hr hw rfl (congrArg (fun z => (z, u)) (Option.some.inj hf)) dX7_isIn_15
  · have hf := if_t hf hc
    refine lv_iconst (v := 1) (pc := 10) C0.1 C0.2.1 dX7_isIn_10 (by decide) ?_
    refine lv_goto (tgt := 15) (pc := 11) C0.1 C0.2.1 dX7_isIn_11 (by decide) ?_
    exact x_zret (pc := 15) C0 hK hk hr hw rfl (congrArg (fun z => (z, u)) (Option.some.inj hf)) dX7_isIn_15
def wX7_high : List Cond := .code yX7_high cX7_high 2 (some .int) :: lwT
def rX7_high : Room := { frames := 1, cells := 0, slots := 0, locals := 22 }
set_option maxRecDepth 100000 in
set_option maxHeartbeats 4000000 in
theorem kX7_high (l : Launch) (D : va_G) (y : Nat → ClassId) (ad : Nat → Nat) (hI : XI ad 8) (v1 : Int32) (u : S) {o : Int32} (hf : fX7_high v1 u = some o) : Met l yX7_high wX7_high rX7_high (va_Pc [.ref (ad 0), .int v1] (XW D y ad LM 8 u)) (XQi D y ad LM 8 (o, u)) 0 0 (XA ad 8) := by
  refine x_met (bytes := cX7_high) (maxL := 2) (ret := (some .int)) (own := RX7) (by decide) rfl rfl (Nat.le_of_ble_eq_true rfl) (fun p e s m below meth c ls C0 hK hk hr hw hl => ?_)
  have hl : lv_has ls 2 [(0, .ref (ad 0)), (1, .int v1)] := hl
  unfold fX7_high at hf
  refine lv_aload_n (pc := 0) C0.1 C0.2.1 dX7_high_0 rfl (lv_at hl 0 rfl) ?_
  refine lv_iload_n (pc := 1) C0.1 C0.2.1 dX7_high_1 rfl (lv_at hl 1 rfl) ?_
  refine lv_iconst (v := 2) (pc := 2) C0.1 C0.2.1 dX7_high_2 (by decide) ?_
  obtain ⟨q1, hq1, hf⟩ := bd_e hf
  refine x_backp (pc := 3) hw (x_runV (pc := 3) (As := [.int v1, .int 2]) (rest := []) C0 hK hw hl.1 ⟨Nat.zero_le _, Nat.zero_le _⟩ (kX7_of l D y ad hI v1 2 u hq1) (by decide) ly_m0 rfl rfl wc_X7_of wm_X7_47 wi_X7_of ws_X7_of wn_X7 ⟨rfl, rfl⟩ hd_X7_of rfl ⟨Nat.le_of_ble_eq_true rfl, Nat.le_of_ble_eq_true rfl⟩ (Nat.le_of_ble_eq_true rfl) dX7_high_3) (fun H locs hw => ?_)
  refine lv_aload_n (pc := 6) C0.1 C0.2.1 dX7_high_6 rfl (lv_at hl 0 rfl) ?_
  refine lv_iload_n (pc := 7) C0.1 C0.2.1 dX7_high_7 rfl (lv_at hl 1 rfl) ?_
  refine lv_iconst (v := 4) (pc := 8) C0.1 C0.2.1 dX7_high_8 (by decide) ?_
  obtain ⟨q2, hq2, hf⟩ := bd_e hf
  refine x_backp (pc := 9) hw (x_runV (pc := 9) (As := [.int v1, .int 4]) (rest := [.int q1]) C0 hK hw hl.1 ⟨Nat.zero_le _, Nat.zero_le _⟩ (kX7_of l D y ad hI v1 4 u hq2) (by decide) ly_m0 rfl rfl wc_X7_of wm_X7_47 wi_X7_of ws_X7_of wn_X7 ⟨rfl, rfl⟩ hd_X7_of rfl ⟨Nat.le_of_ble_eq_true rfl, Nat.le_of_ble_eq_true rfl⟩ (Nat.le_of_ble_eq_true rfl) dX7_high_9) (fun H locs hw => ?_)
  refine lv_iadd (pc := 12) C0.1 C0.2.1 dX7_high_12 ?_
  exact x_iret (pc := 13) C0 hK hk hr hw (congrArg (fun z => (z, u)) (Option.some.inj hf)) dX7_high_13
def wX7_top : List Cond := .code yX7_top cX7_top 2 (some .int) :: lwT
def rX7_top : Room := { frames := 2, cells := 0, slots := 0, locals := 43 }
set_option maxRecDepth 100000 in
set_option maxHeartbeats 4000000 in
theorem kX7_top (l : Launch) (D : va_G) (y : Nat → ClassId) (ad : Nat → Nat) (hI : XI ad 8) (v1 : Int32) (u : S) {o : Int32} (hf : fX7_top v1 u = some o) : Met l yX7_top wX7_top rX7_top (va_Pc [.ref (ad 0), .int v1] (XW D y ad LM 8 u)) (XQi D y ad LM 8 (o, u)) 0 0 (XA ad 8) := by
  refine x_met (bytes := cX7_top) (maxL := 2) (ret := (some .int)) (own := RX7) (by decide) rfl rfl (Nat.le_of_ble_eq_true rfl) (fun p e s m below meth c ls C0 hK hk hr hw hl => ?_)
  have hl : lv_has ls 2 [(0, .ref (ad 0)), (1, .int v1)] := hl
  unfold fX7_top at hf
  refine lv_aload_n (pc := 0) C0.1 C0.2.1 dX7_top_0 rfl (lv_at hl 0 rfl) ?_
  refine lv_iload_n (pc := 1) C0.1 C0.2.1 dX7_top_1 rfl (lv_at hl 1 rfl) ?_
  refine lv_bipush (v := 9) (pc := 2) C0.1 C0.2.1 dX7_top_2 (by decide) ?_
  obtain ⟨q1, hq1, hf⟩ := bd_e hf
  refine x_backp (pc := 4) hw (x_runV (pc := 4) (As := [.int v1, .int 9]) (rest := []) C0 hK hw hl.1 ⟨Nat.zero_le _, Nat.zero_le _⟩ (kX7_of l D y ad hI v1 9 u hq1) (by decide) ly_m0 rfl rfl wc_X7_of wm_X7_47 wi_X7_of ws_X7_of wn_X7 ⟨rfl, rfl⟩ hd_X7_of rfl ⟨Nat.le_of_ble_eq_true rfl, Nat.le_of_ble_eq_true rfl⟩ (Nat.le_of_ble_eq_true rfl) dX7_top_4) (fun H locs hw => ?_)
  refine lv_aload_n (pc := 7) C0.1 C0.2.1 dX7_top_7 rfl (lv_at hl 0 rfl) ?_
  refine lv_iload_n (pc := 8) C0.1 C0.2.1 dX7_top_8 rfl (lv_at hl 1 rfl) ?_
  obtain ⟨q2, hq2, hf⟩ := bd_e hf
  refine x_backp (pc := 9) hw (x_runV (pc := 9) (As := [.int v1]) (rest := [.int q1]) C0 hK hw hl.1 ⟨Nat.zero_le _, Nat.zero_le _⟩ (kX7_high l D y ad hI v1 u hq2) (by decide) ly_m0 rfl rfl wc_X7_high wm_X7_51 wi_X7_high ws_X7_high wn_X7 ⟨rfl, rfl⟩ hd_X7_high rfl ⟨Nat.le_of_ble_eq_true rfl, Nat.le_of_ble_eq_true rfl⟩ (Nat.le_of_ble_eq_true rfl) dX7_top_9) (fun H locs hw => ?_)
  refine lv_iadd (pc := 12) C0.1 C0.2.1 dX7_top_12 ?_
  exact x_iret (pc := 13) C0 hK hk hr hw (congrArg (fun z => (z, u)) (Option.some.inj hf)) dX7_top_13
def wX7_along : List Cond := .code yX7_along cX7_along 4 (some .int) :: lwT
def rX7_along : Room := { frames := 1, cells := 0, slots := 0, locals := 22 }
set_option maxRecDepth 100000 in
set_option maxHeartbeats 4000000 in
theorem kX7_along (l : Launch) (D : va_G) (y : Nat → ClassId) (ad : Nat → Nat) (hI : XI ad 8) (v1 : Int32) (v2 : Int32) (v3 : Int32) (u : S) {o : Int32} (hf : fX7_along v1 v2 v3 u = some o) : Met l yX7_along wX7_along rX7_along (va_Pc [.ref (ad 0), .int v1, .int v2, .int v3] (XW D y ad LM 8 u)) (XQi D y ad LM 8 (o, u)) 0 0 (XA ad 8) := by
  refine x_met (bytes := cX7_along) (maxL := 4) (ret := (some .int)) (own := RX7) (by decide) rfl rfl (Nat.le_of_ble_eq_true rfl) (fun p e s m below meth c ls C0 hK hk hr hw hl => ?_)
  have hl : lv_has ls 4 [(0, .ref (ad 0)), (1, .int v1), (2, .int v2), (3, .int v3)] := hl
  unfold fX7_along at hf
  refine lv_aload_n (pc := 0) C0.1 C0.2.1 dX7_along_0 rfl (lv_at hl 0 rfl) ?_
  refine lv_iload_n (pc := 1) C0.1 C0.2.1 dX7_along_1 rfl (lv_at hl 1 rfl) ?_
  refine lv_iload_n (pc := 2) C0.1 C0.2.1 dX7_along_2 rfl (lv_at hl 2 rfl) ?_
  refine lv_iload_n (pc := 3) C0.1 C0.2.1 dX7_along_3 rfl (lv_at hl 3 rfl) ?_
  refine lv_icmp_eq (tgt := 11) (pc := 4) C0.1 C0.2.1 dX7_along_4 (by decide) (fun hc => ?_) (fun hc => ?_)
  · have hf := if_t hf hc
    refine lv_iconst (v := 0) (pc := 11) C0.1 C0.2.1 dX7_along_11 (by decide) ?_
    obtain ⟨q1, hq1, hf⟩ := bd_e hf
    refine x_backp (pc := 12) hw (x_runV (pc := 12) (As := [.int v1, .int 0]) (rest := []) C0 hK hw hl.1 ⟨Nat.zero_le _, Nat.zero_le _⟩ (kX7_of l D y ad hI v1 0 u hq1) (by decide) ly_m0 rfl rfl wc_X7_of wm_X7_47 wi_X7_of ws_X7_of wn_X7 ⟨rfl, rfl⟩ hd_X7_of rfl ⟨Nat.le_of_ble_eq_true rfl, Nat.le_of_ble_eq_true rfl⟩ (Nat.le_of_ble_eq_true rfl) dX7_along_12) (fun H locs hw => ?_)
    exact x_iret (pc := 15) C0 hK hk hr hw (congrArg (fun z => (z, u)) (Option.some.inj hf)) dX7_along_15
  · have hf := if_f hf hc
    refine lv_iconst (v := 1) (pc := 7) C0.1 C0.2.1 dX7_along_7 (by decide) ?_
    refine lv_goto (tgt := 12) (pc := 8) C0.1 C0.2.1 dX7_along_8 (by decide) ?_
    obtain ⟨q2, hq2, hf⟩ := bd_e hf
    refine x_backp (pc := 12) hw (x_runV (pc := 12) (As := [.int v1, .int 1]) (rest := []) C0 hK hw hl.1 ⟨Nat.zero_le _, Nat.zero_le _⟩ (kX7_of l D y ad hI v1 1 u hq2) (by decide) ly_m0 rfl rfl wc_X7_of wm_X7_47 wi_X7_of ws_X7_of wn_X7 ⟨rfl, rfl⟩ hd_X7_of rfl ⟨Nat.le_of_ble_eq_true rfl, Nat.le_of_ble_eq_true rfl⟩ (Nat.le_of_ble_eq_true rfl) dX7_along_12) (fun H locs hw => ?_)
    exact x_iret (pc := 15) C0 hK hk hr hw (congrArg (fun z => (z, u)) (Option.some.inj hf)) dX7_along_15
def wX7_spans : List Cond := .code yX7_spans cX7_spans 3 (some .int) :: lwT
def rX7_spans : Room := { frames := 2, cells := 0, slots := 0, locals := 45 }
set_option maxRecDepth 100000 in
set_option maxHeartbeats 4000000 in
theorem kX7_spans (l : Launch) (D : va_G) (y : Nat → ClassId) (ad : Nat → Nat) (hI : XI ad 8) (v1 : Int32) (v2 : Int32) (u : S) {o : Int32} (hf : fX7_spans v1 v2 u = some o) : Met l yX7_spans wX7_spans rX7_spans (va_Pc [.ref (ad 0), .int v1, .int v2] (XW D y ad LM 8 u)) (XQi D y ad LM 8 (o, u)) 0 0 (XA ad 8) := by
  refine x_met (bytes := cX7_spans) (maxL := 3) (ret := (some .int)) (own := RX7) (by decide) rfl rfl (Nat.le_of_ble_eq_true rfl) (fun p e s m below meth c ls C0 hK hk hr hw hl => ?_)
  have hl : lv_has ls 3 [(0, .ref (ad 0)), (1, .int v1), (2, .int v2)] := hl
  unfold fX7_spans at hf
  refine lv_aload_n (pc := 0) C0.1 C0.2.1 dX7_spans_0 rfl (lv_at hl 0 rfl) ?_
  refine lv_iload_n (pc := 1) C0.1 C0.2.1 dX7_spans_1 rfl (lv_at hl 1 rfl) ?_
  refine lv_iload_n (pc := 2) C0.1 C0.2.1 dX7_spans_2 rfl (lv_at hl 2 rfl) ?_
  refine lv_aload_n (pc := 3) C0.1 C0.2.1 dX7_spans_3 rfl (lv_at hl 0 rfl) ?_
  refine lv_iload_n (pc := 4) C0.1 C0.2.1 dX7_spans_4 rfl (lv_at hl 1 rfl) ?_
  refine lv_bipush (v := 6) (pc := 5) C0.1 C0.2.1 dX7_spans_5 (by decide) ?_
  obtain ⟨q1, hq1, hf⟩ := bd_e hf
  refine x_backp (pc := 7) hw (x_runV (pc := 7) (As := [.int v1, .int 6]) (rest := [.int v2, .int v1, .ref (ad 0)]) C0 hK hw hl.1 ⟨Nat.zero_le _, Nat.zero_le _⟩ (kX7_of l D y ad hI v1 6 u hq1) (by decide) ly_m0 rfl rfl wc_X7_of wm_X7_47 wi_X7_of ws_X7_of wn_X7 ⟨rfl, rfl⟩ hd_X7_of rfl ⟨Nat.le_of_ble_eq_true rfl, Nat.le_of_ble_eq_true rfl⟩ (Nat.le_of_ble_eq_true rfl) dX7_spans_7) (fun H locs hw => ?_)
  refine lv_iconst (v := 1) (pc := 10) C0.1 C0.2.1 dX7_spans_10 (by decide) ?_
  refine lv_icmp_ne (tgt := 18) (pc := 11) C0.1 C0.2.1 dX7_spans_11 (by decide) (fun hc => ?_) (fun hc => ?_)
  · have hf := if_f hf hc
    refine lv_iconst (v := 0) (pc := 18) C0.1 C0.2.1 dX7_spans_18 (by decide) ?_
    obtain ⟨q2, hq2, hf⟩ := bd_e hf
    refine x_backp (pc := 19) hw (x_runV (pc := 19) (As := [.int v1, .int v2, .int 0]) (rest := []) C0 hK hw hl.1 ⟨Nat.zero_le _, Nat.zero_le _⟩ (kX7_along l D y ad hI v1 v2 0 u hq2) (by decide) ly_m0 rfl rfl wc_X7_along wm_X7_55 wi_X7_along ws_X7_along wn_X7 ⟨rfl, rfl⟩ hd_X7_along rfl ⟨Nat.le_of_ble_eq_true rfl, Nat.le_of_ble_eq_true rfl⟩ (Nat.le_of_ble_eq_true rfl) dX7_spans_19) (fun H locs hw => ?_)
    exact x_iret (pc := 22) C0 hK hk hr hw (congrArg (fun z => (z, u)) (Option.some.inj hf)) dX7_spans_22
  · have hf := if_t hf hc
    refine lv_iconst (v := 1) (pc := 14) C0.1 C0.2.1 dX7_spans_14 (by decide) ?_
    refine lv_goto (tgt := 19) (pc := 15) C0.1 C0.2.1 dX7_spans_15 (by decide) ?_
    obtain ⟨q3, hq3, hf⟩ := bd_e hf
    refine x_backp (pc := 19) hw (x_runV (pc := 19) (As := [.int v1, .int v2, .int 1]) (rest := []) C0 hK hw hl.1 ⟨Nat.zero_le _, Nat.zero_le _⟩ (kX7_along l D y ad hI v1 v2 1 u hq3) (by decide) ly_m0 rfl rfl wc_X7_along wm_X7_55 wi_X7_along ws_X7_along wn_X7 ⟨rfl, rfl⟩ hd_X7_along rfl ⟨Nat.le_of_ble_eq_true rfl, Nat.le_of_ble_eq_true rfl⟩ (Nat.le_of_ble_eq_true rfl) dX7_spans_19) (fun H locs hw => ?_)
    exact x_iret (pc := 22) C0 hK hk hr hw (congrArg (fun z => (z, u)) (Option.some.inj hf)) dX7_spans_22
def wX7_covers : List Cond := .code yX7_covers cX7_covers 4 (some .boolean) :: lwT
def rX7_covers : Room := { frames := 3, cells := 0, slots := 0, locals := 67 }
set_option maxRecDepth 100000 in
set_option maxHeartbeats 4000000 in
theorem kX7_covers (l : Launch) (D : va_G) (y : Nat → ClassId) (ad : Nat → Nat) (hI : XI ad 8) (v1 : Int32) (v2 : Int32) (v3 : Int32) (u : S) {o : Int32} (hf : fX7_covers v1 v2 v3 u = some o) : Met l yX7_covers wX7_covers rX7_covers (va_Pc [.ref (ad 0), .int v1, .int v2, .int v3] (XW D y ad LM 8 u)) (XQi D y ad LM 8 (o, u)) 0 0 (XA ad 8) := by
  refine x_met (bytes := cX7_covers) (maxL := 4) (ret := (some .boolean)) (own := RX7) (by decide) rfl rfl (Nat.le_of_ble_eq_true rfl) (fun p e s m below meth c ls C0 hK hk hr hw hl => ?_)
  have hl : lv_has ls 4 [(0, .ref (ad 0)), (1, .int v1), (2, .int v2), (3, .int v3)] := hl
  unfold fX7_covers at hf
  refine lv_iload_n (pc := 0) C0.1 C0.2.1 dX7_covers_0 rfl (lv_at hl 2 rfl) ?_
  refine lv_aload_n (pc := 1) C0.1 C0.2.1 dX7_covers_1 rfl (lv_at hl 0 rfl) ?_
  refine lv_iload_n (pc := 2) C0.1 C0.2.1 dX7_covers_2 rfl (lv_at hl 1 rfl) ?_
  refine lv_bipush (v := 7) (pc := 3) C0.1 C0.2.1 dX7_covers_3 (by decide) ?_
  obtain ⟨q1, hq1, hf⟩ := bd_e hf
  refine x_backp (pc := 5) hw (x_runV (pc := 5) (As := [.int v1, .int 7]) (rest := [.int v2]) C0 hK hw hl.1 ⟨Nat.zero_le _, Nat.zero_le _⟩ (kX7_of l D y ad hI v1 7 u hq1) (by decide) ly_m0 rfl rfl wc_X7_of wm_X7_47 wi_X7_of ws_X7_of wn_X7 ⟨rfl, rfl⟩ hd_X7_of rfl ⟨Nat.le_of_ble_eq_true rfl, Nat.le_of_ble_eq_true rfl⟩ (Nat.le_of_ble_eq_true rfl) dX7_covers_5) (fun H locs hw => ?_)
  refine lv_aload_n (pc := 8) C0.1 C0.2.1 dX7_covers_8 rfl (lv_at hl 0 rfl) ?_
  refine lv_iload_n (pc := 9) C0.1 C0.2.1 dX7_covers_9 rfl (lv_at hl 1 rfl) ?_
  refine lv_bipush (v := 7) (pc := 10) C0.1 C0.2.1 dX7_covers_10 (by decide) ?_
  obtain ⟨q2, hq2, hf⟩ := bd_e hf
  refine x_backp (pc := 12) hw (x_runV (pc := 12) (As := [.int v1, .int 7]) (rest := [.int q1, .int v2]) C0 hK hw hl.1 ⟨Nat.zero_le _, Nat.zero_le _⟩ (kX7_of l D y ad hI v1 7 u hq2) (by decide) ly_m0 rfl rfl wc_X7_of wm_X7_47 wi_X7_of ws_X7_of wn_X7 ⟨rfl, rfl⟩ hd_X7_of rfl ⟨Nat.le_of_ble_eq_true rfl, Nat.le_of_ble_eq_true rfl⟩ (Nat.le_of_ble_eq_true rfl) dX7_covers_12) (fun H locs hw => ?_)
  refine lv_aload_n (pc := 15) C0.1 C0.2.1 dX7_covers_15 rfl (lv_at hl 0 rfl) ?_
  refine lv_iload_n (pc := 16) C0.1 C0.2.1 dX7_covers_16 rfl (lv_at hl 1 rfl) ?_
  refine lv_iconst (v := 0) (pc := 17) C0.1 C0.2.1 dX7_covers_17 (by decide) ?_
  obtain ⟨q3, hq3, hf⟩ := bd_e hf
  refine x_backp (pc := 18) hw (x_runV (pc := 18) (As := [.int v1, .int 0]) (rest := [.int q2, .int q1, .int v2]) C0 hK hw hl.1 ⟨Nat.zero_le _, Nat.zero_le _⟩ (kX7_spans l D y ad hI v1 0 u hq3) (by decide) ly_m0 rfl rfl wc_X7_spans wm_X7_59 wi_X7_spans ws_X7_spans wn_X7 ⟨rfl, rfl⟩ hd_X7_spans rfl ⟨Nat.le_of_ble_eq_true rfl, Nat.le_of_ble_eq_true rfl⟩ (Nat.le_of_ble_eq_true rfl) dX7_covers_18) (fun H locs hw => ?_)
  refine lv_iadd (pc := 21) C0.1 C0.2.1 dX7_covers_21 ?_
  refine lv_iconst (v := 1) (pc := 22) C0.1 C0.2.1 dX7_covers_22 (by decide) ?_
  refine lv_isub (pc := 23) C0.1 C0.2.1 dX7_covers_23 ?_
  obtain ⟨q4, hq4, hf⟩ := bd_e hf
  refine x_backp (pc := 24) hw (x_runS (pc := 24) (As := [.int v2, .int q1, .int ((q2 + q3) - 1)]) (rest := []) C0 hK hw hl.1 ⟨Nat.zero_le _, Nat.zero_le _⟩ (kX7_in l D y ad hI v2 q1 ((q2 + q3) - 1) u hq4) rfl wc_X7_in wm_X7_43 wt_X7_in wn_X7 ⟨rfl, rfl⟩ hd_X7_in rfl ⟨Nat.le_of_ble_eq_true rfl, Nat.le_of_ble_eq_true rfl⟩ (Nat.le_of_ble_eq_true rfl) dX7_covers_24) (fun H locs hw => ?_)
  refine lv_if_eq (tgt := 64) (pc := 27) C0.1 C0.2.1 dX7_covers_27 (by decide) (fun hc => ?_) (fun hc => ?_)
  · have hf := if_t hf hc
    refine lv_iconst (v := 0) (pc := 64) C0.1 C0.2.1 dX7_covers_64 (by decide) ?_
    exact x_zret (pc := 65) C0 hK hk hr hw rfl (congrArg (fun z => (z, u)) (Option.some.inj hf)) dX7_covers_65
  · have hf := if_f hf hc
    refine lv_iload_n (pc := 30) C0.1 C0.2.1 dX7_covers_30 rfl (lv_at hl 3 rfl) ?_
    refine lv_aload_n (pc := 31) C0.1 C0.2.1 dX7_covers_31 rfl (lv_at hl 0 rfl) ?_
    refine lv_iload_n (pc := 32) C0.1 C0.2.1 dX7_covers_32 rfl (lv_at hl 1 rfl) ?_
    refine lv_bipush (v := 8) (pc := 33) C0.1 C0.2.1 dX7_covers_33 (by decide) ?_
    obtain ⟨q5, hq5, hf⟩ := bd_e hf
    refine x_backp (pc := 35) hw (x_runV (pc := 35) (As := [.int v1, .int 8]) (rest := [.int v3]) C0 hK hw hl.1 ⟨Nat.zero_le _, Nat.zero_le _⟩ (kX7_of l D y ad hI v1 8 u hq5) (by decide) ly_m0 rfl rfl wc_X7_of wm_X7_47 wi_X7_of ws_X7_of wn_X7 ⟨rfl, rfl⟩ hd_X7_of rfl ⟨Nat.le_of_ble_eq_true rfl, Nat.le_of_ble_eq_true rfl⟩ (Nat.le_of_ble_eq_true rfl) dX7_covers_35) (fun H locs hw => ?_)
    refine lv_aload_n (pc := 38) C0.1 C0.2.1 dX7_covers_38 rfl (lv_at hl 0 rfl) ?_
    refine lv_iload_n (pc := 39) C0.1 C0.2.1 dX7_covers_39 rfl (lv_at hl 1 rfl) ?_
    refine lv_bipush (v := 8) (pc := 40) C0.1 C0.2.1 dX7_covers_40 (by decide) ?_
    obtain ⟨q6, hq6, hf⟩ := bd_e hf
    refine x_backp (pc := 42) hw (x_runV (pc := 42) (As := [.int v1, .int 8]) (rest := [.int q5, .int v3]) C0 hK hw hl.1 ⟨Nat.zero_le _, Nat.zero_le _⟩ (kX7_of l D y ad hI v1 8 u hq6) (by decide) ly_m0 rfl rfl wc_X7_of wm_X7_47 wi_X7_of ws_X7_of wn_X7 ⟨rfl, rfl⟩ hd_X7_of rfl ⟨Nat.le_of_ble_eq_true rfl, Nat.le_of_ble_eq_true rfl⟩ (Nat.le_of_ble_eq_true rfl) dX7_covers_42) (fun H locs hw => ?_)
    refine lv_aload_n (pc := 45) C0.1 C0.2.1 dX7_covers_45 rfl (lv_at hl 0 rfl) ?_
    refine lv_iload_n (pc := 46) C0.1 C0.2.1 dX7_covers_46 rfl (lv_at hl 1 rfl) ?_
    refine lv_iconst (v := 1) (pc := 47) C0.1 C0.2.1 dX7_covers_47 (by decide) ?_
    obtain ⟨q7, hq7, hf⟩ := bd_e hf
    refine x_backp (pc := 48) hw (x_runV (pc := 48) (As := [.int v1, .int 1]) (rest := [.int q6, .int q5, .int v3]) C0 hK hw hl.1 ⟨Nat.zero_le _, Nat.zero_le _⟩ (kX7_spans l D y ad hI v1 1 u hq7) (by decide) ly_m0 rfl rfl wc_X7_spans wm_X7_59 wi_X7_spans ws_X7_spans wn_X7 ⟨rfl, rfl⟩ hd_X7_spans rfl ⟨Nat.le_of_ble_eq_true rfl, Nat.le_of_ble_eq_true rfl⟩ (Nat.le_of_ble_eq_true rfl) dX7_covers_48) (fun H locs hw => ?_)
    refine lv_iadd (pc := 51) C0.1 C0.2.1 dX7_covers_51 ?_
    refine lv_iconst (v := 1) (pc := 52) C0.1 C0.2.1 dX7_covers_52 (by decide) ?_
    refine lv_isub (pc := 53) C0.1 C0.2.1 dX7_covers_53 ?_
    obtain ⟨q8, hq8, hf⟩ := bd_e hf
    refine x_backp (pc := 54) hw (x_runS (pc := 54) (As := [.int v3, .int q5, .int ((q6 + q7) - 1)]) (rest := []) C0 hK hw hl.1 ⟨Nat.zero_le _, Nat.zero_le _⟩ (kX7_in l D y ad hI v3 q5 ((q6 + q7) - 1) u hq8) rfl wc_X7_in wm_X7_43 wt_X7_in wn_X7 ⟨rfl, rfl⟩ hd_X7_in rfl ⟨Nat.le_of_ble_eq_true rfl, Nat.le_of_ble_eq_true rfl⟩ (Nat.le_of_ble_eq_true rfl) dX7_covers_54) (fun H locs hw => ?_)
    refine lv_if_eq (tgt := 64) (pc := 57) C0.1 C0.2.1 dX7_covers_57 (by decide) (fun hc => ?_) (fun hc => ?_)
    · have hf := if_t hf hc
      refine lv_iconst (v := 0) (pc := 64) C0.1 C0.2.1 dX7_covers_64 (by decide) ?_
      exact x_zret (pc := 65) C0 hK hk hr hw rfl (congrArg (fun z => (z, u)) (Option.some.inj hf)) dX7_covers_65
    · have hf := if_f hf hc
      refine lv_iconst (v := 1) (pc := 60) C0.1 C0.2.1 dX7_covers_60 (by decide) ?_
      refine lv_goto (tgt := 65) (pc := 61) C0.1 C0.2.1 dX7_covers_61 (by decide) ?_
      exact x_zret (pc := 65) C0 hK hk hr hw rfl (congrArg (fun z => (z, u)) (Option.some.inj hf)) dX7_covers_65
def wX7_leaves : List Cond := .code yX7_leaves cX7_leaves 3 none :: lwT
def rX7_leaves : Room := { frames := 1, cells := 0, slots := 0, locals := 23 }
set_option maxRecDepth 100000 in
set_option maxHeartbeats 4000000 in
theorem kX7_leaves (l : Launch) (D : va_G) (y : Nat → ClassId) (ad : Nat → Nat) (hI : XI ad 8) (v1 : Int32) (u : S) {o : S} (hf : fX7_leaves v1 u = some o) : Met l yX7_leaves wX7_leaves rX7_leaves (va_Pc [.ref (ad 0), .int v1] (XW D y ad LM 8 u)) (XQv D y ad LM 8 o) 0 0 (XA ad 8) := by
  refine x_met (bytes := cX7_leaves) (maxL := 3) (ret := none) (own := RX7) (by decide) rfl rfl (Nat.le_of_ble_eq_true rfl) (fun p e s m below meth c ls C0 hK hk hr hw hl => ?_)
  have hl : lv_has ls 3 [(0, .ref (ad 0)), (1, .int v1)] := hl
  unfold fX7_leaves at hf
  refine lv_iconst (v := 5) (pc := 0) C0.1 C0.2.1 dX7_leaves_0 (by decide) ?_
  refine lv_istore_n (pc := 1) (lv' := [(2, .int 5), (0, .ref (ad 0)), (1, .int v1)]) C0.1 C0.2.1 dX7_leaves_1 rfl hl (by decide) rfl (fun ls hl => ?_)
  obtain ⟨e1, he1, hf⟩ := bd_e hf
  refine X_loop (pc := 2) (xpc := 21) (fu := fun a1 => a1.2) (fl := fun a1 => [(2, .int a1.1), (0, .ref (ad 0)), (1, .int v1)]) (fun a1 r hf hE hG H locs ls hw hl => ?_) he1 (fun H locs ls hw hl => ?_) hw hl
  · unfold gX7_leaves_2 at hf
    refine lv_iload_n (pc := 2) C0.1 C0.2.1 dX7_leaves_2 rfl (lv_at hl 0 rfl) ?_
    refine lv_bipush (v := 10) (pc := 3) C0.1 C0.2.1 dX7_leaves_3 (by decide) ?_
    refine lv_icmp_ge (tgt := 21) (pc := 5) C0.1 C0.2.1 dX7_leaves_5 (by decide) (fun hc => ?_) (fun hc => ?_)
    · have hf := if_t hf hc
      exact hE _ (Option.some.inj hf).symm H locs ls hw (lv_sub hl [0, 1, 2] rfl)
    · have hf := if_f hf hc
      refine lv_aload_n (pc := 8) C0.1 C0.2.1 dX7_leaves_8 rfl (lv_at hl 1 rfl) ?_
      refine lv_iload_n (pc := 9) C0.1 C0.2.1 dX7_leaves_9 rfl (lv_at hl 2 rfl) ?_
      refine lv_iload_n (pc := 10) C0.1 C0.2.1 dX7_leaves_10 rfl (lv_at hl 0 rfl) ?_
      refine lv_iconst (v := 0) (pc := 11) C0.1 C0.2.1 dX7_leaves_11 (by decide) ?_
      obtain ⟨q2, hq2, hf⟩ := bd_e hf
      refine x_backv (pc := 12) hw (x_runV (pc := 12) (As := [.int v1, .int a1.1, .int 0]) (rest := []) C0 hK hw hl.1 ⟨Nat.zero_le _, Nat.zero_le _⟩ (kX7_sets l D y ad hI v1 a1.1 0 a1.2 hq2) (by decide) ly_m0 rfl rfl wc_X7_sets wm_X7_63 wi_X7_sets ws_X7_sets wn_X7 ⟨rfl, rfl⟩ hd_X7_sets rfl ⟨Nat.le_of_ble_eq_true rfl, Nat.le_of_ble_eq_true rfl⟩ (Nat.le_of_ble_eq_true rfl) dX7_leaves_12) (fun H locs hw => ?_)
      refine lv_iinc (pc := 15) (v := a1.1 + 1) (lv' := [(2, .int (a1.1 + 1)), (0, .ref (ad 0)), (1, .int v1)]) C0.1 C0.2.1 dX7_leaves_15 hl (k := 0) rfl rfl (by decide) rfl (fun ls hl => ?_)
      refine lv_goto (tgt := 2) (pc := 18) C0.1 C0.2.1 dX7_leaves_18 (by decide) ?_
      exact hG _ (Option.some.inj hf).symm H locs ls hw (lv_sub hl [0, 1, 2] rfl)
  · skip
    exact x_vret (pc := 21) C0 hK hk hr hw (Option.some.inj hf) dX7_leaves_21
def wX7_inBox : List Cond := .code yX7_inBox cX7_inBox 3 (some .int) :: lwT
def rX7_inBox : Room := { frames := 1, cells := 0, slots := 0, locals := 22 }
set_option maxRecDepth 100000 in
set_option maxHeartbeats 4000000 in
theorem kX7_inBox (l : Launch) (D : va_G) (y : Nat → ClassId) (ad : Nat → Nat) (hI : XI ad 8)  (u : S) {o : Int32} (hf : fX7_inBox  u = some o) : Met l yX7_inBox wX7_inBox rX7_inBox (va_Pc [.ref (ad 0)] (XW D y ad LM 8 u)) (XQi D y ad LM 8 (o, u)) 0 0 (XA ad 8) := by
  refine x_met (bytes := cX7_inBox) (maxL := 3) (ret := (some .int)) (own := RX7) (by decide) rfl rfl (Nat.le_of_ble_eq_true rfl) (fun p e s m below meth c ls C0 hK hk hr hw hl => ?_)
  have hl : lv_has ls 3 [(0, .ref (ad 0))] := hl
  unfold fX7_inBox at hf
  refine lv_iconst (v := 0) (pc := 0) C0.1 C0.2.1 dX7_inBox_0 (by decide) ?_
  refine lv_istore_n (pc := 1) (lv' := [(1, .int 0), (0, .ref (ad 0))]) C0.1 C0.2.1 dX7_inBox_1 rfl hl (by decide) rfl (fun ls hl => ?_)
  refine lv_iconst (v := 0) (pc := 2) C0.1 C0.2.1 dX7_inBox_2 (by decide) ?_
  refine lv_istore_n (pc := 3) (lv' := [(2, .int 0), (1, .int 0), (0, .ref (ad 0))]) C0.1 C0.2.1 dX7_inBox_3 rfl hl (by decide) rfl (fun ls hl => ?_)
  obtain ⟨e1, he1, hf⟩ := bd_e hf
  refine X_loop (pc := 4) (xpc := 27) (fu := fun a1 => u) (fl := fun a1 => [(2, .int a1.2), (1, .int a1.1), (0, .ref (ad 0))]) (fun a1 r hf hE hG H locs ls hw hl => ?_) he1 (fun H locs ls hw hl => ?_) hw hl
  · unfold gX7_inBox_4 at hf
    refine lv_iload_n (pc := 4) C0.1 C0.2.1 dX7_inBox_4 rfl (lv_at hl 0 rfl) ?_
    refine lv_aload_n (pc := 5) C0.1 C0.2.1 dX7_inBox_5 rfl (lv_at hl 2 rfl) ?_
    obtain ⟨q2, hq2, hf⟩ := bd_e hf
    refine x_backp (pc := 6) hw (x_runV (pc := 6) (As := []) (rest := [.int a1.2]) C0 hK hw hl.1 ⟨Nat.zero_le _, Nat.zero_le _⟩ (kX7_trays l D y ad hI  u hq2) (by decide) ly_m0 rfl rfl wc_X7_trays wm_X7_39 wi_X7_trays ws_X7_trays wn_X7 ⟨rfl, rfl⟩ hd_X7_trays rfl ⟨Nat.le_of_ble_eq_true rfl, Nat.le_of_ble_eq_true rfl⟩ (Nat.le_of_ble_eq_true rfl) dX7_inBox_6) (fun H locs hw => ?_)
    refine lv_icmp_ge (tgt := 27) (pc := 9) C0.1 C0.2.1 dX7_inBox_9 (by decide) (fun hc => ?_) (fun hc => ?_)
    · have hf := if_t hf hc
      exact hE _ (Option.some.inj hf).symm H locs ls hw (lv_sub hl [0, 1, 2] rfl)
    · have hf := if_f hf hc
      refine lv_iload_n (pc := 12) C0.1 C0.2.1 dX7_inBox_12 rfl (lv_at hl 1 rfl) ?_
      refine lv_aload_n (pc := 13) C0.1 C0.2.1 dX7_inBox_13 rfl (lv_at hl 2 rfl) ?_
      refine lv_iload_n (pc := 14) C0.1 C0.2.1 dX7_inBox_14 rfl (lv_at hl 0 rfl) ?_
      refine lv_iconst (v := 5) (pc := 15) C0.1 C0.2.1 dX7_inBox_15 (by decide) ?_
      obtain ⟨q3, hq3, hf⟩ := bd_e hf
      refine x_backp (pc := 16) hw (x_runV (pc := 16) (As := [.int a1.2, .int 5]) (rest := [.int a1.1]) C0 hK hw hl.1 ⟨Nat.zero_le _, Nat.zero_le _⟩ (kX7_of l D y ad hI a1.2 5 u hq3) (by decide) ly_m0 rfl rfl wc_X7_of wm_X7_47 wi_X7_of ws_X7_of wn_X7 ⟨rfl, rfl⟩ hd_X7_of rfl ⟨Nat.le_of_ble_eq_true rfl, Nat.le_of_ble_eq_true rfl⟩ (Nat.le_of_ble_eq_true rfl) dX7_inBox_16) (fun H locs hw => ?_)
      refine lv_iadd (pc := 19) C0.1 C0.2.1 dX7_inBox_19 ?_
      refine lv_istore_n (pc := 20) (lv' := [(1, .int (a1.1 + q3)), (2, .int a1.2), (0, .ref (ad 0))]) C0.1 C0.2.1 dX7_inBox_20 rfl hl (by decide) rfl (fun ls hl => ?_)
      refine lv_iinc (pc := 21) (v := a1.2 + 1) (lv' := [(2, .int (a1.2 + 1)), (1, .int (a1.1 + q3)), (0, .ref (ad 0))]) C0.1 C0.2.1 dX7_inBox_21 hl (k := 1) rfl rfl (by decide) rfl (fun ls hl => ?_)
      refine lv_goto (tgt := 4) (pc := 24) C0.1 C0.2.1 dX7_inBox_24 (by decide) ?_
      exact hG _ (Option.some.inj hf).symm H locs ls hw (lv_sub hl [0, 1, 2] rfl)
  · skip
    refine lv_iload_n (pc := 27) C0.1 C0.2.1 dX7_inBox_27 rfl (lv_at hl 1 rfl) ?_
    exact x_iret (pc := 28) C0 hK hk hr hw (congrArg (fun z => (z, u)) (Option.some.inj hf)) dX7_inBox_28
def wX7_empties : List Cond := .code yX7_empties cX7_empties 2 none :: lwT
def rX7_empties : Room := { frames := 2, cells := 0, slots := 0, locals := 45 }
set_option maxRecDepth 100000 in
set_option maxHeartbeats 4000000 in
theorem kX7_empties (l : Launch) (D : va_G) (y : Nat → ClassId) (ad : Nat → Nat) (hI : XI ad 8)  (u : S) {o : S} (hf : fX7_empties  u = some o) : Met l yX7_empties wX7_empties rX7_empties (va_Pc [.ref (ad 0)] (XW D y ad LM 8 u)) (XQv D y ad LM 8 o) 0 0 (XA ad 8) := by
  refine x_met (bytes := cX7_empties) (maxL := 2) (ret := none) (own := RX7) (by decide) rfl rfl (Nat.le_of_ble_eq_true rfl) (fun p e s m below meth c ls C0 hK hk hr hw hl => ?_)
  have hl : lv_has ls 2 [(0, .ref (ad 0))] := hl
  unfold fX7_empties at hf
  refine lv_iconst (v := 0) (pc := 0) C0.1 C0.2.1 dX7_empties_0 (by decide) ?_
  refine lv_istore_n (pc := 1) (lv' := [(1, .int 0), (0, .ref (ad 0))]) C0.1 C0.2.1 dX7_empties_1 rfl hl (by decide) rfl (fun ls hl => ?_)
  obtain ⟨e1, he1, hf⟩ := bd_e hf
  refine X_loop (pc := 2) (xpc := 21) (fu := fun a1 => a1.2) (fl := fun a1 => [(1, .int a1.1), (0, .ref (ad 0))]) (fun a1 r hf hE hG H locs ls hw hl => ?_) he1 (fun H locs ls hw hl => ?_) hw hl
  · unfold gX7_empties_2 at hf
    refine lv_iload_n (pc := 2) C0.1 C0.2.1 dX7_empties_2 rfl (lv_at hl 0 rfl) ?_
    refine lv_aload_n (pc := 3) C0.1 C0.2.1 dX7_empties_3 rfl (lv_at hl 1 rfl) ?_
    obtain ⟨q2, hq2, hf⟩ := bd_e hf
    refine x_backp (pc := 4) hw (x_runV (pc := 4) (As := []) (rest := [.int a1.1]) C0 hK hw hl.1 ⟨Nat.zero_le _, Nat.zero_le _⟩ (kX7_trays l D y ad hI  a1.2 hq2) (by decide) ly_m0 rfl rfl wc_X7_trays wm_X7_39 wi_X7_trays ws_X7_trays wn_X7 ⟨rfl, rfl⟩ hd_X7_trays rfl ⟨Nat.le_of_ble_eq_true rfl, Nat.le_of_ble_eq_true rfl⟩ (Nat.le_of_ble_eq_true rfl) dX7_empties_4) (fun H locs hw => ?_)
    refine lv_icmp_ge (tgt := 21) (pc := 7) C0.1 C0.2.1 dX7_empties_7 (by decide) (fun hc => ?_) (fun hc => ?_)
    · have hf := if_t hf hc
      exact hE _ (Option.some.inj hf).symm H locs ls hw (lv_sub hl [0, 1] rfl)
    · have hf := if_f hf hc
      refine lv_aload_n (pc := 10) C0.1 C0.2.1 dX7_empties_10 rfl (lv_at hl 1 rfl) ?_
      refine lv_iload_n (pc := 11) C0.1 C0.2.1 dX7_empties_11 rfl (lv_at hl 0 rfl) ?_
      obtain ⟨q3, hq3, hf⟩ := bd_e hf
      refine x_backv (pc := 12) hw (x_runV (pc := 12) (As := [.int a1.1]) (rest := []) C0 hK hw hl.1 ⟨Nat.zero_le _, Nat.zero_le _⟩ (kX7_leaves l D y ad hI a1.1 a1.2 hq3) (by decide) ly_m0 rfl rfl wc_X7_leaves wm_X7_67 wi_X7_leaves ws_X7_leaves wn_X7 ⟨rfl, rfl⟩ hd_X7_leaves rfl ⟨Nat.le_of_ble_eq_true rfl, Nat.le_of_ble_eq_true rfl⟩ (Nat.le_of_ble_eq_true rfl) dX7_empties_12) (fun H locs hw => ?_)
      refine lv_iinc (pc := 15) (v := a1.1 + 1) (lv' := [(1, .int (a1.1 + 1)), (0, .ref (ad 0))]) C0.1 C0.2.1 dX7_empties_15 hl (k := 0) rfl rfl (by decide) rfl (fun ls hl => ?_)
      refine lv_goto (tgt := 2) (pc := 18) C0.1 C0.2.1 dX7_empties_18 (by decide) ?_
      exact hG _ (Option.some.inj hf).symm H locs ls hw (lv_sub hl [0, 1] rfl)
  · skip
    exact x_vret (pc := 21) C0 hK hk hr hw (Option.some.inj hf) dX7_empties_21
def wX7_laysTops : List Cond := .code yX7_laysTops cX7_laysTops 3 none :: lwT
def rX7_laysTops : Room := { frames := 4, cells := 0, slots := 0, locals := 90 }
set_option maxRecDepth 100000 in
set_option maxHeartbeats 4000000 in
theorem kX7_laysTops (l : Launch) (D : va_G) (y : Nat → ClassId) (ad : Nat → Nat) (hI : XI ad 8)  (u : S) {o : S} (hf : fX7_laysTops  u = some o) : Met l yX7_laysTops wX7_laysTops rX7_laysTops (va_Pc [.ref (ad 0)] (XW D y ad LM 8 u)) (XQv D y ad LM 8 o) 0 0 (XA ad 8) := by
  refine x_met (bytes := cX7_laysTops) (maxL := 3) (ret := none) (own := RX7) (by decide) rfl rfl (Nat.le_of_ble_eq_true rfl) (fun p e s m below meth c ls C0 hK hk hr hw hl => ?_)
  have hl : lv_has ls 3 [(0, .ref (ad 0))] := hl
  unfold fX7_laysTops at hf
  refine lv_iconst (v := 0) (pc := 0) C0.1 C0.2.1 dX7_laysTops_0 (by decide) ?_
  refine lv_istore_n (pc := 1) (lv' := [(1, .int 0), (0, .ref (ad 0))]) C0.1 C0.2.1 dX7_laysTops_1 rfl hl (by decide) rfl (fun ls hl => ?_)
  obtain ⟨e1, he1, hf⟩ := bd_e hf
  refine X_loop (pc := 2) (xpc := 21) (fu := fun a1 => a1.2) (fl := fun a1 => [(1, .int a1.1), (0, .ref (ad 0))]) (fun a1 r hf hE hG H locs ls hw hl => ?_) he1 (fun H locs ls hw hl => ?_) hw hl
  · unfold gX7_laysTops_2 at hf
    refine lv_iload_n (pc := 2) C0.1 C0.2.1 dX7_laysTops_2 rfl (lv_at hl 0 rfl) ?_
    refine lv_bipush (v := 100) (pc := 3) C0.1 C0.2.1 dX7_laysTops_3 (by decide) ?_
    refine lv_icmp_ge (tgt := 21) (pc := 5) C0.1 C0.2.1 dX7_laysTops_5 (by decide) (fun hc => ?_) (fun hc => ?_)
    · have hf := if_t hf hc
      exact hE _ (Option.some.inj hf).symm H locs ls hw (lv_sub hl [0, 1] rfl)
    · have hf := if_f hf hc
      refine lv_aload_n (pc := 8) C0.1 C0.2.1 dX7_laysTops_8 rfl (lv_at hl 1 rfl) ?_
      refine x_get (pc := 9) (v := .ref (ad 2)) C0 hK hw (by decide) ly_m0 rfl inX7 2 (by decide) wf_X7_13 rfl rfl dX7_laysTops_9 ?_
      refine lv_iload_n (pc := 12) C0.1 C0.2.1 dX7_laysTops_12 rfl (lv_at hl 0 rfl) ?_
      refine lv_iconst (v := 0) (pc := 13) C0.1 C0.2.1 dX7_laysTops_13 (by decide) ?_
      obtain ⟨hi, hf⟩ := gd_e hf
      obtain ⟨u2, hu, hf⟩ := nm_f hf
      refine x_iast (pc := 14) hI C0 hK hw (by decide) ly_m2 hi hu dX7_laysTops_14 (fun H locs hw => ?_)
      refine lv_iinc (pc := 15) (v := a1.1 + 1) (lv' := [(1, .int (a1.1 + 1)), (0, .ref (ad 0))]) C0.1 C0.2.1 dX7_laysTops_15 hl (k := 0) rfl rfl (by decide) rfl (fun ls hl => ?_)
      refine lv_goto (tgt := 2) (pc := 18) C0.1 C0.2.1 dX7_laysTops_18 (by decide) ?_
      exact hG _ (Option.some.inj hf).symm H locs ls hw (lv_sub hl [0, 1] rfl)
  · skip
    refine lv_iconst (v := 0) (pc := 21) C0.1 C0.2.1 dX7_laysTops_21 (by decide) ?_
    refine lv_istore_n (pc := 22) (lv' := [(1, .int 0), (0, .ref (ad 0))]) C0.1 C0.2.1 dX7_laysTops_22 rfl hl (by decide) rfl (fun ls hl => ?_)
    obtain ⟨e3, he3, hf⟩ := bd_e hf
    refine X_loop (pc := 23) (xpc := 109) (fu := fun a1 => a1.2) (fl := fun a1 => [(1, .int a1.1), (0, .ref (ad 0))]) (fun a1 r hf hE hG H locs ls hw hl => ?_) he3 (fun H locs ls hw hl => ?_) hw hl
    · unfold gX7_laysTops_23 at hf
      refine lv_iload_n (pc := 23) C0.1 C0.2.1 dX7_laysTops_23 rfl (lv_at hl 0 rfl) ?_
      refine lv_aload_n (pc := 24) C0.1 C0.2.1 dX7_laysTops_24 rfl (lv_at hl 1 rfl) ?_
      obtain ⟨q4, hq4, hf⟩ := bd_e hf
      refine x_backp (pc := 25) hw (x_runV (pc := 25) (As := []) (rest := [.int a1.1]) C0 hK hw hl.1 ⟨Nat.zero_le _, Nat.zero_le _⟩ (kX7_trays l D y ad hI  a1.2 hq4) (by decide) ly_m0 rfl rfl wc_X7_trays wm_X7_39 wi_X7_trays ws_X7_trays wn_X7 ⟨rfl, rfl⟩ hd_X7_trays rfl ⟨Nat.le_of_ble_eq_true rfl, Nat.le_of_ble_eq_true rfl⟩ (Nat.le_of_ble_eq_true rfl) dX7_laysTops_25) (fun H locs hw => ?_)
      refine lv_icmp_ge (tgt := 109) (pc := 28) C0.1 C0.2.1 dX7_laysTops_28 (by decide) (fun hc => ?_) (fun hc => ?_)
      · have hf := if_t hf hc
        exact hE _ (Option.some.inj hf).symm H locs ls hw (lv_sub hl [0, 1] rfl)
      · have hf := if_f hf hc
        refine lv_iconst (v := 0) (pc := 31) C0.1 C0.2.1 dX7_laysTops_31 (by decide) ?_
        refine lv_istore_n (pc := 32) (lv' := [(2, .int 0), (1, .int a1.1), (0, .ref (ad 0))]) C0.1 C0.2.1 dX7_laysTops_32 rfl hl (by decide) rfl (fun ls hl => ?_)
        obtain ⟨e5, he5, hf⟩ := bd_e hf
        refine X_loop (pc := 33) (xpc := 103) (fu := fun a2 => a2.2) (fl := fun a2 => [(2, .int a2.1), (1, .int a1.1), (0, .ref (ad 0))]) (fun a2 r hf hE hG H locs ls hw hl => ?_) he5 (fun H locs ls hw hl => ?_) hw hl
        · unfold gX7_laysTops_33 at hf
          refine lv_iload_n (pc := 33) C0.1 C0.2.1 dX7_laysTops_33 rfl (lv_at hl 0 rfl) ?_
          refine lv_bipush (v := 100) (pc := 34) C0.1 C0.2.1 dX7_laysTops_34 (by decide) ?_
          refine lv_icmp_ge (tgt := 103) (pc := 36) C0.1 C0.2.1 dX7_laysTops_36 (by decide) (fun hc => ?_) (fun hc => ?_)
          · have hf := if_t hf hc
            exact hE _ (Option.some.inj hf).symm H locs ls hw (lv_sub hl [0, 1, 2] rfl)
          · have hf := if_f hf hc
            refine lv_aload_n (pc := 39) C0.1 C0.2.1 dX7_laysTops_39 rfl (lv_at hl 2 rfl) ?_
            refine lv_iload_n (pc := 40) C0.1 C0.2.1 dX7_laysTops_40 rfl (lv_at hl 1 rfl) ?_
            obtain ⟨q6, hq6, hf⟩ := bd_e hf
            refine x_backp (pc := 41) hw (x_runV (pc := 41) (As := [.int a1.1]) (rest := []) C0 hK hw hl.1 ⟨Nat.zero_le _, Nat.zero_le _⟩ (kX7_isIn l D y ad hI a1.1 a2.2 hq6) (by decide) ly_m0 rfl rfl wc_X7_isIn wm_X7_71 wi_X7_isIn ws_X7_isIn wn_X7 ⟨rfl, rfl⟩ hd_X7_isIn rfl ⟨Nat.le_of_ble_eq_true rfl, Nat.le_of_ble_eq_true rfl⟩ (Nat.le_of_ble_eq_true rfl) dX7_laysTops_41) (fun H locs hw => ?_)
            refine lv_if_eq (tgt := 103) (pc := 44) C0.1 C0.2.1 dX7_laysTops_44 (by decide) (fun hc => ?_) (fun hc => ?_)
            · have hf := if_t hf hc
              exact hE _ (Option.some.inj hf).symm H locs ls hw (lv_sub hl [0, 1, 2] rfl)
            · have hf := if_f hf hc
              refine lv_aload_n (pc := 47) C0.1 C0.2.1 dX7_laysTops_47 rfl (lv_at hl 2 rfl) ?_
              refine x_get (pc := 48) (v := .ref (ad 2)) C0 hK hw (by decide) ly_m0 rfl inX7 2 (by decide) wf_X7_13 rfl rfl dX7_laysTops_48 ?_
              refine lv_iload_n (pc := 51) C0.1 C0.2.1 dX7_laysTops_51 rfl (lv_at hl 0 rfl) ?_
              refine lv_aload_n (pc := 52) C0.1 C0.2.1 dX7_laysTops_52 rfl (lv_at hl 2 rfl) ?_
              refine lv_iload_n (pc := 53) C0.1 C0.2.1 dX7_laysTops_53 rfl (lv_at hl 1 rfl) ?_
              refine lv_iload_n (pc := 54) C0.1 C0.2.1 dX7_laysTops_54 rfl (lv_at hl 0 rfl) ?_
              refine lv_bipush (v := 10) (pc := 55) C0.1 C0.2.1 dX7_laysTops_55 (by decide) ?_
              refine lv_idiv (pc := 57) C0.1 C0.2.1 dX7_laysTops_57 (by decide) ?_
              refine lv_iload_n (pc := 58) C0.1 C0.2.1 dX7_laysTops_58 rfl (lv_at hl 0 rfl) ?_
              refine lv_bipush (v := 10) (pc := 59) C0.1 C0.2.1 dX7_laysTops_59 (by decide) ?_
              refine x_irem (pc := 61) C0.1 C0.2.1 dX7_laysTops_61 (by decide) ?_
              obtain ⟨q7, hq7, hf⟩ := bd_e hf
              refine x_backp (pc := 62) hw (x_runV (pc := 62) (As := [.int a1.1, .int (a2.1 / 10), .int (a2.1 % 10)]) (rest := [.int a2.1, .ref (ad 2)]) C0 hK hw hl.1 ⟨Nat.zero_le _, Nat.zero_le _⟩ (kX7_covers l D y ad hI a1.1 (a2.1 / 10) (a2.1 % 10) a2.2 hq7) (by decide) ly_m0 rfl rfl wc_X7_covers wm_X7_75 wi_X7_covers ws_X7_covers wn_X7 ⟨rfl, rfl⟩ hd_X7_covers rfl ⟨Nat.le_of_ble_eq_true rfl, Nat.le_of_ble_eq_true rfl⟩ (Nat.le_of_ble_eq_true rfl) dX7_laysTops_62) (fun H locs hw => ?_)
              refine lv_if_eq (tgt := 90) (pc := 65) C0.1 C0.2.1 dX7_laysTops_65 (by decide) (fun hc => ?_) (fun hc => ?_)
              · have hf := if_t hf hc
                refine lv_aload_n (pc := 90) C0.1 C0.2.1 dX7_laysTops_90 rfl (lv_at hl 2 rfl) ?_
                refine x_get (pc := 91) (v := .ref (ad 2)) C0 hK hw (by decide) ly_m0 rfl inX7 2 (by decide) wf_X7_13 rfl rfl dX7_laysTops_91 ?_
                refine lv_iload_n (pc := 94) C0.1 C0.2.1 dX7_laysTops_94 rfl (lv_at hl 0 rfl) ?_
                obtain ⟨hi, hf⟩ := gd_e hf
                refine x_iald (pc := 95) C0 hK hw (by decide) ly_m2 hi dX7_laysTops_95 ?_
                obtain ⟨hi, hf⟩ := gd_e hf
                obtain ⟨u8, hu, hf⟩ := nm_f hf
                refine x_iast (pc := 96) hI C0 hK hw (by decide) ly_m2 hi hu dX7_laysTops_96 (fun H locs hw => ?_)
                refine lv_iinc (pc := 97) (v := a2.1 + 1) (lv' := [(2, .int (a2.1 + 1)), (1, .int a1.1), (0, .ref (ad 0))]) C0.1 C0.2.1 dX7_laysTops_97 hl (k := 0) rfl rfl (by decide) rfl (fun ls hl => ?_)
                refine lv_goto (tgt := 33) (pc := 100) C0.1 C0.2.1 dX7_laysTops_100 (by decide) ?_
                exact hG _ (Option.some.inj hf).symm H locs ls hw (lv_sub hl [0, 1, 2] rfl)
              · have hf := if_f hf hc
                refine lv_aload_n (pc := 68) C0.1 C0.2.1 dX7_laysTops_68 rfl (lv_at hl 2 rfl) ?_
                refine lv_iload_n (pc := 69) C0.1 C0.2.1 dX7_laysTops_69 rfl (lv_at hl 1 rfl) ?_
                obtain ⟨q9, hq9, hf⟩ := bd_e hf
                refine x_backp (pc := 70) hw (x_runV (pc := 70) (As := [.int a1.1]) (rest := [.int a2.1, .ref (ad 2)]) C0 hK hw hl.1 ⟨Nat.zero_le _, Nat.zero_le _⟩ (kX7_top l D y ad hI a1.1 a2.2 hq9) (by decide) ly_m0 rfl rfl wc_X7_top wm_X7_78 wi_X7_top ws_X7_top wn_X7 ⟨rfl, rfl⟩ hd_X7_top rfl ⟨Nat.le_of_ble_eq_true rfl, Nat.le_of_ble_eq_true rfl⟩ (Nat.le_of_ble_eq_true rfl) dX7_laysTops_70) (fun H locs hw => ?_)
                refine lv_aload_n (pc := 73) C0.1 C0.2.1 dX7_laysTops_73 rfl (lv_at hl 2 rfl) ?_
                refine x_get (pc := 74) (v := .ref (ad 2)) C0 hK hw (by decide) ly_m0 rfl inX7 2 (by decide) wf_X7_13 rfl rfl dX7_laysTops_74 ?_
                refine lv_iload_n (pc := 77) C0.1 C0.2.1 dX7_laysTops_77 rfl (lv_at hl 0 rfl) ?_
                obtain ⟨hi, hf⟩ := gd_e hf
                refine x_iald (pc := 78) C0 hK hw (by decide) ly_m2 hi dX7_laysTops_78 ?_
                refine lv_icmp_le (tgt := 90) (pc := 79) C0.1 C0.2.1 dX7_laysTops_79 (by decide) (fun hc => ?_) (fun hc => ?_)
                · have hf := if_t hf hc
                  refine lv_aload_n (pc := 90) C0.1 C0.2.1 dX7_laysTops_90 rfl (lv_at hl 2 rfl) ?_
                  refine x_get (pc := 91) (v := .ref (ad 2)) C0 hK hw (by decide) ly_m0 rfl inX7 2 (by decide) wf_X7_13 rfl rfl dX7_laysTops_91 ?_
                  refine lv_iload_n (pc := 94) C0.1 C0.2.1 dX7_laysTops_94 rfl (lv_at hl 0 rfl) ?_
                  obtain ⟨hi, hf⟩ := gd_e hf
                  refine x_iald (pc := 95) C0 hK hw (by decide) ly_m2 hi dX7_laysTops_95 ?_
                  obtain ⟨hi, hf⟩ := gd_e hf
                  obtain ⟨u10, hu, hf⟩ := nm_f hf
                  refine x_iast (pc := 96) hI C0 hK hw (by decide) ly_m2 hi hu dX7_laysTops_96 (fun H locs hw => ?_)
                  refine lv_iinc (pc := 97) (v := a2.1 + 1) (lv' := [(2, .int (a2.1 + 1)), (1, .int a1.1), (0, .ref (ad 0))]) C0.1 C0.2.1 dX7_laysTops_97 hl (k := 0) rfl rfl (by decide) rfl (fun ls hl => ?_)
                  refine lv_goto (tgt := 33) (pc := 100) C0.1 C0.2.1 dX7_laysTops_100 (by decide) ?_
                  exact hG _ (Option.some.inj hf).symm H locs ls hw (lv_sub hl [0, 1, 2] rfl)
                · have hf := if_f hf hc
                  refine lv_aload_n (pc := 82) C0.1 C0.2.1 dX7_laysTops_82 rfl (lv_at hl 2 rfl) ?_
                  refine lv_iload_n (pc := 83) C0.1 C0.2.1 dX7_laysTops_83 rfl (lv_at hl 1 rfl) ?_
                  obtain ⟨q11, hq11, hf⟩ := bd_e hf
                  refine x_backp (pc := 84) hw (x_runV (pc := 84) (As := [.int a1.1]) (rest := [.int a2.1, .ref (ad 2)]) C0 hK hw hl.1 ⟨Nat.zero_le _, Nat.zero_le _⟩ (kX7_top l D y ad hI a1.1 a2.2 hq11) (by decide) ly_m0 rfl rfl wc_X7_top wm_X7_78 wi_X7_top ws_X7_top wn_X7 ⟨rfl, rfl⟩ hd_X7_top rfl ⟨Nat.le_of_ble_eq_true rfl, Nat.le_of_ble_eq_true rfl⟩ (Nat.le_of_ble_eq_true rfl) dX7_laysTops_84) (fun H locs hw => ?_)
                  refine lv_goto (tgt := 96) (pc := 87) C0.1 C0.2.1 dX7_laysTops_87 (by decide) ?_
                  obtain ⟨hi, hf⟩ := gd_e hf
                  obtain ⟨u12, hu, hf⟩ := nm_f hf
                  refine x_iast (pc := 96) hI C0 hK hw (by decide) ly_m2 hi hu dX7_laysTops_96 (fun H locs hw => ?_)
                  refine lv_iinc (pc := 97) (v := a2.1 + 1) (lv' := [(2, .int (a2.1 + 1)), (1, .int a1.1), (0, .ref (ad 0))]) C0.1 C0.2.1 dX7_laysTops_97 hl (k := 0) rfl rfl (by decide) rfl (fun ls hl => ?_)
                  refine lv_goto (tgt := 33) (pc := 100) C0.1 C0.2.1 dX7_laysTops_100 (by decide) ?_
                  exact hG _ (Option.some.inj hf).symm H locs ls hw (lv_sub hl [0, 1, 2] rfl)
        · skip
          refine lv_iinc (pc := 103) (v := a1.1 + 1) (lv' := [(1, .int (a1.1 + 1)), (2, .int e5.1), (0, .ref (ad 0))]) C0.1 C0.2.1 dX7_laysTops_103 hl (k := 1) rfl rfl (by decide) rfl (fun ls hl => ?_)
          refine lv_goto (tgt := 23) (pc := 106) C0.1 C0.2.1 dX7_laysTops_106 (by decide) ?_
          exact hG _ (Option.some.inj hf).symm H locs ls hw (lv_sub hl [0, 2] rfl)
    · skip
      exact x_vret (pc := 109) C0 hK hk hr hw (Option.some.inj hf) dX7_laysTops_109
def wX7_isInside : List Cond := .code yX7_isInside cX7_isInside 5 (some .boolean) :: lwT
def rX7_isInside : Room := { frames := 2, cells := 0, slots := 0, locals := 45 }
set_option maxRecDepth 100000 in
set_option maxHeartbeats 4000000 in
theorem kX7_isInside (l : Launch) (D : va_G) (y : Nat → ClassId) (ad : Nat → Nat) (hI : XI ad 8) (v1 : Int32) (v2 : Int32) (v3 : Int32) (v4 : Int32) (u : S) {o : Int32} (hf : fX7_isInside v1 v2 v3 v4 u = some o) : Met l yX7_isInside wX7_isInside rX7_isInside (va_Pc [.ref (ad 0), .int v1, .int v2, .int v3, .int v4] (XW D y ad LM 8 u)) (XQi D y ad LM 8 (o, u)) 0 0 (XA ad 8) := by
  refine x_met (bytes := cX7_isInside) (maxL := 5) (ret := (some .boolean)) (own := RX7) (by decide) rfl rfl (Nat.le_of_ble_eq_true rfl) (fun p e s m below meth c ls C0 hK hk hr hw hl => ?_)
  have hl : lv_has ls 5 [(0, .ref (ad 0)), (1, .int v1), (2, .int v2), (3, .int v3), (4, .int v4)] := hl
  unfold fX7_isInside at hf
  refine lv_iload_n (pc := 0) C0.1 C0.2.1 dX7_isInside_0 rfl (lv_at hl 2 rfl) ?_
  refine lv_if_lt (tgt := 50) (pc := 1) C0.1 C0.2.1 dX7_isInside_1 (by decide) (fun hc => ?_) (fun hc => ?_)
  · have hf := if_t hf hc
    refine lv_iconst (v := 0) (pc := 50) C0.1 C0.2.1 dX7_isInside_50 (by decide) ?_
    exact x_zret (pc := 51) C0 hK hk hr hw rfl (congrArg (fun z => (z, u)) (Option.some.inj hf)) dX7_isInside_51
  · have hf := if_f hf hc
    refine lv_iload_n (pc := 4) C0.1 C0.2.1 dX7_isInside_4 rfl (lv_at hl 3 rfl) ?_
    refine lv_if_lt (tgt := 50) (pc := 5) C0.1 C0.2.1 dX7_isInside_5 (by decide) (fun hc => ?_) (fun hc => ?_)
    · have hf := if_t hf hc
      refine lv_iconst (v := 0) (pc := 50) C0.1 C0.2.1 dX7_isInside_50 (by decide) ?_
      exact x_zret (pc := 51) C0 hK hk hr hw rfl (congrArg (fun z => (z, u)) (Option.some.inj hf)) dX7_isInside_51
    · have hf := if_f hf hc
      refine lv_iload_n (pc := 8) C0.1 C0.2.1 dX7_isInside_8 rfl (lv_at hl 2 rfl) ?_
      refine lv_aload_n (pc := 9) C0.1 C0.2.1 dX7_isInside_9 rfl (lv_at hl 0 rfl) ?_
      refine x_get (pc := 10) (v := .ref (ad 1)) C0 hK hw (by decide) ly_m0 rfl inX7 0 (by decide) wf_X7_7 rfl rfl dX7_isInside_10 ?_
      refine lv_iconst (v := 0) (pc := 13) C0.1 C0.2.1 dX7_isInside_13 (by decide) ?_
      obtain ⟨hi, hf⟩ := gd_e hf
      refine x_iald (pc := 14) C0 hK hw (by decide) ly_m1 hi dX7_isInside_14 ?_
      refine lv_aload_n (pc := 15) C0.1 C0.2.1 dX7_isInside_15 rfl (lv_at hl 0 rfl) ?_
      refine lv_iload_n (pc := 16) C0.1 C0.2.1 dX7_isInside_16 rfl (lv_at hl 1 rfl) ?_
      refine lv_iconst (v := 0) (pc := 17) C0.1 C0.2.1 dX7_isInside_17 (by decide) ?_
      refine lv_iload (pc := 18) C0.1 C0.2.1 dX7_isInside_18 (lv_at hl 4 rfl) ?_
      obtain ⟨q1, hq1, hf⟩ := bd_e hf
      refine x_backp (pc := 20) hw (x_runV (pc := 20) (As := [.int v1, .int 0, .int v4]) (rest := [.int (u.1 1 (0 : Int32).toNatClampNeg), .int v2]) C0 hK hw hl.1 ⟨Nat.zero_le _, Nat.zero_le _⟩ (kX7_along l D y ad hI v1 0 v4 u hq1) (by decide) ly_m0 rfl rfl wc_X7_along wm_X7_55 wi_X7_along ws_X7_along wn_X7 ⟨rfl, rfl⟩ hd_X7_along rfl ⟨Nat.le_of_ble_eq_true rfl, Nat.le_of_ble_eq_true rfl⟩ (Nat.le_of_ble_eq_true rfl) dX7_isInside_20) (fun H locs hw => ?_)
      refine lv_isub (pc := 23) C0.1 C0.2.1 dX7_isInside_23 ?_
      refine lv_icmp_gt (tgt := 50) (pc := 24) C0.1 C0.2.1 dX7_isInside_24 (by decide) (fun hc => ?_) (fun hc => ?_)
      · have hf := if_t hf hc
        refine lv_iconst (v := 0) (pc := 50) C0.1 C0.2.1 dX7_isInside_50 (by decide) ?_
        exact x_zret (pc := 51) C0 hK hk hr hw rfl (congrArg (fun z => (z, u)) (Option.some.inj hf)) dX7_isInside_51
      · have hf := if_f hf hc
        refine lv_iload_n (pc := 27) C0.1 C0.2.1 dX7_isInside_27 rfl (lv_at hl 3 rfl) ?_
        refine lv_aload_n (pc := 28) C0.1 C0.2.1 dX7_isInside_28 rfl (lv_at hl 0 rfl) ?_
        refine x_get (pc := 29) (v := .ref (ad 1)) C0 hK hw (by decide) ly_m0 rfl inX7 0 (by decide) wf_X7_7 rfl rfl dX7_isInside_29 ?_
        refine lv_iconst (v := 1) (pc := 32) C0.1 C0.2.1 dX7_isInside_32 (by decide) ?_
        obtain ⟨hi, hf⟩ := gd_e hf
        refine x_iald (pc := 33) C0 hK hw (by decide) ly_m1 hi dX7_isInside_33 ?_
        refine lv_aload_n (pc := 34) C0.1 C0.2.1 dX7_isInside_34 rfl (lv_at hl 0 rfl) ?_
        refine lv_iload_n (pc := 35) C0.1 C0.2.1 dX7_isInside_35 rfl (lv_at hl 1 rfl) ?_
        refine lv_iconst (v := 1) (pc := 36) C0.1 C0.2.1 dX7_isInside_36 (by decide) ?_
        refine lv_iload (pc := 37) C0.1 C0.2.1 dX7_isInside_37 (lv_at hl 4 rfl) ?_
        obtain ⟨q2, hq2, hf⟩ := bd_e hf
        refine x_backp (pc := 39) hw (x_runV (pc := 39) (As := [.int v1, .int 1, .int v4]) (rest := [.int (u.1 1 (1 : Int32).toNatClampNeg), .int v3]) C0 hK hw hl.1 ⟨Nat.zero_le _, Nat.zero_le _⟩ (kX7_along l D y ad hI v1 1 v4 u hq2) (by decide) ly_m0 rfl rfl wc_X7_along wm_X7_55 wi_X7_along ws_X7_along wn_X7 ⟨rfl, rfl⟩ hd_X7_along rfl ⟨Nat.le_of_ble_eq_true rfl, Nat.le_of_ble_eq_true rfl⟩ (Nat.le_of_ble_eq_true rfl) dX7_isInside_39) (fun H locs hw => ?_)
        refine lv_isub (pc := 42) C0.1 C0.2.1 dX7_isInside_42 ?_
        refine lv_icmp_gt (tgt := 50) (pc := 43) C0.1 C0.2.1 dX7_isInside_43 (by decide) (fun hc => ?_) (fun hc => ?_)
        · have hf := if_t hf hc
          refine lv_iconst (v := 0) (pc := 50) C0.1 C0.2.1 dX7_isInside_50 (by decide) ?_
          exact x_zret (pc := 51) C0 hK hk hr hw rfl (congrArg (fun z => (z, u)) (Option.some.inj hf)) dX7_isInside_51
        · have hf := if_f hf hc
          refine lv_iconst (v := 1) (pc := 46) C0.1 C0.2.1 dX7_isInside_46 (by decide) ?_
          refine lv_goto (tgt := 51) (pc := 47) C0.1 C0.2.1 dX7_isInside_47 (by decide) ?_
          exact x_zret (pc := 51) C0 hK hk hr hw rfl (congrArg (fun z => (z, u)) (Option.some.inj hf)) dX7_isInside_51
def wX7_looksAt : List Cond := .code yX7_looksAt cX7_looksAt 8 none :: lwT
def rX7_looksAt : Room := { frames := 2, cells := 0, slots := 0, locals := 45 }
set_option maxRecDepth 100000 in
set_option maxHeartbeats 4000000 in
theorem kX7_looksAt (l : Launch) (D : va_G) (y : Nat → ClassId) (ad : Nat → Nat) (hI : XI ad 8) (v1 : Int32) (v2 : Int32) (v3 : Int32) (v4 : Int32) (u : S) {o : S} (hf : fX7_looksAt v1 v2 v3 v4 u = some o) : Met l yX7_looksAt wX7_looksAt rX7_looksAt (va_Pc [.ref (ad 0), .int v1, .int v2, .int v3, .int v4] (XW D y ad LM 8 u)) (XQv D y ad LM 8 o) 0 0 (XA ad 8) := by
  refine x_met (bytes := cX7_looksAt) (maxL := 8) (ret := none) (own := RX7) (by decide) rfl rfl (Nat.le_of_ble_eq_true rfl) (fun p e s m below meth c ls C0 hK hk hr hw hl => ?_)
  have hl : lv_has ls 8 [(0, .ref (ad 0)), (1, .int v1), (2, .int v2), (3, .int v3), (4, .int v4)] := hl
  unfold fX7_looksAt at hf
  refine lv_aload_n (pc := 0) C0.1 C0.2.1 dX7_looksAt_0 rfl (lv_at hl 0 rfl) ?_
  refine lv_iconst (v := 0) (pc := 1) C0.1 C0.2.1 dX7_looksAt_1 (by decide) ?_
  obtain ⟨u1, hu, hf⟩ := nm_f hf
  refine x_put (pc := 2) hI C0 hK hw (by decide) ly_m0 rfl inX7 tyX7_ok nmX7 3 (by decide) wf_X7_81 rfl rfl rfl hu rfl rfl dX7_looksAt_2 (fun H locs hw => ?_)
  refine lv_aload_n (pc := 5) C0.1 C0.2.1 dX7_looksAt_5 rfl (lv_at hl 0 rfl) ?_
  refine lv_iconst (v := 0) (pc := 6) C0.1 C0.2.1 dX7_looksAt_6 (by decide) ?_
  obtain ⟨u2, hu, hf⟩ := nm_f hf
  refine x_put (pc := 7) hI C0 hK hw (by decide) ly_m0 rfl inX7 tyX7_ok nmX7 4 (by decide) wf_X7_84 rfl rfl rfl hu rfl rfl dX7_looksAt_7 (fun H locs hw => ?_)
  refine lv_iload_n (pc := 10) C0.1 C0.2.1 dX7_looksAt_10 rfl (lv_at hl 2 rfl) ?_
  refine lv_istore (pc := 11) (lv' := [(5, .int v2), (0, .ref (ad 0)), (1, .int v1), (2, .int v2), (3, .int v3), (4, .int v4)]) C0.1 C0.2.1 dX7_looksAt_11 hl (by decide) rfl (fun ls hl => ?_)
  obtain ⟨e3, he3, hf⟩ := bd_e hf
  refine X_loop (pc := 13) (xpc := 139) (fu := fun a1 => a1.2) (fl := fun a1 => [(5, .int a1.1), (0, .ref (ad 0)), (1, .int v1), (2, .int v2), (3, .int v3), (4, .int v4)]) (fun a1 r hf hE hG H locs ls hw hl => ?_) he3 (fun H locs ls hw hl => ?_) hw hl
  · unfold gX7_looksAt_13 at hf
    refine lv_iload (pc := 13) C0.1 C0.2.1 dX7_looksAt_13 (lv_at hl 0 rfl) ?_
    refine lv_iload_n (pc := 15) C0.1 C0.2.1 dX7_looksAt_15 rfl (lv_at hl 3 rfl) ?_
    refine lv_aload_n (pc := 16) C0.1 C0.2.1 dX7_looksAt_16 rfl (lv_at hl 1 rfl) ?_
    refine lv_iload_n (pc := 17) C0.1 C0.2.1 dX7_looksAt_17 rfl (lv_at hl 2 rfl) ?_
    refine lv_iconst (v := 0) (pc := 18) C0.1 C0.2.1 dX7_looksAt_18 (by decide) ?_
    refine lv_iload (pc := 19) C0.1 C0.2.1 dX7_looksAt_19 (lv_at hl 5 rfl) ?_
    obtain ⟨q4, hq4, hf⟩ := bd_e hf
    refine x_backp (pc := 21) hw (x_runV (pc := 21) (As := [.int v1, .int 0, .int v4]) (rest := [.int v2, .int a1.1]) C0 hK hw hl.1 ⟨Nat.zero_le _, Nat.zero_le _⟩ (kX7_along l D y ad hI v1 0 v4 a1.2 hq4) (by decide) ly_m0 rfl rfl wc_X7_along wm_X7_55 wi_X7_along ws_X7_along wn_X7 ⟨rfl, rfl⟩ hd_X7_along rfl ⟨Nat.le_of_ble_eq_true rfl, Nat.le_of_ble_eq_true rfl⟩ (Nat.le_of_ble_eq_true rfl) dX7_looksAt_21) (fun H locs hw => ?_)
    refine lv_iadd (pc := 24) C0.1 C0.2.1 dX7_looksAt_24 ?_
    refine lv_icmp_ge (tgt := 139) (pc := 25) C0.1 C0.2.1 dX7_looksAt_25 (by decide) (fun hc => ?_) (fun hc => ?_)
    · have hf := if_t hf hc
      exact hE _ (Option.some.inj hf).symm H locs ls hw (lv_sub hl [0, 1, 2, 3, 4, 5] rfl)
    · have hf := if_f hf hc
      refine lv_iload_n (pc := 28) C0.1 C0.2.1 dX7_looksAt_28 rfl (lv_at hl 4 rfl) ?_
      refine lv_istore (pc := 29) (lv' := [(6, .int v3), (5, .int a1.1), (0, .ref (ad 0)), (1, .int v1), (2, .int v2), (3, .int v3), (4, .int v4)]) C0.1 C0.2.1 dX7_looksAt_29 hl (by decide) rfl (fun ls hl => ?_)
      obtain ⟨e5, he5, hf⟩ := bd_e hf
      refine X_loop (pc := 31) (xpc := 133) (fu := fun a2 => a2.2) (fl := fun a2 => [(6, .int a2.1), (5, .int a1.1), (0, .ref (ad 0)), (1, .int v1), (2, .int v2), (3, .int v3), (4, .int v4)]) (fun a2 r hf hE hG H locs ls hw hl => ?_) he5 (fun H locs ls hw hl => ?_) hw hl
      · unfold gX7_looksAt_31 at hf
        refine lv_iload (pc := 31) C0.1 C0.2.1 dX7_looksAt_31 (lv_at hl 0 rfl) ?_
        refine lv_iload_n (pc := 33) C0.1 C0.2.1 dX7_looksAt_33 rfl (lv_at hl 5 rfl) ?_
        refine lv_aload_n (pc := 34) C0.1 C0.2.1 dX7_looksAt_34 rfl (lv_at hl 2 rfl) ?_
        refine lv_iload_n (pc := 35) C0.1 C0.2.1 dX7_looksAt_35 rfl (lv_at hl 3 rfl) ?_
        refine lv_iconst (v := 1) (pc := 36) C0.1 C0.2.1 dX7_looksAt_36 (by decide) ?_
        refine lv_iload (pc := 37) C0.1 C0.2.1 dX7_looksAt_37 (lv_at hl 6 rfl) ?_
        obtain ⟨q6, hq6, hf⟩ := bd_e hf
        refine x_backp (pc := 39) hw (x_runV (pc := 39) (As := [.int v1, .int 1, .int v4]) (rest := [.int v3, .int a2.1]) C0 hK hw hl.1 ⟨Nat.zero_le _, Nat.zero_le _⟩ (kX7_along l D y ad hI v1 1 v4 a2.2 hq6) (by decide) ly_m0 rfl rfl wc_X7_along wm_X7_55 wi_X7_along ws_X7_along wn_X7 ⟨rfl, rfl⟩ hd_X7_along rfl ⟨Nat.le_of_ble_eq_true rfl, Nat.le_of_ble_eq_true rfl⟩ (Nat.le_of_ble_eq_true rfl) dX7_looksAt_39) (fun H locs hw => ?_)
        refine lv_iadd (pc := 42) C0.1 C0.2.1 dX7_looksAt_42 ?_
        refine lv_icmp_ge (tgt := 133) (pc := 43) C0.1 C0.2.1 dX7_looksAt_43 (by decide) (fun hc => ?_) (fun hc => ?_)
        · have hf := if_t hf hc
          exact hE _ (Option.some.inj hf).symm H locs ls hw (lv_sub hl [0, 1, 2, 3, 4, 5, 6] rfl)
        · have hf := if_f hf hc
          refine lv_aload_n (pc := 46) C0.1 C0.2.1 dX7_looksAt_46 rfl (lv_at hl 2 rfl) ?_
          refine x_get (pc := 47) (v := .ref (ad 2)) C0 hK hw (by decide) ly_m0 rfl inX7 2 (by decide) wf_X7_13 rfl rfl dX7_looksAt_47 ?_
          refine lv_bipush (v := 10) (pc := 50) C0.1 C0.2.1 dX7_looksAt_50 (by decide) ?_
          refine lv_iload (pc := 52) C0.1 C0.2.1 dX7_looksAt_52 (lv_at hl 1 rfl) ?_
          refine lv_imul (pc := 54) C0.1 C0.2.1 dX7_looksAt_54 ?_
          refine lv_iload (pc := 55) C0.1 C0.2.1 dX7_looksAt_55 (lv_at hl 0 rfl) ?_
          refine lv_iadd (pc := 57) C0.1 C0.2.1 dX7_looksAt_57 ?_
          obtain ⟨hi, hf⟩ := gd_e hf
          refine x_iald (pc := 58) C0 hK hw (by decide) ly_m2 hi dX7_looksAt_58 ?_
          refine lv_istore (pc := 59) (lv' := [(7, .int (a2.2.1 2 ((10 * a1.1) + a2.1).toNatClampNeg)), (6, .int a2.1), (5, .int a1.1), (0, .ref (ad 0)), (1, .int v1), (2, .int v2), (3, .int v3), (4, .int v4)]) C0.1 C0.2.1 dX7_looksAt_59 hl (by decide) rfl (fun ls hl => ?_)
          refine lv_aload_n (pc := 61) C0.1 C0.2.1 dX7_looksAt_61 rfl (lv_at hl 3 rfl) ?_
          refine lv_iload (pc := 62) C0.1 C0.2.1 dX7_looksAt_62 (lv_at hl 0 rfl) ?_
          refine lv_aload_n (pc := 64) C0.1 C0.2.1 dX7_looksAt_64 rfl (lv_at hl 3 rfl) ?_
          refine x_get (pc := 65) (v := .int (a2.2.1 0 3)) C0 hK hw (by decide) ly_m0 rfl inX7 3 (by decide) wf_X7_81 rfl rfl dX7_looksAt_65 ?_
          refine lv_icmp_le (tgt := 75) (pc := 68) C0.1 C0.2.1 dX7_looksAt_68 (by decide) (fun hc => ?_) (fun hc => ?_)
          · have hf := if_t hf hc
            refine lv_aload_n (pc := 75) C0.1 C0.2.1 dX7_looksAt_75 rfl (lv_at hl 3 rfl) ?_
            refine x_get (pc := 76) (v := .int (a2.2.1 0 4)) C0 hK hw (by decide) ly_m0 rfl inX7 4 (by decide) wf_X7_84 rfl rfl dX7_looksAt_76 ?_
            obtain ⟨u7, hu, hf⟩ := nm_f hf
            refine x_put (pc := 79) hI C0 hK hw (by decide) ly_m0 rfl inX7 tyX7_ok nmX7 4 (by decide) wf_X7_84 rfl rfl rfl hu rfl rfl dX7_looksAt_79 (fun H locs hw => ?_)
            refine lv_aload_n (pc := 82) C0.1 C0.2.1 dX7_looksAt_82 rfl (lv_at hl 3 rfl) ?_
            refine lv_iload (pc := 83) C0.1 C0.2.1 dX7_looksAt_83 (lv_at hl 0 rfl) ?_
            refine lv_aload_n (pc := 85) C0.1 C0.2.1 dX7_looksAt_85 rfl (lv_at hl 3 rfl) ?_
            refine x_get (pc := 86) (v := .int (u7.1 0 3)) C0 hK hw (by decide) ly_m0 rfl inX7 3 (by decide) wf_X7_81 rfl rfl dX7_looksAt_86 ?_
            refine lv_icmp_le (tgt := 97) (pc := 89) C0.1 C0.2.1 dX7_looksAt_89 (by decide) (fun hc => ?_) (fun hc => ?_)
            · have hf := if_t hf hc
              refine lv_aload_n (pc := 97) C0.1 C0.2.1 dX7_looksAt_97 rfl (lv_at hl 3 rfl) ?_
              refine x_get (pc := 98) (v := .int (u7.1 0 3)) C0 hK hw (by decide) ly_m0 rfl inX7 3 (by decide) wf_X7_81 rfl rfl dX7_looksAt_98 ?_
              obtain ⟨u8, hu, hf⟩ := nm_f hf
              refine x_put (pc := 101) hI C0 hK hw (by decide) ly_m0 rfl inX7 tyX7_ok nmX7 3 (by decide) wf_X7_81 rfl rfl rfl hu rfl rfl dX7_looksAt_101 (fun H locs hw => ?_)
              refine lv_aload_n (pc := 104) C0.1 C0.2.1 dX7_looksAt_104 rfl (lv_at hl 3 rfl) ?_
              refine lv_dup (pc := 105) C0.1 C0.2.1 dX7_looksAt_105 rfl ?_
              refine x_get (pc := 106) (v := .int (u8.1 0 4)) C0 hK hw (by decide) ly_m0 rfl inX7 4 (by decide) wf_X7_84 rfl rfl dX7_looksAt_106 ?_
              refine lv_iload (pc := 109) C0.1 C0.2.1 dX7_looksAt_109 (lv_at hl 0 rfl) ?_
              refine lv_aload_n (pc := 111) C0.1 C0.2.1 dX7_looksAt_111 rfl (lv_at hl 3 rfl) ?_
              refine x_get (pc := 112) (v := .int (u8.1 0 3)) C0 hK hw (by decide) ly_m0 rfl inX7 3 (by decide) wf_X7_81 rfl rfl dX7_looksAt_112 ?_
              refine lv_icmp_ne (tgt := 122) (pc := 115) C0.1 C0.2.1 dX7_looksAt_115 (by decide) (fun hc => ?_) (fun hc => ?_)
              · have hf := if_f hf hc
                refine lv_iconst (v := 0) (pc := 122) C0.1 C0.2.1 dX7_looksAt_122 (by decide) ?_
                refine lv_iadd (pc := 123) C0.1 C0.2.1 dX7_looksAt_123 ?_
                obtain ⟨u9, hu, hf⟩ := nm_f hf
                refine x_put (pc := 124) hI C0 hK hw (by decide) ly_m0 rfl inX7 tyX7_ok nmX7 4 (by decide) wf_X7_84 rfl rfl rfl hu rfl rfl dX7_looksAt_124 (fun H locs hw => ?_)
                refine lv_iinc (pc := 127) (v := a2.1 + 1) (lv' := [(6, .int (a2.1 + 1)), (7, .int (a2.2.1 2 ((10 * a1.1) + a2.1).toNatClampNeg)), (5, .int a1.1), (0, .ref (ad 0)), (1, .int v1), (2, .int v2), (3, .int v3), (4, .int v4)]) C0.1 C0.2.1 dX7_looksAt_127 hl (k := 1) rfl rfl (by decide) rfl (fun ls hl => ?_)
                refine lv_goto (tgt := 31) (pc := 130) C0.1 C0.2.1 dX7_looksAt_130 (by decide) ?_
                exact hG _ (Option.some.inj hf).symm H locs ls hw (lv_sub hl [0, 2, 3, 4, 5, 6, 7] rfl)
              · have hf := if_t hf hc
                refine lv_iconst (v := 1) (pc := 118) C0.1 C0.2.1 dX7_looksAt_118 (by decide) ?_
                refine lv_goto (tgt := 123) (pc := 119) C0.1 C0.2.1 dX7_looksAt_119 (by decide) ?_
                refine lv_iadd (pc := 123) C0.1 C0.2.1 dX7_looksAt_123 ?_
                obtain ⟨u10, hu, hf⟩ := nm_f hf
                refine x_put (pc := 124) hI C0 hK hw (by decide) ly_m0 rfl inX7 tyX7_ok nmX7 4 (by decide) wf_X7_84 rfl rfl rfl hu rfl rfl dX7_looksAt_124 (fun H locs hw => ?_)
                refine lv_iinc (pc := 127) (v := a2.1 + 1) (lv' := [(6, .int (a2.1 + 1)), (7, .int (a2.2.1 2 ((10 * a1.1) + a2.1).toNatClampNeg)), (5, .int a1.1), (0, .ref (ad 0)), (1, .int v1), (2, .int v2), (3, .int v3), (4, .int v4)]) C0.1 C0.2.1 dX7_looksAt_127 hl (k := 1) rfl rfl (by decide) rfl (fun ls hl => ?_)
                refine lv_goto (tgt := 31) (pc := 130) C0.1 C0.2.1 dX7_looksAt_130 (by decide) ?_
                exact hG _ (Option.some.inj hf).symm H locs ls hw (lv_sub hl [0, 2, 3, 4, 5, 6, 7] rfl)
            · have hf := if_f hf hc
              refine lv_iload (pc := 92) C0.1 C0.2.1 dX7_looksAt_92 (lv_at hl 0 rfl) ?_
              refine lv_goto (tgt := 101) (pc := 94) C0.1 C0.2.1 dX7_looksAt_94 (by decide) ?_
              obtain ⟨u11, hu, hf⟩ := nm_f hf
              refine x_put (pc := 101) hI C0 hK hw (by decide) ly_m0 rfl inX7 tyX7_ok nmX7 3 (by decide) wf_X7_81 rfl rfl rfl hu rfl rfl dX7_looksAt_101 (fun H locs hw => ?_)
              refine lv_aload_n (pc := 104) C0.1 C0.2.1 dX7_looksAt_104 rfl (lv_at hl 3 rfl) ?_
              refine lv_dup (pc := 105) C0.1 C0.2.1 dX7_looksAt_105 rfl ?_
              refine x_get (pc := 106) (v := .int (u11.1 0 4)) C0 hK hw (by decide) ly_m0 rfl inX7 4 (by decide) wf_X7_84 rfl rfl dX7_looksAt_106 ?_
              refine lv_iload (pc := 109) C0.1 C0.2.1 dX7_looksAt_109 (lv_at hl 0 rfl) ?_
              refine lv_aload_n (pc := 111) C0.1 C0.2.1 dX7_looksAt_111 rfl (lv_at hl 3 rfl) ?_
              refine x_get (pc := 112) (v := .int (u11.1 0 3)) C0 hK hw (by decide) ly_m0 rfl inX7 3 (by decide) wf_X7_81 rfl rfl dX7_looksAt_112 ?_
              refine lv_icmp_ne (tgt := 122) (pc := 115) C0.1 C0.2.1 dX7_looksAt_115 (by decide) (fun hc => ?_) (fun hc => ?_)
              · have hf := if_f hf hc
                refine lv_iconst (v := 0) (pc := 122) C0.1 C0.2.1 dX7_looksAt_122 (by decide) ?_
                refine lv_iadd (pc := 123) C0.1 C0.2.1 dX7_looksAt_123 ?_
                obtain ⟨u12, hu, hf⟩ := nm_f hf
                refine x_put (pc := 124) hI C0 hK hw (by decide) ly_m0 rfl inX7 tyX7_ok nmX7 4 (by decide) wf_X7_84 rfl rfl rfl hu rfl rfl dX7_looksAt_124 (fun H locs hw => ?_)
                refine lv_iinc (pc := 127) (v := a2.1 + 1) (lv' := [(6, .int (a2.1 + 1)), (7, .int (a2.2.1 2 ((10 * a1.1) + a2.1).toNatClampNeg)), (5, .int a1.1), (0, .ref (ad 0)), (1, .int v1), (2, .int v2), (3, .int v3), (4, .int v4)]) C0.1 C0.2.1 dX7_looksAt_127 hl (k := 1) rfl rfl (by decide) rfl (fun ls hl => ?_)
                refine lv_goto (tgt := 31) (pc := 130) C0.1 C0.2.1 dX7_looksAt_130 (by decide) ?_
                exact hG _ (Option.some.inj hf).symm H locs ls hw (lv_sub hl [0, 2, 3, 4, 5, 6, 7] rfl)
              · have hf := if_t hf hc
                refine lv_iconst (v := 1) (pc := 118) C0.1 C0.2.1 dX7_looksAt_118 (by decide) ?_
                refine lv_goto (tgt := 123) (pc := 119) C0.1 C0.2.1 dX7_looksAt_119 (by decide) ?_
                refine lv_iadd (pc := 123) C0.1 C0.2.1 dX7_looksAt_123 ?_
                obtain ⟨u13, hu, hf⟩ := nm_f hf
                refine x_put (pc := 124) hI C0 hK hw (by decide) ly_m0 rfl inX7 tyX7_ok nmX7 4 (by decide) wf_X7_84 rfl rfl rfl hu rfl rfl dX7_looksAt_124 (fun H locs hw => ?_)
                refine lv_iinc (pc := 127) (v := a2.1 + 1) (lv' := [(6, .int (a2.1 + 1)), (7, .int (a2.2.1 2 ((10 * a1.1) + a2.1).toNatClampNeg)), (5, .int a1.1), (0, .ref (ad 0)), (1, .int v1), (2, .int v2), (3, .int v3), (4, .int v4)]) C0.1 C0.2.1 dX7_looksAt_127 hl (k := 1) rfl rfl (by decide) rfl (fun ls hl => ?_)
                refine lv_goto (tgt := 31) (pc := 130) C0.1 C0.2.1 dX7_looksAt_130 (by decide) ?_
                exact hG _ (Option.some.inj hf).symm H locs ls hw (lv_sub hl [0, 2, 3, 4, 5, 6, 7] rfl)
          · have hf := if_f hf hc
            refine lv_iconst (v := 0) (pc := 71) C0.1 C0.2.1 dX7_looksAt_71 (by decide) ?_
            refine lv_goto (tgt := 79) (pc := 72) C0.1 C0.2.1 dX7_looksAt_72 (by decide) ?_
            obtain ⟨u14, hu, hf⟩ := nm_f hf
            refine x_put (pc := 79) hI C0 hK hw (by decide) ly_m0 rfl inX7 tyX7_ok nmX7 4 (by decide) wf_X7_84 rfl rfl rfl hu rfl rfl dX7_looksAt_79 (fun H locs hw => ?_)
            refine lv_aload_n (pc := 82) C0.1 C0.2.1 dX7_looksAt_82 rfl (lv_at hl 3 rfl) ?_
            refine lv_iload (pc := 83) C0.1 C0.2.1 dX7_looksAt_83 (lv_at hl 0 rfl) ?_
            refine lv_aload_n (pc := 85) C0.1 C0.2.1 dX7_looksAt_85 rfl (lv_at hl 3 rfl) ?_
            refine x_get (pc := 86) (v := .int (u14.1 0 3)) C0 hK hw (by decide) ly_m0 rfl inX7 3 (by decide) wf_X7_81 rfl rfl dX7_looksAt_86 ?_
            refine lv_icmp_le (tgt := 97) (pc := 89) C0.1 C0.2.1 dX7_looksAt_89 (by decide) (fun hc => ?_) (fun hc => ?_)
            · have hf := if_t hf hc
              refine lv_aload_n (pc := 97) C0.1 C0.2.1 dX7_looksAt_97 rfl (lv_at hl 3 rfl) ?_
              refine x_get (pc := 98) (v := .int (u14.1 0 3)) C0 hK hw (by decide) ly_m0 rfl inX7 3 (by decide) wf_X7_81 rfl rfl dX7_looksAt_98 ?_
              obtain ⟨u15, hu, hf⟩ := nm_f hf
              refine x_put (pc := 101) hI C0 hK hw (by decide) ly_m0 rfl inX7 tyX7_ok nmX7 3 (by decide) wf_X7_81 rfl rfl rfl hu rfl rfl dX7_looksAt_101 (fun H locs hw => ?_)
              refine lv_aload_n (pc := 104) C0.1 C0.2.1 dX7_looksAt_104 rfl (lv_at hl 3 rfl) ?_
              refine lv_dup (pc := 105) C0.1 C0.2.1 dX7_looksAt_105 rfl ?_
              refine x_get (pc := 106) (v := .int (u15.1 0 4)) C0 hK hw (by decide) ly_m0 rfl inX7 4 (by decide) wf_X7_84 rfl rfl dX7_looksAt_106 ?_
              refine lv_iload (pc := 109) C0.1 C0.2.1 dX7_looksAt_109 (lv_at hl 0 rfl) ?_
              refine lv_aload_n (pc := 111) C0.1 C0.2.1 dX7_looksAt_111 rfl (lv_at hl 3 rfl) ?_
              refine x_get (pc := 112) (v := .int (u15.1 0 3)) C0 hK hw (by decide) ly_m0 rfl inX7 3 (by decide) wf_X7_81 rfl rfl dX7_looksAt_112 ?_
              refine lv_icmp_ne (tgt := 122) (pc := 115) C0.1 C0.2.1 dX7_looksAt_115 (by decide) (fun hc => ?_) (fun hc => ?_)
              · have hf := if_f hf hc
                refine lv_iconst (v := 0) (pc := 122) C0.1 C0.2.1 dX7_looksAt_122 (by decide) ?_
                refine lv_iadd (pc := 123) C0.1 C0.2.1 dX7_looksAt_123 ?_
                obtain ⟨u16, hu, hf⟩ := nm_f hf
                refine x_put (pc := 124) hI C0 hK hw (by decide) ly_m0 rfl inX7 tyX7_ok nmX7 4 (by decide) wf_X7_84 rfl rfl rfl hu rfl rfl dX7_looksAt_124 (fun H locs hw => ?_)
                refine lv_iinc (pc := 127) (v := a2.1 + 1) (lv' := [(6, .int (a2.1 + 1)), (7, .int (a2.2.1 2 ((10 * a1.1) + a2.1).toNatClampNeg)), (5, .int a1.1), (0, .ref (ad 0)), (1, .int v1), (2, .int v2), (3, .int v3), (4, .int v4)]) C0.1 C0.2.1 dX7_looksAt_127 hl (k := 1) rfl rfl (by decide) rfl (fun ls hl => ?_)
                refine lv_goto (tgt := 31) (pc := 130) C0.1 C0.2.1 dX7_looksAt_130 (by decide) ?_
                exact hG _ (Option.some.inj hf).symm H locs ls hw (lv_sub hl [0, 2, 3, 4, 5, 6, 7] rfl)
              · have hf := if_t hf hc
                refine lv_iconst (v := 1) (pc := 118) C0.1 C0.2.1 dX7_looksAt_118 (by decide) ?_
                refine lv_goto (tgt := 123) (pc := 119) C0.1 C0.2.1 dX7_looksAt_119 (by decide) ?_
                refine lv_iadd (pc := 123) C0.1 C0.2.1 dX7_looksAt_123 ?_
                obtain ⟨u17, hu, hf⟩ := nm_f hf
                refine x_put (pc := 124) hI C0 hK hw (by decide) ly_m0 rfl inX7 tyX7_ok nmX7 4 (by decide) wf_X7_84 rfl rfl rfl hu rfl rfl dX7_looksAt_124 (fun H locs hw => ?_)
                refine lv_iinc (pc := 127) (v := a2.1 + 1) (lv' := [(6, .int (a2.1 + 1)), (7, .int (a2.2.1 2 ((10 * a1.1) + a2.1).toNatClampNeg)), (5, .int a1.1), (0, .ref (ad 0)), (1, .int v1), (2, .int v2), (3, .int v3), (4, .int v4)]) C0.1 C0.2.1 dX7_looksAt_127 hl (k := 1) rfl rfl (by decide) rfl (fun ls hl => ?_)
                refine lv_goto (tgt := 31) (pc := 130) C0.1 C0.2.1 dX7_looksAt_130 (by decide) ?_
                exact hG _ (Option.some.inj hf).symm H locs ls hw (lv_sub hl [0, 2, 3, 4, 5, 6, 7] rfl)
            · have hf := if_f hf hc
              refine lv_iload (pc := 92) C0.1 C0.2.1 dX7_looksAt_92 (lv_at hl 0 rfl) ?_
              refine lv_goto (tgt := 101) (pc := 94) C0.1 C0.2.1 dX7_looksAt_94 (by decide) ?_
              obtain ⟨u18, hu, hf⟩ := nm_f hf
              refine x_put (pc := 101) hI C0 hK hw (by decide) ly_m0 rfl inX7 tyX7_ok nmX7 3 (by decide) wf_X7_81 rfl rfl rfl hu rfl rfl dX7_looksAt_101 (fun H locs hw => ?_)
              refine lv_aload_n (pc := 104) C0.1 C0.2.1 dX7_looksAt_104 rfl (lv_at hl 3 rfl) ?_
              refine lv_dup (pc := 105) C0.1 C0.2.1 dX7_looksAt_105 rfl ?_
              refine x_get (pc := 106) (v := .int (u18.1 0 4)) C0 hK hw (by decide) ly_m0 rfl inX7 4 (by decide) wf_X7_84 rfl rfl dX7_looksAt_106 ?_
              refine lv_iload (pc := 109) C0.1 C0.2.1 dX7_looksAt_109 (lv_at hl 0 rfl) ?_
              refine lv_aload_n (pc := 111) C0.1 C0.2.1 dX7_looksAt_111 rfl (lv_at hl 3 rfl) ?_
              refine x_get (pc := 112) (v := .int (u18.1 0 3)) C0 hK hw (by decide) ly_m0 rfl inX7 3 (by decide) wf_X7_81 rfl rfl dX7_looksAt_112 ?_
              refine lv_icmp_ne (tgt := 122) (pc := 115) C0.1 C0.2.1 dX7_looksAt_115 (by decide) (fun hc => ?_) (fun hc => ?_)
              · have hf := if_f hf hc
                refine lv_iconst (v := 0) (pc := 122) C0.1 C0.2.1 dX7_looksAt_122 (by decide) ?_
                refine lv_iadd (pc := 123) C0.1 C0.2.1 dX7_looksAt_123 ?_
                obtain ⟨u19, hu, hf⟩ := nm_f hf
                refine x_put (pc := 124) hI C0 hK hw (by decide) ly_m0 rfl inX7 tyX7_ok nmX7 4 (by decide) wf_X7_84 rfl rfl rfl hu rfl rfl dX7_looksAt_124 (fun H locs hw => ?_)
                refine lv_iinc (pc := 127) (v := a2.1 + 1) (lv' := [(6, .int (a2.1 + 1)), (7, .int (a2.2.1 2 ((10 * a1.1) + a2.1).toNatClampNeg)), (5, .int a1.1), (0, .ref (ad 0)), (1, .int v1), (2, .int v2), (3, .int v3), (4, .int v4)]) C0.1 C0.2.1 dX7_looksAt_127 hl (k := 1) rfl rfl (by decide) rfl (fun ls hl => ?_)
                refine lv_goto (tgt := 31) (pc := 130) C0.1 C0.2.1 dX7_looksAt_130 (by decide) ?_
                exact hG _ (Option.some.inj hf).symm H locs ls hw (lv_sub hl [0, 2, 3, 4, 5, 6, 7] rfl)
              · have hf := if_t hf hc
                refine lv_iconst (v := 1) (pc := 118) C0.1 C0.2.1 dX7_looksAt_118 (by decide) ?_
                refine lv_goto (tgt := 123) (pc := 119) C0.1 C0.2.1 dX7_looksAt_119 (by decide) ?_
                refine lv_iadd (pc := 123) C0.1 C0.2.1 dX7_looksAt_123 ?_
                obtain ⟨u20, hu, hf⟩ := nm_f hf
                refine x_put (pc := 124) hI C0 hK hw (by decide) ly_m0 rfl inX7 tyX7_ok nmX7 4 (by decide) wf_X7_84 rfl rfl rfl hu rfl rfl dX7_looksAt_124 (fun H locs hw => ?_)
                refine lv_iinc (pc := 127) (v := a2.1 + 1) (lv' := [(6, .int (a2.1 + 1)), (7, .int (a2.2.1 2 ((10 * a1.1) + a2.1).toNatClampNeg)), (5, .int a1.1), (0, .ref (ad 0)), (1, .int v1), (2, .int v2), (3, .int v3), (4, .int v4)]) C0.1 C0.2.1 dX7_looksAt_127 hl (k := 1) rfl rfl (by decide) rfl (fun ls hl => ?_)
                refine lv_goto (tgt := 31) (pc := 130) C0.1 C0.2.1 dX7_looksAt_130 (by decide) ?_
                exact hG _ (Option.some.inj hf).symm H locs ls hw (lv_sub hl [0, 2, 3, 4, 5, 6, 7] rfl)
      · skip
        refine lv_iinc (pc := 133) (v := a1.1 + 1) (lv' := [(5, .int (a1.1 + 1)), (6, .int e5.1), (0, .ref (ad 0)), (1, .int v1), (2, .int v2), (3, .int v3), (4, .int v4)]) C0.1 C0.2.1 dX7_looksAt_133 hl (k := 1) rfl rfl (by decide) rfl (fun ls hl => ?_)
        refine lv_goto (tgt := 13) (pc := 136) C0.1 C0.2.1 dX7_looksAt_136 (by decide) ?_
        exact hG _ (Option.some.inj hf).symm H locs ls hw (lv_sub hl [0, 2, 3, 4, 5, 6] rfl)
  · skip
    exact x_vret (pc := 139) C0 hK hk hr hw (Option.some.inj hf) dX7_looksAt_139
def wX7_can : List Cond := .code yX7_can cX7_can 5 (some .boolean) :: lwT
def rX7_can : Room := { frames := 3, cells := 0, slots := 0, locals := 72 }
set_option maxRecDepth 100000 in
set_option maxHeartbeats 4000000 in
theorem kX7_can (l : Launch) (D : va_G) (y : Nat → ClassId) (ad : Nat → Nat) (hI : XI ad 8) (v1 : Int32) (v2 : Int32) (v3 : Int32) (v4 : Int32) (u : S) {o : Int32 × S} (hf : fX7_can v1 v2 v3 v4 u = some o) : Met l yX7_can wX7_can rX7_can (va_Pc [.ref (ad 0), .int v1, .int v2, .int v3, .int v4] (XW D y ad LM 8 u)) (XQi D y ad LM 8 o) 0 0 (XA ad 8) := by
  refine x_met (bytes := cX7_can) (maxL := 5) (ret := (some .boolean)) (own := RX7) (by decide) rfl rfl (Nat.le_of_ble_eq_true rfl) (fun p e s m below meth c ls C0 hK hk hr hw hl => ?_)
  have hl : lv_has ls 5 [(0, .ref (ad 0)), (1, .int v1), (2, .int v2), (3, .int v3), (4, .int v4)] := hl
  unfold fX7_can at hf
  refine lv_aload_n (pc := 0) C0.1 C0.2.1 dX7_can_0 rfl (lv_at hl 0 rfl) ?_
  refine lv_iload_n (pc := 1) C0.1 C0.2.1 dX7_can_1 rfl (lv_at hl 1 rfl) ?_
  refine lv_iload_n (pc := 2) C0.1 C0.2.1 dX7_can_2 rfl (lv_at hl 2 rfl) ?_
  refine lv_iload_n (pc := 3) C0.1 C0.2.1 dX7_can_3 rfl (lv_at hl 3 rfl) ?_
  refine lv_iload (pc := 4) C0.1 C0.2.1 dX7_can_4 (lv_at hl 4 rfl) ?_
  obtain ⟨q1, hq1, hf⟩ := bd_e hf
  refine x_backv (pc := 6) hw (x_runV (pc := 6) (As := [.int v1, .int v2, .int v3, .int v4]) (rest := []) C0 hK hw hl.1 ⟨Nat.zero_le _, Nat.zero_le _⟩ (kX7_looksAt l D y ad hI v1 v2 v3 v4 u hq1) (by decide) ly_m0 rfl rfl wc_X7_looksAt wm_X7_87 wi_X7_looksAt ws_X7_looksAt wn_X7 ⟨rfl, rfl⟩ hd_X7_looksAt rfl ⟨Nat.le_of_ble_eq_true rfl, Nat.le_of_ble_eq_true rfl⟩ (Nat.le_of_ble_eq_true rfl) dX7_can_6) (fun H locs hw => ?_)
  refine lv_aload_n (pc := 9) C0.1 C0.2.1 dX7_can_9 rfl (lv_at hl 0 rfl) ?_
  refine x_get (pc := 10) (v := .int (q1.1 0 3)) C0 hK hw (by decide) ly_m0 rfl inX7 3 (by decide) wf_X7_81 rfl rfl dX7_can_10 ?_
  refine lv_aload_n (pc := 13) C0.1 C0.2.1 dX7_can_13 rfl (lv_at hl 0 rfl) ?_
  refine lv_iload_n (pc := 14) C0.1 C0.2.1 dX7_can_14 rfl (lv_at hl 1 rfl) ?_
  obtain ⟨q2, hq2, hf⟩ := bd_e hf
  refine x_backp (pc := 15) hw (x_runV (pc := 15) (As := [.int v1]) (rest := [.int (q1.1 0 3)]) C0 hK hw hl.1 ⟨Nat.zero_le _, Nat.zero_le _⟩ (kX7_high l D y ad hI v1 q1 hq2) (by decide) ly_m0 rfl rfl wc_X7_high wm_X7_51 wi_X7_high ws_X7_high wn_X7 ⟨rfl, rfl⟩ hd_X7_high rfl ⟨Nat.le_of_ble_eq_true rfl, Nat.le_of_ble_eq_true rfl⟩ (Nat.le_of_ble_eq_true rfl) dX7_can_15) (fun H locs hw => ?_)
  refine lv_iadd (pc := 18) C0.1 C0.2.1 dX7_can_18 ?_
  refine lv_aload_n (pc := 19) C0.1 C0.2.1 dX7_can_19 rfl (lv_at hl 0 rfl) ?_
  refine x_get (pc := 20) (v := .ref (ad 1)) C0 hK hw (by decide) ly_m0 rfl inX7 0 (by decide) wf_X7_7 rfl rfl dX7_can_20 ?_
  refine lv_iconst (v := 2) (pc := 23) C0.1 C0.2.1 dX7_can_23 (by decide) ?_
  obtain ⟨hi, hf⟩ := gd_e hf
  refine x_iald (pc := 24) C0 hK hw (by decide) ly_m1 hi dX7_can_24 ?_
  refine lv_icmp_gt (tgt := 62) (pc := 25) C0.1 C0.2.1 dX7_can_25 (by decide) (fun hc => ?_) (fun hc => ?_)
  · have hf := if_t hf hc
    refine lv_iconst (v := 0) (pc := 62) C0.1 C0.2.1 dX7_can_62 (by decide) ?_
    exact x_zret (pc := 63) C0 hK hk hr hw rfl (Option.some.inj hf) dX7_can_63
  · have hf := if_f hf hc
    refine lv_bipush (v := 100) (pc := 28) C0.1 C0.2.1 dX7_can_28 (by decide) ?_
    refine lv_aload_n (pc := 30) C0.1 C0.2.1 dX7_can_30 rfl (lv_at hl 0 rfl) ?_
    refine x_get (pc := 31) (v := .int (q1.1 0 4)) C0 hK hw (by decide) ly_m0 rfl inX7 4 (by decide) wf_X7_84 rfl rfl dX7_can_31 ?_
    refine lv_imul (pc := 34) C0.1 C0.2.1 dX7_can_34 ?_
    refine lv_aload_n (pc := 35) C0.1 C0.2.1 dX7_can_35 rfl (lv_at hl 0 rfl) ?_
    refine x_get (pc := 36) (v := .ref (ad 1)) C0 hK hw (by decide) ly_m0 rfl inX7 0 (by decide) wf_X7_7 rfl rfl dX7_can_36 ?_
    refine lv_iconst (v := 3) (pc := 39) C0.1 C0.2.1 dX7_can_39 (by decide) ?_
    obtain ⟨hi, hf⟩ := gd_e hf
    refine x_iald (pc := 40) C0 hK hw (by decide) ly_m1 hi dX7_can_40 ?_
    refine lv_aload_n (pc := 41) C0.1 C0.2.1 dX7_can_41 rfl (lv_at hl 0 rfl) ?_
    refine lv_iload_n (pc := 42) C0.1 C0.2.1 dX7_can_42 rfl (lv_at hl 1 rfl) ?_
    refine lv_iconst (v := 0) (pc := 43) C0.1 C0.2.1 dX7_can_43 (by decide) ?_
    obtain ⟨q3, hq3, hf⟩ := bd_e hf
    refine x_backp (pc := 44) hw (x_runV (pc := 44) (As := [.int v1, .int 0]) (rest := [.int (q1.1 1 (3 : Int32).toNatClampNeg), .int (100 * (q1.1 0 4))]) C0 hK hw hl.1 ⟨Nat.zero_le _, Nat.zero_le _⟩ (kX7_of l D y ad hI v1 0 q1 hq3) (by decide) ly_m0 rfl rfl wc_X7_of wm_X7_47 wi_X7_of ws_X7_of wn_X7 ⟨rfl, rfl⟩ hd_X7_of rfl ⟨Nat.le_of_ble_eq_true rfl, Nat.le_of_ble_eq_true rfl⟩ (Nat.le_of_ble_eq_true rfl) dX7_can_44) (fun H locs hw => ?_)
    refine lv_imul (pc := 47) C0.1 C0.2.1 dX7_can_47 ?_
    refine lv_aload_n (pc := 48) C0.1 C0.2.1 dX7_can_48 rfl (lv_at hl 0 rfl) ?_
    refine lv_iload_n (pc := 49) C0.1 C0.2.1 dX7_can_49 rfl (lv_at hl 1 rfl) ?_
    refine lv_iconst (v := 1) (pc := 50) C0.1 C0.2.1 dX7_can_50 (by decide) ?_
    obtain ⟨q4, hq4, hf⟩ := bd_e hf
    refine x_backp (pc := 51) hw (x_runV (pc := 51) (As := [.int v1, .int 1]) (rest := [.int ((q1.1 1 (3 : Int32).toNatClampNeg) * q3), .int (100 * (q1.1 0 4))]) C0 hK hw hl.1 ⟨Nat.zero_le _, Nat.zero_le _⟩ (kX7_of l D y ad hI v1 1 q1 hq4) (by decide) ly_m0 rfl rfl wc_X7_of wm_X7_47 wi_X7_of ws_X7_of wn_X7 ⟨rfl, rfl⟩ hd_X7_of rfl ⟨Nat.le_of_ble_eq_true rfl, Nat.le_of_ble_eq_true rfl⟩ (Nat.le_of_ble_eq_true rfl) dX7_can_51) (fun H locs hw => ?_)
    refine lv_imul (pc := 54) C0.1 C0.2.1 dX7_can_54 ?_
    refine lv_icmp_lt (tgt := 62) (pc := 55) C0.1 C0.2.1 dX7_can_55 (by decide) (fun hc => ?_) (fun hc => ?_)
    · have hf := if_t hf hc
      refine lv_iconst (v := 0) (pc := 62) C0.1 C0.2.1 dX7_can_62 (by decide) ?_
      exact x_zret (pc := 63) C0 hK hk hr hw rfl (Option.some.inj hf) dX7_can_63
    · have hf := if_f hf hc
      refine lv_iconst (v := 1) (pc := 58) C0.1 C0.2.1 dX7_can_58 (by decide) ?_
      refine lv_goto (tgt := 63) (pc := 59) C0.1 C0.2.1 dX7_can_59 (by decide) ?_
      exact x_zret (pc := 63) C0 hK hk hr hw rfl (Option.some.inj hf) dX7_can_63
def wX7_comes : List Cond := .code yX7_comes cX7_comes 5 none :: lwT
def rX7_comes : Room := { frames := 5, cells := 0, slots := 0, locals := 112 }
set_option maxRecDepth 100000 in
set_option maxHeartbeats 4000000 in
theorem kX7_comes (l : Launch) (D : va_G) (y : Nat → ClassId) (ad : Nat → Nat) (hI : XI ad 8) (v1 : Int32) (v2 : Int32) (v3 : Int32) (v4 : Int32) (u : S) {o : S} (hf : fX7_comes v1 v2 v3 v4 u = some o) : Met l yX7_comes wX7_comes rX7_comes (va_Pc [.ref (ad 0), .int v1, .int v2, .int v3, .int v4] (XW D y ad LM 8 u)) (XQv D y ad LM 8 o) 0 0 (XA ad 8) := by
  refine x_met (bytes := cX7_comes) (maxL := 5) (ret := none) (own := RX7) (by decide) rfl rfl (Nat.le_of_ble_eq_true rfl) (fun p e s m below meth c ls C0 hK hk hr hw hl => ?_)
  have hl : lv_has ls 5 [(0, .ref (ad 0)), (1, .int v1), (2, .int v2), (3, .int v3), (4, .int v4)] := hl
  unfold fX7_comes at hf
  refine lv_aload_n (pc := 0) C0.1 C0.2.1 dX7_comes_0 rfl (lv_at hl 0 rfl) ?_
  obtain ⟨q1, hq1, hf⟩ := bd_e hf
  refine x_backv (pc := 1) hw (x_runV (pc := 1) (As := []) (rest := []) C0 hK hw hl.1 ⟨Nat.zero_le _, Nat.zero_le _⟩ (kX7_laysTops l D y ad hI  u hq1) (by decide) ly_m0 rfl rfl wc_X7_laysTops wm_X7_91 wi_X7_laysTops ws_X7_laysTops wn_X7 ⟨rfl, rfl⟩ hd_X7_laysTops rfl ⟨Nat.le_of_ble_eq_true rfl, Nat.le_of_ble_eq_true rfl⟩ (Nat.le_of_ble_eq_true rfl) dX7_comes_1) (fun H locs hw => ?_)
  refine lv_aload_n (pc := 4) C0.1 C0.2.1 dX7_comes_4 rfl (lv_at hl 0 rfl) ?_
  refine lv_iload_n (pc := 5) C0.1 C0.2.1 dX7_comes_5 rfl (lv_at hl 1 rfl) ?_
  refine lv_iload_n (pc := 6) C0.1 C0.2.1 dX7_comes_6 rfl (lv_at hl 2 rfl) ?_
  refine lv_iload_n (pc := 7) C0.1 C0.2.1 dX7_comes_7 rfl (lv_at hl 3 rfl) ?_
  refine lv_iload (pc := 8) C0.1 C0.2.1 dX7_comes_8 (lv_at hl 4 rfl) ?_
  refine lv_iconst (v := 1) (pc := 10) C0.1 C0.2.1 dX7_comes_10 (by decide) ?_
  refine lv_icmp_ne (tgt := 18) (pc := 11) C0.1 C0.2.1 dX7_comes_11 (by decide) (fun hc => ?_) (fun hc => ?_)
  · have hf := if_f hf hc
    refine lv_iconst (v := 0) (pc := 18) C0.1 C0.2.1 dX7_comes_18 (by decide) ?_
    obtain ⟨q2, hq2, hf⟩ := bd_e hf
    refine x_backv (pc := 19) hw (x_runV (pc := 19) (As := [.int v1, .int v2, .int v3, .int 0]) (rest := []) C0 hK hw hl.1 ⟨Nat.zero_le _, Nat.zero_le _⟩ (kX7_looksAt l D y ad hI v1 v2 v3 0 q1 hq2) (by decide) ly_m0 rfl rfl wc_X7_looksAt wm_X7_87 wi_X7_looksAt ws_X7_looksAt wn_X7 ⟨rfl, rfl⟩ hd_X7_looksAt rfl ⟨Nat.le_of_ble_eq_true rfl, Nat.le_of_ble_eq_true rfl⟩ (Nat.le_of_ble_eq_true rfl) dX7_comes_19) (fun H locs hw => ?_)
    refine lv_aload_n (pc := 22) C0.1 C0.2.1 dX7_comes_22 rfl (lv_at hl 0 rfl) ?_
    refine lv_iload_n (pc := 23) C0.1 C0.2.1 dX7_comes_23 rfl (lv_at hl 1 rfl) ?_
    refine lv_iconst (v := 5) (pc := 24) C0.1 C0.2.1 dX7_comes_24 (by decide) ?_
    refine lv_iconst (v := 1) (pc := 25) C0.1 C0.2.1 dX7_comes_25 (by decide) ?_
    obtain ⟨q3, hq3, hf⟩ := bd_e hf
    refine x_backv (pc := 26) hw (x_runV (pc := 26) (As := [.int v1, .int 5, .int 1]) (rest := []) C0 hK hw hl.1 ⟨Nat.zero_le _, Nat.zero_le _⟩ (kX7_sets l D y ad hI v1 5 1 q2 hq3) (by decide) ly_m0 rfl rfl wc_X7_sets wm_X7_63 wi_X7_sets ws_X7_sets wn_X7 ⟨rfl, rfl⟩ hd_X7_sets rfl ⟨Nat.le_of_ble_eq_true rfl, Nat.le_of_ble_eq_true rfl⟩ (Nat.le_of_ble_eq_true rfl) dX7_comes_26) (fun H locs hw => ?_)
    refine lv_aload_n (pc := 29) C0.1 C0.2.1 dX7_comes_29 rfl (lv_at hl 0 rfl) ?_
    refine lv_iload_n (pc := 30) C0.1 C0.2.1 dX7_comes_30 rfl (lv_at hl 1 rfl) ?_
    refine lv_bipush (v := 6) (pc := 31) C0.1 C0.2.1 dX7_comes_31 (by decide) ?_
    refine lv_iload (pc := 33) C0.1 C0.2.1 dX7_comes_33 (lv_at hl 4 rfl) ?_
    obtain ⟨q4, hq4, hf⟩ := bd_e hf
    refine x_backv (pc := 35) hw (x_runV (pc := 35) (As := [.int v1, .int 6, .int v4]) (rest := []) C0 hK hw hl.1 ⟨Nat.zero_le _, Nat.zero_le _⟩ (kX7_sets l D y ad hI v1 6 v4 q3 hq4) (by decide) ly_m0 rfl rfl wc_X7_sets wm_X7_63 wi_X7_sets ws_X7_sets wn_X7 ⟨rfl, rfl⟩ hd_X7_sets rfl ⟨Nat.le_of_ble_eq_true rfl, Nat.le_of_ble_eq_true rfl⟩ (Nat.le_of_ble_eq_true rfl) dX7_comes_35) (fun H locs hw => ?_)
    refine lv_aload_n (pc := 38) C0.1 C0.2.1 dX7_comes_38 rfl (lv_at hl 0 rfl) ?_
    refine lv_iload_n (pc := 39) C0.1 C0.2.1 dX7_comes_39 rfl (lv_at hl 1 rfl) ?_
    refine lv_bipush (v := 7) (pc := 40) C0.1 C0.2.1 dX7_comes_40 (by decide) ?_
    refine lv_iload_n (pc := 42) C0.1 C0.2.1 dX7_comes_42 rfl (lv_at hl 2 rfl) ?_
    obtain ⟨q5, hq5, hf⟩ := bd_e hf
    refine x_backv (pc := 43) hw (x_runV (pc := 43) (As := [.int v1, .int 7, .int v2]) (rest := []) C0 hK hw hl.1 ⟨Nat.zero_le _, Nat.zero_le _⟩ (kX7_sets l D y ad hI v1 7 v2 q4 hq5) (by decide) ly_m0 rfl rfl wc_X7_sets wm_X7_63 wi_X7_sets ws_X7_sets wn_X7 ⟨rfl, rfl⟩ hd_X7_sets rfl ⟨Nat.le_of_ble_eq_true rfl, Nat.le_of_ble_eq_true rfl⟩ (Nat.le_of_ble_eq_true rfl) dX7_comes_43) (fun H locs hw => ?_)
    refine lv_aload_n (pc := 46) C0.1 C0.2.1 dX7_comes_46 rfl (lv_at hl 0 rfl) ?_
    refine lv_iload_n (pc := 47) C0.1 C0.2.1 dX7_comes_47 rfl (lv_at hl 1 rfl) ?_
    refine lv_bipush (v := 8) (pc := 48) C0.1 C0.2.1 dX7_comes_48 (by decide) ?_
    refine lv_iload_n (pc := 50) C0.1 C0.2.1 dX7_comes_50 rfl (lv_at hl 3 rfl) ?_
    obtain ⟨q6, hq6, hf⟩ := bd_e hf
    refine x_backv (pc := 51) hw (x_runV (pc := 51) (As := [.int v1, .int 8, .int v3]) (rest := []) C0 hK hw hl.1 ⟨Nat.zero_le _, Nat.zero_le _⟩ (kX7_sets l D y ad hI v1 8 v3 q5 hq6) (by decide) ly_m0 rfl rfl wc_X7_sets wm_X7_63 wi_X7_sets ws_X7_sets wn_X7 ⟨rfl, rfl⟩ hd_X7_sets rfl ⟨Nat.le_of_ble_eq_true rfl, Nat.le_of_ble_eq_true rfl⟩ (Nat.le_of_ble_eq_true rfl) dX7_comes_51) (fun H locs hw => ?_)
    refine lv_aload_n (pc := 54) C0.1 C0.2.1 dX7_comes_54 rfl (lv_at hl 0 rfl) ?_
    refine lv_iload_n (pc := 55) C0.1 C0.2.1 dX7_comes_55 rfl (lv_at hl 1 rfl) ?_
    refine lv_bipush (v := 9) (pc := 56) C0.1 C0.2.1 dX7_comes_56 (by decide) ?_
    refine lv_aload_n (pc := 58) C0.1 C0.2.1 dX7_comes_58 rfl (lv_at hl 0 rfl) ?_
    refine x_get (pc := 59) (v := .int (q6.1 0 3)) C0 hK hw (by decide) ly_m0 rfl inX7 3 (by decide) wf_X7_81 rfl rfl dX7_comes_59 ?_
    obtain ⟨q7, hq7, hf⟩ := bd_e hf
    refine x_backv (pc := 62) hw (x_runV (pc := 62) (As := [.int v1, .int 9, .int (q6.1 0 3)]) (rest := []) C0 hK hw hl.1 ⟨Nat.zero_le _, Nat.zero_le _⟩ (kX7_sets l D y ad hI v1 9 (q6.1 0 3) q6 hq7) (by decide) ly_m0 rfl rfl wc_X7_sets wm_X7_63 wi_X7_sets ws_X7_sets wn_X7 ⟨rfl, rfl⟩ hd_X7_sets rfl ⟨Nat.le_of_ble_eq_true rfl, Nat.le_of_ble_eq_true rfl⟩ (Nat.le_of_ble_eq_true rfl) dX7_comes_62) (fun H locs hw => ?_)
    exact x_vret (pc := 65) C0 hK hk hr hw (Option.some.inj hf) dX7_comes_65
  · have hf := if_t hf hc
    refine lv_iconst (v := 1) (pc := 14) C0.1 C0.2.1 dX7_comes_14 (by decide) ?_
    refine lv_goto (tgt := 19) (pc := 15) C0.1 C0.2.1 dX7_comes_15 (by decide) ?_
    obtain ⟨q8, hq8, hf⟩ := bd_e hf
    refine x_backv (pc := 19) hw (x_runV (pc := 19) (As := [.int v1, .int v2, .int v3, .int 1]) (rest := []) C0 hK hw hl.1 ⟨Nat.zero_le _, Nat.zero_le _⟩ (kX7_looksAt l D y ad hI v1 v2 v3 1 q1 hq8) (by decide) ly_m0 rfl rfl wc_X7_looksAt wm_X7_87 wi_X7_looksAt ws_X7_looksAt wn_X7 ⟨rfl, rfl⟩ hd_X7_looksAt rfl ⟨Nat.le_of_ble_eq_true rfl, Nat.le_of_ble_eq_true rfl⟩ (Nat.le_of_ble_eq_true rfl) dX7_comes_19) (fun H locs hw => ?_)
    refine lv_aload_n (pc := 22) C0.1 C0.2.1 dX7_comes_22 rfl (lv_at hl 0 rfl) ?_
    refine lv_iload_n (pc := 23) C0.1 C0.2.1 dX7_comes_23 rfl (lv_at hl 1 rfl) ?_
    refine lv_iconst (v := 5) (pc := 24) C0.1 C0.2.1 dX7_comes_24 (by decide) ?_
    refine lv_iconst (v := 1) (pc := 25) C0.1 C0.2.1 dX7_comes_25 (by decide) ?_
    obtain ⟨q9, hq9, hf⟩ := bd_e hf
    refine x_backv (pc := 26) hw (x_runV (pc := 26) (As := [.int v1, .int 5, .int 1]) (rest := []) C0 hK hw hl.1 ⟨Nat.zero_le _, Nat.zero_le _⟩ (kX7_sets l D y ad hI v1 5 1 q8 hq9) (by decide) ly_m0 rfl rfl wc_X7_sets wm_X7_63 wi_X7_sets ws_X7_sets wn_X7 ⟨rfl, rfl⟩ hd_X7_sets rfl ⟨Nat.le_of_ble_eq_true rfl, Nat.le_of_ble_eq_true rfl⟩ (Nat.le_of_ble_eq_true rfl) dX7_comes_26) (fun H locs hw => ?_)
    refine lv_aload_n (pc := 29) C0.1 C0.2.1 dX7_comes_29 rfl (lv_at hl 0 rfl) ?_
    refine lv_iload_n (pc := 30) C0.1 C0.2.1 dX7_comes_30 rfl (lv_at hl 1 rfl) ?_
    refine lv_bipush (v := 6) (pc := 31) C0.1 C0.2.1 dX7_comes_31 (by decide) ?_
    refine lv_iload (pc := 33) C0.1 C0.2.1 dX7_comes_33 (lv_at hl 4 rfl) ?_
    obtain ⟨q10, hq10, hf⟩ := bd_e hf
    refine x_backv (pc := 35) hw (x_runV (pc := 35) (As := [.int v1, .int 6, .int v4]) (rest := []) C0 hK hw hl.1 ⟨Nat.zero_le _, Nat.zero_le _⟩ (kX7_sets l D y ad hI v1 6 v4 q9 hq10) (by decide) ly_m0 rfl rfl wc_X7_sets wm_X7_63 wi_X7_sets ws_X7_sets wn_X7 ⟨rfl, rfl⟩ hd_X7_sets rfl ⟨Nat.le_of_ble_eq_true rfl, Nat.le_of_ble_eq_true rfl⟩ (Nat.le_of_ble_eq_true rfl) dX7_comes_35) (fun H locs hw => ?_)
    refine lv_aload_n (pc := 38) C0.1 C0.2.1 dX7_comes_38 rfl (lv_at hl 0 rfl) ?_
    refine lv_iload_n (pc := 39) C0.1 C0.2.1 dX7_comes_39 rfl (lv_at hl 1 rfl) ?_
    refine lv_bipush (v := 7) (pc := 40) C0.1 C0.2.1 dX7_comes_40 (by decide) ?_
    refine lv_iload_n (pc := 42) C0.1 C0.2.1 dX7_comes_42 rfl (lv_at hl 2 rfl) ?_
    obtain ⟨q11, hq11, hf⟩ := bd_e hf
    refine x_backv (pc := 43) hw (x_runV (pc := 43) (As := [.int v1, .int 7, .int v2]) (rest := []) C0 hK hw hl.1 ⟨Nat.zero_le _, Nat.zero_le _⟩ (kX7_sets l D y ad hI v1 7 v2 q10 hq11) (by decide) ly_m0 rfl rfl wc_X7_sets wm_X7_63 wi_X7_sets ws_X7_sets wn_X7 ⟨rfl, rfl⟩ hd_X7_sets rfl ⟨Nat.le_of_ble_eq_true rfl, Nat.le_of_ble_eq_true rfl⟩ (Nat.le_of_ble_eq_true rfl) dX7_comes_43) (fun H locs hw => ?_)
    refine lv_aload_n (pc := 46) C0.1 C0.2.1 dX7_comes_46 rfl (lv_at hl 0 rfl) ?_
    refine lv_iload_n (pc := 47) C0.1 C0.2.1 dX7_comes_47 rfl (lv_at hl 1 rfl) ?_
    refine lv_bipush (v := 8) (pc := 48) C0.1 C0.2.1 dX7_comes_48 (by decide) ?_
    refine lv_iload_n (pc := 50) C0.1 C0.2.1 dX7_comes_50 rfl (lv_at hl 3 rfl) ?_
    obtain ⟨q12, hq12, hf⟩ := bd_e hf
    refine x_backv (pc := 51) hw (x_runV (pc := 51) (As := [.int v1, .int 8, .int v3]) (rest := []) C0 hK hw hl.1 ⟨Nat.zero_le _, Nat.zero_le _⟩ (kX7_sets l D y ad hI v1 8 v3 q11 hq12) (by decide) ly_m0 rfl rfl wc_X7_sets wm_X7_63 wi_X7_sets ws_X7_sets wn_X7 ⟨rfl, rfl⟩ hd_X7_sets rfl ⟨Nat.le_of_ble_eq_true rfl, Nat.le_of_ble_eq_true rfl⟩ (Nat.le_of_ble_eq_true rfl) dX7_comes_51) (fun H locs hw => ?_)
    refine lv_aload_n (pc := 54) C0.1 C0.2.1 dX7_comes_54 rfl (lv_at hl 0 rfl) ?_
    refine lv_iload_n (pc := 55) C0.1 C0.2.1 dX7_comes_55 rfl (lv_at hl 1 rfl) ?_
    refine lv_bipush (v := 9) (pc := 56) C0.1 C0.2.1 dX7_comes_56 (by decide) ?_
    refine lv_aload_n (pc := 58) C0.1 C0.2.1 dX7_comes_58 rfl (lv_at hl 0 rfl) ?_
    refine x_get (pc := 59) (v := .int (q12.1 0 3)) C0 hK hw (by decide) ly_m0 rfl inX7 3 (by decide) wf_X7_81 rfl rfl dX7_comes_59 ?_
    obtain ⟨q13, hq13, hf⟩ := bd_e hf
    refine x_backv (pc := 62) hw (x_runV (pc := 62) (As := [.int v1, .int 9, .int (q12.1 0 3)]) (rest := []) C0 hK hw hl.1 ⟨Nat.zero_le _, Nat.zero_le _⟩ (kX7_sets l D y ad hI v1 9 (q12.1 0 3) q12 hq13) (by decide) ly_m0 rfl rfl wc_X7_sets wm_X7_63 wi_X7_sets ws_X7_sets wn_X7 ⟨rfl, rfl⟩ hd_X7_sets rfl ⟨Nat.le_of_ble_eq_true rfl, Nat.le_of_ble_eq_true rfl⟩ (Nat.le_of_ble_eq_true rfl) dX7_comes_62) (fun H locs hw => ?_)
    exact x_vret (pc := 65) C0 hK hk hr hw (Option.some.inj hf) dX7_comes_65
def wX7_letDown : List Cond := .code yX7_letDown cX7_letDown 5 (some .int) :: lwT
def rX7_letDown : Room := { frames := 6, cells := 0, slots := 0, locals := 136 }
set_option maxRecDepth 100000 in
set_option maxHeartbeats 4000000 in
theorem kX7_letDown (l : Launch) (D : va_G) (y : Nat → ClassId) (ad : Nat → Nat) (hI : XI ad 8) (v1 : Int32) (v2 : Int32) (v3 : Int32) (v4 : Int32) (u : S) {o : Int32 × S} (hf : fX7_letDown v1 v2 v3 v4 u = some o) : Met l yX7_letDown wX7_letDown rX7_letDown (va_Pc [.ref (ad 0), .int v1, .int v2, .int v3, .int v4] (XW D y ad LM 8 u)) (XQi D y ad LM 8 o) 0 0 (XA ad 8) := by
  refine x_met (bytes := cX7_letDown) (maxL := 5) (ret := (some .int)) (own := RX7) (by decide) rfl rfl (Nat.le_of_ble_eq_true rfl) (fun p e s m below meth c ls C0 hK hk hr hw hl => ?_)
  have hl : lv_has ls 5 [(0, .ref (ad 0)), (1, .int v1), (2, .int v2), (3, .int v3), (4, .int v4)] := hl
  unfold fX7_letDown at hf
  refine lv_aload_n (pc := 0) C0.1 C0.2.1 dX7_letDown_0 rfl (lv_at hl 0 rfl) ?_
  refine lv_iload_n (pc := 1) C0.1 C0.2.1 dX7_letDown_1 rfl (lv_at hl 1 rfl) ?_
  obtain ⟨q1, hq1, hf⟩ := bd_e hf
  refine x_backp (pc := 2) hw (x_runV (pc := 2) (As := [.int v1]) (rest := []) C0 hK hw hl.1 ⟨Nat.zero_le _, Nat.zero_le _⟩ (kX7_isTray l D y ad hI v1 u hq1) (by decide) ly_m0 rfl rfl wc_X7_isTray wm_X7_94 wi_X7_isTray ws_X7_isTray wn_X7 ⟨rfl, rfl⟩ hd_X7_isTray rfl ⟨Nat.le_of_ble_eq_true rfl, Nat.le_of_ble_eq_true rfl⟩ (Nat.le_of_ble_eq_true rfl) dX7_letDown_2) (fun H locs hw => ?_)
  refine lv_if_eq (tgt := 20) (pc := 5) C0.1 C0.2.1 dX7_letDown_5 (by decide) (fun hc => ?_) (fun hc => ?_)
  · have hf := if_t hf hc
    refine lv_iconst (v := (-1)) (pc := 20) C0.1 C0.2.1 dX7_letDown_20 (by decide) ?_
    exact x_iret (pc := 21) C0 hK hk hr hw (Option.some.inj hf) dX7_letDown_21
  · have hf := if_f hf hc
    refine lv_aload_n (pc := 8) C0.1 C0.2.1 dX7_letDown_8 rfl (lv_at hl 0 rfl) ?_
    refine lv_iload_n (pc := 9) C0.1 C0.2.1 dX7_letDown_9 rfl (lv_at hl 1 rfl) ?_
    refine lv_iload_n (pc := 10) C0.1 C0.2.1 dX7_letDown_10 rfl (lv_at hl 2 rfl) ?_
    refine lv_iload_n (pc := 11) C0.1 C0.2.1 dX7_letDown_11 rfl (lv_at hl 3 rfl) ?_
    refine lv_iload (pc := 12) C0.1 C0.2.1 dX7_letDown_12 (lv_at hl 4 rfl) ?_
    obtain ⟨q2, hq2, hf⟩ := bd_e hf
    refine x_backp (pc := 14) hw (x_runV (pc := 14) (As := [.int v1, .int v2, .int v3, .int v4]) (rest := []) C0 hK hw hl.1 ⟨Nat.zero_le _, Nat.zero_le _⟩ (kX7_isInside l D y ad hI v1 v2 v3 v4 u hq2) (by decide) ly_m0 rfl rfl wc_X7_isInside wm_X7_97 wi_X7_isInside ws_X7_isInside wn_X7 ⟨rfl, rfl⟩ hd_X7_isInside rfl ⟨Nat.le_of_ble_eq_true rfl, Nat.le_of_ble_eq_true rfl⟩ (Nat.le_of_ble_eq_true rfl) dX7_letDown_14) (fun H locs hw => ?_)
    refine lv_if_ne (tgt := 22) (pc := 17) C0.1 C0.2.1 dX7_letDown_17 (by decide) (fun hc => ?_) (fun hc => ?_)
    · have hf := if_f hf hc
      refine lv_aload_n (pc := 22) C0.1 C0.2.1 dX7_letDown_22 rfl (lv_at hl 0 rfl) ?_
      refine lv_iload_n (pc := 23) C0.1 C0.2.1 dX7_letDown_23 rfl (lv_at hl 1 rfl) ?_
      obtain ⟨q3, hq3, hf⟩ := bd_e hf
      refine x_backp (pc := 24) hw (x_runV (pc := 24) (As := [.int v1]) (rest := []) C0 hK hw hl.1 ⟨Nat.zero_le _, Nat.zero_le _⟩ (kX7_isIn l D y ad hI v1 u hq3) (by decide) ly_m0 rfl rfl wc_X7_isIn wm_X7_71 wi_X7_isIn ws_X7_isIn wn_X7 ⟨rfl, rfl⟩ hd_X7_isIn rfl ⟨Nat.le_of_ble_eq_true rfl, Nat.le_of_ble_eq_true rfl⟩ (Nat.le_of_ble_eq_true rfl) dX7_letDown_24) (fun H locs hw => ?_)
      refine lv_if_eq (tgt := 33) (pc := 27) C0.1 C0.2.1 dX7_letDown_27 (by decide) (fun hc => ?_) (fun hc => ?_)
      · have hf := if_t hf hc
        refine lv_aload_n (pc := 33) C0.1 C0.2.1 dX7_letDown_33 rfl (lv_at hl 0 rfl) ?_
        obtain ⟨q4, hq4, hf⟩ := bd_e hf
        refine x_backv (pc := 34) hw (x_runV (pc := 34) (As := []) (rest := []) C0 hK hw hl.1 ⟨Nat.zero_le _, Nat.zero_le _⟩ (kX7_laysTops l D y ad hI  u hq4) (by decide) ly_m0 rfl rfl wc_X7_laysTops wm_X7_91 wi_X7_laysTops ws_X7_laysTops wn_X7 ⟨rfl, rfl⟩ hd_X7_laysTops rfl ⟨Nat.le_of_ble_eq_true rfl, Nat.le_of_ble_eq_true rfl⟩ (Nat.le_of_ble_eq_true rfl) dX7_letDown_34) (fun H locs hw => ?_)
        refine lv_aload_n (pc := 37) C0.1 C0.2.1 dX7_letDown_37 rfl (lv_at hl 0 rfl) ?_
        refine lv_iload_n (pc := 38) C0.1 C0.2.1 dX7_letDown_38 rfl (lv_at hl 1 rfl) ?_
        refine lv_iload_n (pc := 39) C0.1 C0.2.1 dX7_letDown_39 rfl (lv_at hl 2 rfl) ?_
        refine lv_iload_n (pc := 40) C0.1 C0.2.1 dX7_letDown_40 rfl (lv_at hl 3 rfl) ?_
        refine lv_iload (pc := 41) C0.1 C0.2.1 dX7_letDown_41 (lv_at hl 4 rfl) ?_
        obtain ⟨q5, hq5, hf⟩ := bd_e hf
        refine x_back (pc := 43) hw (x_runV (pc := 43) (As := [.int v1, .int v2, .int v3, .int v4]) (rest := []) C0 hK hw hl.1 ⟨Nat.zero_le _, Nat.zero_le _⟩ (kX7_can l D y ad hI v1 v2 v3 v4 q4 hq5) (by decide) ly_m0 rfl rfl wc_X7_can wm_X7_101 wi_X7_can ws_X7_can wn_X7 ⟨rfl, rfl⟩ hd_X7_can rfl ⟨Nat.le_of_ble_eq_true rfl, Nat.le_of_ble_eq_true rfl⟩ (Nat.le_of_ble_eq_true rfl) dX7_letDown_43) (fun H locs hw => ?_)
        refine lv_if_ne (tgt := 52) (pc := 46) C0.1 C0.2.1 dX7_letDown_46 (by decide) (fun hc => ?_) (fun hc => ?_)
        · have hf := if_f hf hc
          refine lv_aload_n (pc := 52) C0.1 C0.2.1 dX7_letDown_52 rfl (lv_at hl 0 rfl) ?_
          obtain ⟨q6, hq6, hf⟩ := bd_e hf
          refine x_backv (pc := 53) hw (x_runV (pc := 53) (As := []) (rest := []) C0 hK hw hl.1 ⟨Nat.zero_le _, Nat.zero_le _⟩ (kX7_records l D y ad hI  q5.2 hq6) (by decide) ly_m0 rfl rfl wc_X7_records wm_X7_104 wi_X7_records ws_X7_records wn_X7 ⟨rfl, rfl⟩ hd_X7_records rfl ⟨Nat.le_of_ble_eq_true rfl, Nat.le_of_ble_eq_true rfl⟩ (Nat.le_of_ble_eq_true rfl) dX7_letDown_53) (fun H locs hw => ?_)
          refine lv_aload_n (pc := 56) C0.1 C0.2.1 dX7_letDown_56 rfl (lv_at hl 0 rfl) ?_
          refine lv_iload_n (pc := 57) C0.1 C0.2.1 dX7_letDown_57 rfl (lv_at hl 1 rfl) ?_
          refine lv_iload_n (pc := 58) C0.1 C0.2.1 dX7_letDown_58 rfl (lv_at hl 2 rfl) ?_
          refine lv_iload_n (pc := 59) C0.1 C0.2.1 dX7_letDown_59 rfl (lv_at hl 3 rfl) ?_
          refine lv_iload (pc := 60) C0.1 C0.2.1 dX7_letDown_60 (lv_at hl 4 rfl) ?_
          refine lv_if_eq (tgt := 69) (pc := 62) C0.1 C0.2.1 dX7_letDown_62 (by decide) (fun hc => ?_) (fun hc => ?_)
          · have hf := if_t hf hc
            refine lv_iconst (v := 0) (pc := 69) C0.1 C0.2.1 dX7_letDown_69 (by decide) ?_
            obtain ⟨q7, hq7, hf⟩ := bd_e hf
            refine x_backv (pc := 70) hw (x_runV (pc := 70) (As := [.int v1, .int v2, .int v3, .int 0]) (rest := []) C0 hK hw hl.1 ⟨Nat.zero_le _, Nat.zero_le _⟩ (kX7_comes l D y ad hI v1 v2 v3 0 q6 hq7) (by decide) ly_m0 rfl rfl wc_X7_comes wm_X7_107 wi_X7_comes ws_X7_comes wn_X7 ⟨rfl, rfl⟩ hd_X7_comes rfl ⟨Nat.le_of_ble_eq_true rfl, Nat.le_of_ble_eq_true rfl⟩ (Nat.le_of_ble_eq_true rfl) dX7_letDown_70) (fun H locs hw => ?_)
            refine lv_aload_n (pc := 73) C0.1 C0.2.1 dX7_letDown_73 rfl (lv_at hl 0 rfl) ?_
            refine lv_iload_n (pc := 74) C0.1 C0.2.1 dX7_letDown_74 rfl (lv_at hl 1 rfl) ?_
            refine lv_bipush (v := 9) (pc := 75) C0.1 C0.2.1 dX7_letDown_75 (by decide) ?_
            obtain ⟨q8, hq8, hf⟩ := bd_e hf
            refine x_backp (pc := 77) hw (x_runV (pc := 77) (As := [.int v1, .int 9]) (rest := []) C0 hK hw hl.1 ⟨Nat.zero_le _, Nat.zero_le _⟩ (kX7_of l D y ad hI v1 9 q7 hq8) (by decide) ly_m0 rfl rfl wc_X7_of wm_X7_47 wi_X7_of ws_X7_of wn_X7 ⟨rfl, rfl⟩ hd_X7_of rfl ⟨Nat.le_of_ble_eq_true rfl, Nat.le_of_ble_eq_true rfl⟩ (Nat.le_of_ble_eq_true rfl) dX7_letDown_77) (fun H locs hw => ?_)
            exact x_iret (pc := 80) C0 hK hk hr hw (Option.some.inj hf) dX7_letDown_80
          · have hf := if_f hf hc
            refine lv_iconst (v := 1) (pc := 65) C0.1 C0.2.1 dX7_letDown_65 (by decide) ?_
            refine lv_goto (tgt := 70) (pc := 66) C0.1 C0.2.1 dX7_letDown_66 (by decide) ?_
            obtain ⟨q9, hq9, hf⟩ := bd_e hf
            refine x_backv (pc := 70) hw (x_runV (pc := 70) (As := [.int v1, .int v2, .int v3, .int 1]) (rest := []) C0 hK hw hl.1 ⟨Nat.zero_le _, Nat.zero_le _⟩ (kX7_comes l D y ad hI v1 v2 v3 1 q6 hq9) (by decide) ly_m0 rfl rfl wc_X7_comes wm_X7_107 wi_X7_comes ws_X7_comes wn_X7 ⟨rfl, rfl⟩ hd_X7_comes rfl ⟨Nat.le_of_ble_eq_true rfl, Nat.le_of_ble_eq_true rfl⟩ (Nat.le_of_ble_eq_true rfl) dX7_letDown_70) (fun H locs hw => ?_)
            refine lv_aload_n (pc := 73) C0.1 C0.2.1 dX7_letDown_73 rfl (lv_at hl 0 rfl) ?_
            refine lv_iload_n (pc := 74) C0.1 C0.2.1 dX7_letDown_74 rfl (lv_at hl 1 rfl) ?_
            refine lv_bipush (v := 9) (pc := 75) C0.1 C0.2.1 dX7_letDown_75 (by decide) ?_
            obtain ⟨q10, hq10, hf⟩ := bd_e hf
            refine x_backp (pc := 77) hw (x_runV (pc := 77) (As := [.int v1, .int 9]) (rest := []) C0 hK hw hl.1 ⟨Nat.zero_le _, Nat.zero_le _⟩ (kX7_of l D y ad hI v1 9 q9 hq10) (by decide) ly_m0 rfl rfl wc_X7_of wm_X7_47 wi_X7_of ws_X7_of wn_X7 ⟨rfl, rfl⟩ hd_X7_of rfl ⟨Nat.le_of_ble_eq_true rfl, Nat.le_of_ble_eq_true rfl⟩ (Nat.le_of_ble_eq_true rfl) dX7_letDown_77) (fun H locs hw => ?_)
            exact x_iret (pc := 80) C0 hK hk hr hw (Option.some.inj hf) dX7_letDown_80
        · have hf := if_t hf hc
          refine lv_bipush (v := (-3)) (pc := 49) C0.1 C0.2.1 dX7_letDown_49 (by decide) ?_
          exact x_iret (pc := 51) C0 hK hk hr hw (Option.some.inj hf) dX7_letDown_51
      · have hf := if_f hf hc
        refine lv_bipush (v := (-2)) (pc := 30) C0.1 C0.2.1 dX7_letDown_30 (by decide) ?_
        exact x_iret (pc := 32) C0 hK hk hr hw (Option.some.inj hf) dX7_letDown_32
    · have hf := if_t hf hc
      refine lv_iconst (v := (-1)) (pc := 20) C0.1 C0.2.1 dX7_letDown_20 (by decide) ?_
      exact x_iret (pc := 21) C0 hK hk hr hw (Option.some.inj hf) dX7_letDown_21
def wX7_meet : List Cond := .code yX7_meet cX7_meet 4 (some .boolean) :: lwT
def rX7_meet : Room := { frames := 3, cells := 0, slots := 0, locals := 67 }
set_option maxRecDepth 100000 in
set_option maxHeartbeats 4000000 in
theorem kX7_meet (l : Launch) (D : va_G) (y : Nat → ClassId) (ad : Nat → Nat) (hI : XI ad 8) (v1 : Int32) (v2 : Int32) (u : S) {o : Int32} (hf : fX7_meet v1 v2 u = some o) : Met l yX7_meet wX7_meet rX7_meet (va_Pc [.ref (ad 0), .int v1, .int v2] (XW D y ad LM 8 u)) (XQi D y ad LM 8 (o, u)) 0 0 (XA ad 8) := by
  refine x_met (bytes := cX7_meet) (maxL := 4) (ret := (some .boolean)) (own := RX7) (by decide) rfl rfl (Nat.le_of_ble_eq_true rfl) (fun p e s m below meth c ls C0 hK hk hr hw hl => ?_)
  have hl : lv_has ls 4 [(0, .ref (ad 0)), (1, .int v1), (2, .int v2)] := hl
  unfold fX7_meet at hf
  refine lv_aload_n (pc := 0) C0.1 C0.2.1 dX7_meet_0 rfl (lv_at hl 0 rfl) ?_
  refine lv_iload_n (pc := 1) C0.1 C0.2.1 dX7_meet_1 rfl (lv_at hl 1 rfl) ?_
  refine lv_bipush (v := 7) (pc := 2) C0.1 C0.2.1 dX7_meet_2 (by decide) ?_
  obtain ⟨q1, hq1, hf⟩ := bd_e hf
  refine x_backp (pc := 4) hw (x_runV (pc := 4) (As := [.int v1, .int 7]) (rest := []) C0 hK hw hl.1 ⟨Nat.zero_le _, Nat.zero_le _⟩ (kX7_of l D y ad hI v1 7 u hq1) (by decide) ly_m0 rfl rfl wc_X7_of wm_X7_47 wi_X7_of ws_X7_of wn_X7 ⟨rfl, rfl⟩ hd_X7_of rfl ⟨Nat.le_of_ble_eq_true rfl, Nat.le_of_ble_eq_true rfl⟩ (Nat.le_of_ble_eq_true rfl) dX7_meet_4) (fun H locs hw => ?_)
  refine lv_aload_n (pc := 7) C0.1 C0.2.1 dX7_meet_7 rfl (lv_at hl 0 rfl) ?_
  refine lv_iload_n (pc := 8) C0.1 C0.2.1 dX7_meet_8 rfl (lv_at hl 2 rfl) ?_
  refine lv_bipush (v := 7) (pc := 9) C0.1 C0.2.1 dX7_meet_9 (by decide) ?_
  obtain ⟨q2, hq2, hf⟩ := bd_e hf
  refine x_backp (pc := 11) hw (x_runV (pc := 11) (As := [.int v2, .int 7]) (rest := [.int q1]) C0 hK hw hl.1 ⟨Nat.zero_le _, Nat.zero_le _⟩ (kX7_of l D y ad hI v2 7 u hq2) (by decide) ly_m0 rfl rfl wc_X7_of wm_X7_47 wi_X7_of ws_X7_of wn_X7 ⟨rfl, rfl⟩ hd_X7_of rfl ⟨Nat.le_of_ble_eq_true rfl, Nat.le_of_ble_eq_true rfl⟩ (Nat.le_of_ble_eq_true rfl) dX7_meet_11) (fun H locs hw => ?_)
  refine lv_aload_n (pc := 14) C0.1 C0.2.1 dX7_meet_14 rfl (lv_at hl 0 rfl) ?_
  refine lv_iload_n (pc := 15) C0.1 C0.2.1 dX7_meet_15 rfl (lv_at hl 2 rfl) ?_
  refine lv_iconst (v := 0) (pc := 16) C0.1 C0.2.1 dX7_meet_16 (by decide) ?_
  obtain ⟨q3, hq3, hf⟩ := bd_e hf
  refine x_backp (pc := 17) hw (x_runV (pc := 17) (As := [.int v2, .int 0]) (rest := [.int q2, .int q1]) C0 hK hw hl.1 ⟨Nat.zero_le _, Nat.zero_le _⟩ (kX7_spans l D y ad hI v2 0 u hq3) (by decide) ly_m0 rfl rfl wc_X7_spans wm_X7_59 wi_X7_spans ws_X7_spans wn_X7 ⟨rfl, rfl⟩ hd_X7_spans rfl ⟨Nat.le_of_ble_eq_true rfl, Nat.le_of_ble_eq_true rfl⟩ (Nat.le_of_ble_eq_true rfl) dX7_meet_17) (fun H locs hw => ?_)
  refine lv_iadd (pc := 20) C0.1 C0.2.1 dX7_meet_20 ?_
  refine lv_icmp_ge (tgt := 52) (pc := 21) C0.1 C0.2.1 dX7_meet_21 (by decide) (fun hc => ?_) (fun hc => ?_)
  · have hf := if_t hf hc
    refine lv_iconst (v := 0) (pc := 52) C0.1 C0.2.1 dX7_meet_52 (by decide) ?_
    refine lv_istore_n (pc := 53) (lv' := [(3, .int 0), (0, .ref (ad 0)), (1, .int v1), (2, .int v2)]) C0.1 C0.2.1 dX7_meet_53 rfl hl (by decide) rfl (fun ls hl => ?_)
    refine lv_iload_n (pc := 54) C0.1 C0.2.1 dX7_meet_54 rfl (lv_at hl 0 rfl) ?_
    refine lv_if_eq (tgt := 110) (pc := 55) C0.1 C0.2.1 dX7_meet_55 (by decide) (fun hc => ?_) (fun hc => ?_)
    · have hf := if_t hf hc
      refine lv_iconst (v := 0) (pc := 110) C0.1 C0.2.1 dX7_meet_110 (by decide) ?_
      exact x_zret (pc := 111) C0 hK hk hr hw rfl (congrArg (fun z => (z, u)) (Option.some.inj hf)) dX7_meet_111
    · have hf := if_f hf hc
      refine lv_aload_n (pc := 58) C0.1 C0.2.1 dX7_meet_58 rfl (lv_at hl 1 rfl) ?_
      refine lv_iload_n (pc := 59) C0.1 C0.2.1 dX7_meet_59 rfl (lv_at hl 2 rfl) ?_
      refine lv_bipush (v := 8) (pc := 60) C0.1 C0.2.1 dX7_meet_60 (by decide) ?_
      obtain ⟨q4, hq4, hf⟩ := bd_e hf
      refine x_backp (pc := 62) hw (x_runV (pc := 62) (As := [.int v1, .int 8]) (rest := []) C0 hK hw hl.1 ⟨Nat.zero_le _, Nat.zero_le _⟩ (kX7_of l D y ad hI v1 8 u hq4) (by decide) ly_m0 rfl rfl wc_X7_of wm_X7_47 wi_X7_of ws_X7_of wn_X7 ⟨rfl, rfl⟩ hd_X7_of rfl ⟨Nat.le_of_ble_eq_true rfl, Nat.le_of_ble_eq_true rfl⟩ (Nat.le_of_ble_eq_true rfl) dX7_meet_62) (fun H locs hw => ?_)
      refine lv_aload_n (pc := 65) C0.1 C0.2.1 dX7_meet_65 rfl (lv_at hl 1 rfl) ?_
      refine lv_iload_n (pc := 66) C0.1 C0.2.1 dX7_meet_66 rfl (lv_at hl 3 rfl) ?_
      refine lv_bipush (v := 8) (pc := 67) C0.1 C0.2.1 dX7_meet_67 (by decide) ?_
      obtain ⟨q5, hq5, hf⟩ := bd_e hf
      refine x_backp (pc := 69) hw (x_runV (pc := 69) (As := [.int v2, .int 8]) (rest := [.int q4]) C0 hK hw hl.1 ⟨Nat.zero_le _, Nat.zero_le _⟩ (kX7_of l D y ad hI v2 8 u hq5) (by decide) ly_m0 rfl rfl wc_X7_of wm_X7_47 wi_X7_of ws_X7_of wn_X7 ⟨rfl, rfl⟩ hd_X7_of rfl ⟨Nat.le_of_ble_eq_true rfl, Nat.le_of_ble_eq_true rfl⟩ (Nat.le_of_ble_eq_true rfl) dX7_meet_69) (fun H locs hw => ?_)
      refine lv_aload_n (pc := 72) C0.1 C0.2.1 dX7_meet_72 rfl (lv_at hl 1 rfl) ?_
      refine lv_iload_n (pc := 73) C0.1 C0.2.1 dX7_meet_73 rfl (lv_at hl 3 rfl) ?_
      refine lv_iconst (v := 1) (pc := 74) C0.1 C0.2.1 dX7_meet_74 (by decide) ?_
      obtain ⟨q6, hq6, hf⟩ := bd_e hf
      refine x_backp (pc := 75) hw (x_runV (pc := 75) (As := [.int v2, .int 1]) (rest := [.int q5, .int q4]) C0 hK hw hl.1 ⟨Nat.zero_le _, Nat.zero_le _⟩ (kX7_spans l D y ad hI v2 1 u hq6) (by decide) ly_m0 rfl rfl wc_X7_spans wm_X7_59 wi_X7_spans ws_X7_spans wn_X7 ⟨rfl, rfl⟩ hd_X7_spans rfl ⟨Nat.le_of_ble_eq_true rfl, Nat.le_of_ble_eq_true rfl⟩ (Nat.le_of_ble_eq_true rfl) dX7_meet_75) (fun H locs hw => ?_)
      refine lv_iadd (pc := 78) C0.1 C0.2.1 dX7_meet_78 ?_
      refine lv_icmp_ge (tgt := 110) (pc := 79) C0.1 C0.2.1 dX7_meet_79 (by decide) (fun hc => ?_) (fun hc => ?_)
      · have hf := if_t hf hc
        refine lv_iconst (v := 0) (pc := 110) C0.1 C0.2.1 dX7_meet_110 (by decide) ?_
        exact x_zret (pc := 111) C0 hK hk hr hw rfl (congrArg (fun z => (z, u)) (Option.some.inj hf)) dX7_meet_111
      · have hf := if_f hf hc
        refine lv_aload_n (pc := 82) C0.1 C0.2.1 dX7_meet_82 rfl (lv_at hl 1 rfl) ?_
        refine lv_iload_n (pc := 83) C0.1 C0.2.1 dX7_meet_83 rfl (lv_at hl 3 rfl) ?_
        refine lv_bipush (v := 8) (pc := 84) C0.1 C0.2.1 dX7_meet_84 (by decide) ?_
        obtain ⟨q7, hq7, hf⟩ := bd_e hf
        refine x_backp (pc := 86) hw (x_runV (pc := 86) (As := [.int v2, .int 8]) (rest := []) C0 hK hw hl.1 ⟨Nat.zero_le _, Nat.zero_le _⟩ (kX7_of l D y ad hI v2 8 u hq7) (by decide) ly_m0 rfl rfl wc_X7_of wm_X7_47 wi_X7_of ws_X7_of wn_X7 ⟨rfl, rfl⟩ hd_X7_of rfl ⟨Nat.le_of_ble_eq_true rfl, Nat.le_of_ble_eq_true rfl⟩ (Nat.le_of_ble_eq_true rfl) dX7_meet_86) (fun H locs hw => ?_)
        refine lv_aload_n (pc := 89) C0.1 C0.2.1 dX7_meet_89 rfl (lv_at hl 1 rfl) ?_
        refine lv_iload_n (pc := 90) C0.1 C0.2.1 dX7_meet_90 rfl (lv_at hl 2 rfl) ?_
        refine lv_bipush (v := 8) (pc := 91) C0.1 C0.2.1 dX7_meet_91 (by decide) ?_
        obtain ⟨q8, hq8, hf⟩ := bd_e hf
        refine x_backp (pc := 93) hw (x_runV (pc := 93) (As := [.int v1, .int 8]) (rest := [.int q7]) C0 hK hw hl.1 ⟨Nat.zero_le _, Nat.zero_le _⟩ (kX7_of l D y ad hI v1 8 u hq8) (by decide) ly_m0 rfl rfl wc_X7_of wm_X7_47 wi_X7_of ws_X7_of wn_X7 ⟨rfl, rfl⟩ hd_X7_of rfl ⟨Nat.le_of_ble_eq_true rfl, Nat.le_of_ble_eq_true rfl⟩ (Nat.le_of_ble_eq_true rfl) dX7_meet_93) (fun H locs hw => ?_)
        refine lv_aload_n (pc := 96) C0.1 C0.2.1 dX7_meet_96 rfl (lv_at hl 1 rfl) ?_
        refine lv_iload_n (pc := 97) C0.1 C0.2.1 dX7_meet_97 rfl (lv_at hl 2 rfl) ?_
        refine lv_iconst (v := 1) (pc := 98) C0.1 C0.2.1 dX7_meet_98 (by decide) ?_
        obtain ⟨q9, hq9, hf⟩ := bd_e hf
        refine x_backp (pc := 99) hw (x_runV (pc := 99) (As := [.int v1, .int 1]) (rest := [.int q8, .int q7]) C0 hK hw hl.1 ⟨Nat.zero_le _, Nat.zero_le _⟩ (kX7_spans l D y ad hI v1 1 u hq9) (by decide) ly_m0 rfl rfl wc_X7_spans wm_X7_59 wi_X7_spans ws_X7_spans wn_X7 ⟨rfl, rfl⟩ hd_X7_spans rfl ⟨Nat.le_of_ble_eq_true rfl, Nat.le_of_ble_eq_true rfl⟩ (Nat.le_of_ble_eq_true rfl) dX7_meet_99) (fun H locs hw => ?_)
        refine lv_iadd (pc := 102) C0.1 C0.2.1 dX7_meet_102 ?_
        refine lv_icmp_ge (tgt := 110) (pc := 103) C0.1 C0.2.1 dX7_meet_103 (by decide) (fun hc => ?_) (fun hc => ?_)
        · have hf := if_t hf hc
          refine lv_iconst (v := 0) (pc := 110) C0.1 C0.2.1 dX7_meet_110 (by decide) ?_
          exact x_zret (pc := 111) C0 hK hk hr hw rfl (congrArg (fun z => (z, u)) (Option.some.inj hf)) dX7_meet_111
        · have hf := if_f hf hc
          refine lv_iconst (v := 1) (pc := 106) C0.1 C0.2.1 dX7_meet_106 (by decide) ?_
          refine lv_goto (tgt := 111) (pc := 107) C0.1 C0.2.1 dX7_meet_107 (by decide) ?_
          exact x_zret (pc := 111) C0 hK hk hr hw rfl (congrArg (fun z => (z, u)) (Option.some.inj hf)) dX7_meet_111
  · have hf := if_f hf hc
    refine lv_aload_n (pc := 24) C0.1 C0.2.1 dX7_meet_24 rfl (lv_at hl 0 rfl) ?_
    refine lv_iload_n (pc := 25) C0.1 C0.2.1 dX7_meet_25 rfl (lv_at hl 2 rfl) ?_
    refine lv_bipush (v := 7) (pc := 26) C0.1 C0.2.1 dX7_meet_26 (by decide) ?_
    obtain ⟨q10, hq10, hf⟩ := bd_e hf
    refine x_backp (pc := 28) hw (x_runV (pc := 28) (As := [.int v2, .int 7]) (rest := []) C0 hK hw hl.1 ⟨Nat.zero_le _, Nat.zero_le _⟩ (kX7_of l D y ad hI v2 7 u hq10) (by decide) ly_m0 rfl rfl wc_X7_of wm_X7_47 wi_X7_of ws_X7_of wn_X7 ⟨rfl, rfl⟩ hd_X7_of rfl ⟨Nat.le_of_ble_eq_true rfl, Nat.le_of_ble_eq_true rfl⟩ (Nat.le_of_ble_eq_true rfl) dX7_meet_28) (fun H locs hw => ?_)
    refine lv_aload_n (pc := 31) C0.1 C0.2.1 dX7_meet_31 rfl (lv_at hl 0 rfl) ?_
    refine lv_iload_n (pc := 32) C0.1 C0.2.1 dX7_meet_32 rfl (lv_at hl 1 rfl) ?_
    refine lv_bipush (v := 7) (pc := 33) C0.1 C0.2.1 dX7_meet_33 (by decide) ?_
    obtain ⟨q11, hq11, hf⟩ := bd_e hf
    refine x_backp (pc := 35) hw (x_runV (pc := 35) (As := [.int v1, .int 7]) (rest := [.int q10]) C0 hK hw hl.1 ⟨Nat.zero_le _, Nat.zero_le _⟩ (kX7_of l D y ad hI v1 7 u hq11) (by decide) ly_m0 rfl rfl wc_X7_of wm_X7_47 wi_X7_of ws_X7_of wn_X7 ⟨rfl, rfl⟩ hd_X7_of rfl ⟨Nat.le_of_ble_eq_true rfl, Nat.le_of_ble_eq_true rfl⟩ (Nat.le_of_ble_eq_true rfl) dX7_meet_35) (fun H locs hw => ?_)
    refine lv_aload_n (pc := 38) C0.1 C0.2.1 dX7_meet_38 rfl (lv_at hl 0 rfl) ?_
    refine lv_iload_n (pc := 39) C0.1 C0.2.1 dX7_meet_39 rfl (lv_at hl 1 rfl) ?_
    refine lv_iconst (v := 0) (pc := 40) C0.1 C0.2.1 dX7_meet_40 (by decide) ?_
    obtain ⟨q12, hq12, hf⟩ := bd_e hf
    refine x_backp (pc := 41) hw (x_runV (pc := 41) (As := [.int v1, .int 0]) (rest := [.int q11, .int q10]) C0 hK hw hl.1 ⟨Nat.zero_le _, Nat.zero_le _⟩ (kX7_spans l D y ad hI v1 0 u hq12) (by decide) ly_m0 rfl rfl wc_X7_spans wm_X7_59 wi_X7_spans ws_X7_spans wn_X7 ⟨rfl, rfl⟩ hd_X7_spans rfl ⟨Nat.le_of_ble_eq_true rfl, Nat.le_of_ble_eq_true rfl⟩ (Nat.le_of_ble_eq_true rfl) dX7_meet_41) (fun H locs hw => ?_)
    refine lv_iadd (pc := 44) C0.1 C0.2.1 dX7_meet_44 ?_
    refine lv_icmp_ge (tgt := 52) (pc := 45) C0.1 C0.2.1 dX7_meet_45 (by decide) (fun hc => ?_) (fun hc => ?_)
    · have hf := if_t hf hc
      refine lv_iconst (v := 0) (pc := 52) C0.1 C0.2.1 dX7_meet_52 (by decide) ?_
      refine lv_istore_n (pc := 53) (lv' := [(3, .int 0), (0, .ref (ad 0)), (1, .int v1), (2, .int v2)]) C0.1 C0.2.1 dX7_meet_53 rfl hl (by decide) rfl (fun ls hl => ?_)
      refine lv_iload_n (pc := 54) C0.1 C0.2.1 dX7_meet_54 rfl (lv_at hl 0 rfl) ?_
      refine lv_if_eq (tgt := 110) (pc := 55) C0.1 C0.2.1 dX7_meet_55 (by decide) (fun hc => ?_) (fun hc => ?_)
      · have hf := if_t hf hc
        refine lv_iconst (v := 0) (pc := 110) C0.1 C0.2.1 dX7_meet_110 (by decide) ?_
        exact x_zret (pc := 111) C0 hK hk hr hw rfl (congrArg (fun z => (z, u)) (Option.some.inj hf)) dX7_meet_111
      · have hf := if_f hf hc
        refine lv_aload_n (pc := 58) C0.1 C0.2.1 dX7_meet_58 rfl (lv_at hl 1 rfl) ?_
        refine lv_iload_n (pc := 59) C0.1 C0.2.1 dX7_meet_59 rfl (lv_at hl 2 rfl) ?_
        refine lv_bipush (v := 8) (pc := 60) C0.1 C0.2.1 dX7_meet_60 (by decide) ?_
        obtain ⟨q13, hq13, hf⟩ := bd_e hf
        refine x_backp (pc := 62) hw (x_runV (pc := 62) (As := [.int v1, .int 8]) (rest := []) C0 hK hw hl.1 ⟨Nat.zero_le _, Nat.zero_le _⟩ (kX7_of l D y ad hI v1 8 u hq13) (by decide) ly_m0 rfl rfl wc_X7_of wm_X7_47 wi_X7_of ws_X7_of wn_X7 ⟨rfl, rfl⟩ hd_X7_of rfl ⟨Nat.le_of_ble_eq_true rfl, Nat.le_of_ble_eq_true rfl⟩ (Nat.le_of_ble_eq_true rfl) dX7_meet_62) (fun H locs hw => ?_)
        refine lv_aload_n (pc := 65) C0.1 C0.2.1 dX7_meet_65 rfl (lv_at hl 1 rfl) ?_
        refine lv_iload_n (pc := 66) C0.1 C0.2.1 dX7_meet_66 rfl (lv_at hl 3 rfl) ?_
        refine lv_bipush (v := 8) (pc := 67) C0.1 C0.2.1 dX7_meet_67 (by decide) ?_
        obtain ⟨q14, hq14, hf⟩ := bd_e hf
        refine x_backp (pc := 69) hw (x_runV (pc := 69) (As := [.int v2, .int 8]) (rest := [.int q13]) C0 hK hw hl.1 ⟨Nat.zero_le _, Nat.zero_le _⟩ (kX7_of l D y ad hI v2 8 u hq14) (by decide) ly_m0 rfl rfl wc_X7_of wm_X7_47 wi_X7_of ws_X7_of wn_X7 ⟨rfl, rfl⟩ hd_X7_of rfl ⟨Nat.le_of_ble_eq_true rfl, Nat.le_of_ble_eq_true rfl⟩ (Nat.le_of_ble_eq_true rfl) dX7_meet_69) (fun H locs hw => ?_)
        refine lv_aload_n (pc := 72) C0.1 C0.2.1 dX7_meet_72 rfl (lv_at hl 1 rfl) ?_
        refine lv_iload_n (pc := 73) C0.1 C0.2.1 dX7_meet_73 rfl (lv_at hl 3 rfl) ?_
        refine lv_iconst (v := 1) (pc := 74) C0.1 C0.2.1 dX7_meet_74 (by decide) ?_
        obtain ⟨q15, hq15, hf⟩ := bd_e hf
        refine x_backp (pc := 75) hw (x_runV (pc := 75) (As := [.int v2, .int 1]) (rest := [.int q14, .int q13]) C0 hK hw hl.1 ⟨Nat.zero_le _, Nat.zero_le _⟩ (kX7_spans l D y ad hI v2 1 u hq15) (by decide) ly_m0 rfl rfl wc_X7_spans wm_X7_59 wi_X7_spans ws_X7_spans wn_X7 ⟨rfl, rfl⟩ hd_X7_spans rfl ⟨Nat.le_of_ble_eq_true rfl, Nat.le_of_ble_eq_true rfl⟩ (Nat.le_of_ble_eq_true rfl) dX7_meet_75) (fun H locs hw => ?_)
        refine lv_iadd (pc := 78) C0.1 C0.2.1 dX7_meet_78 ?_
        refine lv_icmp_ge (tgt := 110) (pc := 79) C0.1 C0.2.1 dX7_meet_79 (by decide) (fun hc => ?_) (fun hc => ?_)
        · have hf := if_t hf hc
          refine lv_iconst (v := 0) (pc := 110) C0.1 C0.2.1 dX7_meet_110 (by decide) ?_
          exact x_zret (pc := 111) C0 hK hk hr hw rfl (congrArg (fun z => (z, u)) (Option.some.inj hf)) dX7_meet_111
        · have hf := if_f hf hc
          refine lv_aload_n (pc := 82) C0.1 C0.2.1 dX7_meet_82 rfl (lv_at hl 1 rfl) ?_
          refine lv_iload_n (pc := 83) C0.1 C0.2.1 dX7_meet_83 rfl (lv_at hl 3 rfl) ?_
          refine lv_bipush (v := 8) (pc := 84) C0.1 C0.2.1 dX7_meet_84 (by decide) ?_
          obtain ⟨q16, hq16, hf⟩ := bd_e hf
          refine x_backp (pc := 86) hw (x_runV (pc := 86) (As := [.int v2, .int 8]) (rest := []) C0 hK hw hl.1 ⟨Nat.zero_le _, Nat.zero_le _⟩ (kX7_of l D y ad hI v2 8 u hq16) (by decide) ly_m0 rfl rfl wc_X7_of wm_X7_47 wi_X7_of ws_X7_of wn_X7 ⟨rfl, rfl⟩ hd_X7_of rfl ⟨Nat.le_of_ble_eq_true rfl, Nat.le_of_ble_eq_true rfl⟩ (Nat.le_of_ble_eq_true rfl) dX7_meet_86) (fun H locs hw => ?_)
          refine lv_aload_n (pc := 89) C0.1 C0.2.1 dX7_meet_89 rfl (lv_at hl 1 rfl) ?_
          refine lv_iload_n (pc := 90) C0.1 C0.2.1 dX7_meet_90 rfl (lv_at hl 2 rfl) ?_
          refine lv_bipush (v := 8) (pc := 91) C0.1 C0.2.1 dX7_meet_91 (by decide) ?_
          obtain ⟨q17, hq17, hf⟩ := bd_e hf
          refine x_backp (pc := 93) hw (x_runV (pc := 93) (As := [.int v1, .int 8]) (rest := [.int q16]) C0 hK hw hl.1 ⟨Nat.zero_le _, Nat.zero_le _⟩ (kX7_of l D y ad hI v1 8 u hq17) (by decide) ly_m0 rfl rfl wc_X7_of wm_X7_47 wi_X7_of ws_X7_of wn_X7 ⟨rfl, rfl⟩ hd_X7_of rfl ⟨Nat.le_of_ble_eq_true rfl, Nat.le_of_ble_eq_true rfl⟩ (Nat.le_of_ble_eq_true rfl) dX7_meet_93) (fun H locs hw => ?_)
          refine lv_aload_n (pc := 96) C0.1 C0.2.1 dX7_meet_96 rfl (lv_at hl 1 rfl) ?_
          refine lv_iload_n (pc := 97) C0.1 C0.2.1 dX7_meet_97 rfl (lv_at hl 2 rfl) ?_
          refine lv_iconst (v := 1) (pc := 98) C0.1 C0.2.1 dX7_meet_98 (by decide) ?_
          obtain ⟨q18, hq18, hf⟩ := bd_e hf
          refine x_backp (pc := 99) hw (x_runV (pc := 99) (As := [.int v1, .int 1]) (rest := [.int q17, .int q16]) C0 hK hw hl.1 ⟨Nat.zero_le _, Nat.zero_le _⟩ (kX7_spans l D y ad hI v1 1 u hq18) (by decide) ly_m0 rfl rfl wc_X7_spans wm_X7_59 wi_X7_spans ws_X7_spans wn_X7 ⟨rfl, rfl⟩ hd_X7_spans rfl ⟨Nat.le_of_ble_eq_true rfl, Nat.le_of_ble_eq_true rfl⟩ (Nat.le_of_ble_eq_true rfl) dX7_meet_99) (fun H locs hw => ?_)
          refine lv_iadd (pc := 102) C0.1 C0.2.1 dX7_meet_102 ?_
          refine lv_icmp_ge (tgt := 110) (pc := 103) C0.1 C0.2.1 dX7_meet_103 (by decide) (fun hc => ?_) (fun hc => ?_)
          · have hf := if_t hf hc
            refine lv_iconst (v := 0) (pc := 110) C0.1 C0.2.1 dX7_meet_110 (by decide) ?_
            exact x_zret (pc := 111) C0 hK hk hr hw rfl (congrArg (fun z => (z, u)) (Option.some.inj hf)) dX7_meet_111
          · have hf := if_f hf hc
            refine lv_iconst (v := 1) (pc := 106) C0.1 C0.2.1 dX7_meet_106 (by decide) ?_
            refine lv_goto (tgt := 111) (pc := 107) C0.1 C0.2.1 dX7_meet_107 (by decide) ?_
            exact x_zret (pc := 111) C0 hK hk hr hw rfl (congrArg (fun z => (z, u)) (Option.some.inj hf)) dX7_meet_111
    · have hf := if_f hf hc
      refine lv_iconst (v := 1) (pc := 48) C0.1 C0.2.1 dX7_meet_48 (by decide) ?_
      refine lv_goto (tgt := 53) (pc := 49) C0.1 C0.2.1 dX7_meet_49 (by decide) ?_
      refine lv_istore_n (pc := 53) (lv' := [(3, .int 1), (0, .ref (ad 0)), (1, .int v1), (2, .int v2)]) C0.1 C0.2.1 dX7_meet_53 rfl hl (by decide) rfl (fun ls hl => ?_)
      refine lv_iload_n (pc := 54) C0.1 C0.2.1 dX7_meet_54 rfl (lv_at hl 0 rfl) ?_
      refine lv_if_eq (tgt := 110) (pc := 55) C0.1 C0.2.1 dX7_meet_55 (by decide) (fun hc => ?_) (fun hc => ?_)
      · have hf := if_t hf hc
        refine lv_iconst (v := 0) (pc := 110) C0.1 C0.2.1 dX7_meet_110 (by decide) ?_
        exact x_zret (pc := 111) C0 hK hk hr hw rfl (congrArg (fun z => (z, u)) (Option.some.inj hf)) dX7_meet_111
      · have hf := if_f hf hc
        refine lv_aload_n (pc := 58) C0.1 C0.2.1 dX7_meet_58 rfl (lv_at hl 1 rfl) ?_
        refine lv_iload_n (pc := 59) C0.1 C0.2.1 dX7_meet_59 rfl (lv_at hl 2 rfl) ?_
        refine lv_bipush (v := 8) (pc := 60) C0.1 C0.2.1 dX7_meet_60 (by decide) ?_
        obtain ⟨q19, hq19, hf⟩ := bd_e hf
        refine x_backp (pc := 62) hw (x_runV (pc := 62) (As := [.int v1, .int 8]) (rest := []) C0 hK hw hl.1 ⟨Nat.zero_le _, Nat.zero_le _⟩ (kX7_of l D y ad hI v1 8 u hq19) (by decide) ly_m0 rfl rfl wc_X7_of wm_X7_47 wi_X7_of ws_X7_of wn_X7 ⟨rfl, rfl⟩ hd_X7_of rfl ⟨Nat.le_of_ble_eq_true rfl, Nat.le_of_ble_eq_true rfl⟩ (Nat.le_of_ble_eq_true rfl) dX7_meet_62) (fun H locs hw => ?_)
        refine lv_aload_n (pc := 65) C0.1 C0.2.1 dX7_meet_65 rfl (lv_at hl 1 rfl) ?_
        refine lv_iload_n (pc := 66) C0.1 C0.2.1 dX7_meet_66 rfl (lv_at hl 3 rfl) ?_
        refine lv_bipush (v := 8) (pc := 67) C0.1 C0.2.1 dX7_meet_67 (by decide) ?_
        obtain ⟨q20, hq20, hf⟩ := bd_e hf
        refine x_backp (pc := 69) hw (x_runV (pc := 69) (As := [.int v2, .int 8]) (rest := [.int q19]) C0 hK hw hl.1 ⟨Nat.zero_le _, Nat.zero_le _⟩ (kX7_of l D y ad hI v2 8 u hq20) (by decide) ly_m0 rfl rfl wc_X7_of wm_X7_47 wi_X7_of ws_X7_of wn_X7 ⟨rfl, rfl⟩ hd_X7_of rfl ⟨Nat.le_of_ble_eq_true rfl, Nat.le_of_ble_eq_true rfl⟩ (Nat.le_of_ble_eq_true rfl) dX7_meet_69) (fun H locs hw => ?_)
        refine lv_aload_n (pc := 72) C0.1 C0.2.1 dX7_meet_72 rfl (lv_at hl 1 rfl) ?_
        refine lv_iload_n (pc := 73) C0.1 C0.2.1 dX7_meet_73 rfl (lv_at hl 3 rfl) ?_
        refine lv_iconst (v := 1) (pc := 74) C0.1 C0.2.1 dX7_meet_74 (by decide) ?_
        obtain ⟨q21, hq21, hf⟩ := bd_e hf
        refine x_backp (pc := 75) hw (x_runV (pc := 75) (As := [.int v2, .int 1]) (rest := [.int q20, .int q19]) C0 hK hw hl.1 ⟨Nat.zero_le _, Nat.zero_le _⟩ (kX7_spans l D y ad hI v2 1 u hq21) (by decide) ly_m0 rfl rfl wc_X7_spans wm_X7_59 wi_X7_spans ws_X7_spans wn_X7 ⟨rfl, rfl⟩ hd_X7_spans rfl ⟨Nat.le_of_ble_eq_true rfl, Nat.le_of_ble_eq_true rfl⟩ (Nat.le_of_ble_eq_true rfl) dX7_meet_75) (fun H locs hw => ?_)
        refine lv_iadd (pc := 78) C0.1 C0.2.1 dX7_meet_78 ?_
        refine lv_icmp_ge (tgt := 110) (pc := 79) C0.1 C0.2.1 dX7_meet_79 (by decide) (fun hc => ?_) (fun hc => ?_)
        · have hf := if_t hf hc
          refine lv_iconst (v := 0) (pc := 110) C0.1 C0.2.1 dX7_meet_110 (by decide) ?_
          exact x_zret (pc := 111) C0 hK hk hr hw rfl (congrArg (fun z => (z, u)) (Option.some.inj hf)) dX7_meet_111
        · have hf := if_f hf hc
          refine lv_aload_n (pc := 82) C0.1 C0.2.1 dX7_meet_82 rfl (lv_at hl 1 rfl) ?_
          refine lv_iload_n (pc := 83) C0.1 C0.2.1 dX7_meet_83 rfl (lv_at hl 3 rfl) ?_
          refine lv_bipush (v := 8) (pc := 84) C0.1 C0.2.1 dX7_meet_84 (by decide) ?_
          obtain ⟨q22, hq22, hf⟩ := bd_e hf
          refine x_backp (pc := 86) hw (x_runV (pc := 86) (As := [.int v2, .int 8]) (rest := []) C0 hK hw hl.1 ⟨Nat.zero_le _, Nat.zero_le _⟩ (kX7_of l D y ad hI v2 8 u hq22) (by decide) ly_m0 rfl rfl wc_X7_of wm_X7_47 wi_X7_of ws_X7_of wn_X7 ⟨rfl, rfl⟩ hd_X7_of rfl ⟨Nat.le_of_ble_eq_true rfl, Nat.le_of_ble_eq_true rfl⟩ (Nat.le_of_ble_eq_true rfl) dX7_meet_86) (fun H locs hw => ?_)
          refine lv_aload_n (pc := 89) C0.1 C0.2.1 dX7_meet_89 rfl (lv_at hl 1 rfl) ?_
          refine lv_iload_n (pc := 90) C0.1 C0.2.1 dX7_meet_90 rfl (lv_at hl 2 rfl) ?_
          refine lv_bipush (v := 8) (pc := 91) C0.1 C0.2.1 dX7_meet_91 (by decide) ?_
          obtain ⟨q23, hq23, hf⟩ := bd_e hf
          refine x_backp (pc := 93) hw (x_runV (pc := 93) (As := [.int v1, .int 8]) (rest := [.int q22]) C0 hK hw hl.1 ⟨Nat.zero_le _, Nat.zero_le _⟩ (kX7_of l D y ad hI v1 8 u hq23) (by decide) ly_m0 rfl rfl wc_X7_of wm_X7_47 wi_X7_of ws_X7_of wn_X7 ⟨rfl, rfl⟩ hd_X7_of rfl ⟨Nat.le_of_ble_eq_true rfl, Nat.le_of_ble_eq_true rfl⟩ (Nat.le_of_ble_eq_true rfl) dX7_meet_93) (fun H locs hw => ?_)
          refine lv_aload_n (pc := 96) C0.1 C0.2.1 dX7_meet_96 rfl (lv_at hl 1 rfl) ?_
          refine lv_iload_n (pc := 97) C0.1 C0.2.1 dX7_meet_97 rfl (lv_at hl 2 rfl) ?_
          refine lv_iconst (v := 1) (pc := 98) C0.1 C0.2.1 dX7_meet_98 (by decide) ?_
          obtain ⟨q24, hq24, hf⟩ := bd_e hf
          refine x_backp (pc := 99) hw (x_runV (pc := 99) (As := [.int v1, .int 1]) (rest := [.int q23, .int q22]) C0 hK hw hl.1 ⟨Nat.zero_le _, Nat.zero_le _⟩ (kX7_spans l D y ad hI v1 1 u hq24) (by decide) ly_m0 rfl rfl wc_X7_spans wm_X7_59 wi_X7_spans ws_X7_spans wn_X7 ⟨rfl, rfl⟩ hd_X7_spans rfl ⟨Nat.le_of_ble_eq_true rfl, Nat.le_of_ble_eq_true rfl⟩ (Nat.le_of_ble_eq_true rfl) dX7_meet_99) (fun H locs hw => ?_)
          refine lv_iadd (pc := 102) C0.1 C0.2.1 dX7_meet_102 ?_
          refine lv_icmp_ge (tgt := 110) (pc := 103) C0.1 C0.2.1 dX7_meet_103 (by decide) (fun hc => ?_) (fun hc => ?_)
          · have hf := if_t hf hc
            refine lv_iconst (v := 0) (pc := 110) C0.1 C0.2.1 dX7_meet_110 (by decide) ?_
            exact x_zret (pc := 111) C0 hK hk hr hw rfl (congrArg (fun z => (z, u)) (Option.some.inj hf)) dX7_meet_111
          · have hf := if_f hf hc
            refine lv_iconst (v := 1) (pc := 106) C0.1 C0.2.1 dX7_meet_106 (by decide) ?_
            refine lv_goto (tgt := 111) (pc := 107) C0.1 C0.2.1 dX7_meet_107 (by decide) ?_
            exact x_zret (pc := 111) C0 hK hk hr hw rfl (congrArg (fun z => (z, u)) (Option.some.inj hf)) dX7_meet_111
def wX7_liesOn : List Cond := .code yX7_liesOn cX7_liesOn 3 (some .boolean) :: lwT
def rX7_liesOn : Room := { frames := 4, cells := 0, slots := 0, locals := 90 }
set_option maxRecDepth 100000 in
set_option maxHeartbeats 4000000 in
theorem kX7_liesOn (l : Launch) (D : va_G) (y : Nat → ClassId) (ad : Nat → Nat) (hI : XI ad 8) (v1 : Int32) (v2 : Int32) (u : S) {o : Int32} (hf : fX7_liesOn v1 v2 u = some o) : Met l yX7_liesOn wX7_liesOn rX7_liesOn (va_Pc [.ref (ad 0), .int v1, .int v2] (XW D y ad LM 8 u)) (XQi D y ad LM 8 (o, u)) 0 0 (XA ad 8) := by
  refine x_met (bytes := cX7_liesOn) (maxL := 3) (ret := (some .boolean)) (own := RX7) (by decide) rfl rfl (Nat.le_of_ble_eq_true rfl) (fun p e s m below meth c ls C0 hK hk hr hw hl => ?_)
  have hl : lv_has ls 3 [(0, .ref (ad 0)), (1, .int v1), (2, .int v2)] := hl
  unfold fX7_liesOn at hf
  refine lv_iload_n (pc := 0) C0.1 C0.2.1 dX7_liesOn_0 rfl (lv_at hl 1 rfl) ?_
  refine lv_iload_n (pc := 1) C0.1 C0.2.1 dX7_liesOn_1 rfl (lv_at hl 2 rfl) ?_
  refine lv_icmp_eq (tgt := 49) (pc := 2) C0.1 C0.2.1 dX7_liesOn_2 (by decide) (fun hc => ?_) (fun hc => ?_)
  · have hf := if_t hf hc
    refine lv_iconst (v := 0) (pc := 49) C0.1 C0.2.1 dX7_liesOn_49 (by decide) ?_
    exact x_zret (pc := 50) C0 hK hk hr hw rfl (congrArg (fun z => (z, u)) (Option.some.inj hf)) dX7_liesOn_50
  · have hf := if_f hf hc
    refine lv_aload_n (pc := 5) C0.1 C0.2.1 dX7_liesOn_5 rfl (lv_at hl 0 rfl) ?_
    refine lv_iload_n (pc := 6) C0.1 C0.2.1 dX7_liesOn_6 rfl (lv_at hl 1 rfl) ?_
    obtain ⟨q1, hq1, hf⟩ := bd_e hf
    refine x_backp (pc := 7) hw (x_runV (pc := 7) (As := [.int v1]) (rest := []) C0 hK hw hl.1 ⟨Nat.zero_le _, Nat.zero_le _⟩ (kX7_isIn l D y ad hI v1 u hq1) (by decide) ly_m0 rfl rfl wc_X7_isIn wm_X7_71 wi_X7_isIn ws_X7_isIn wn_X7 ⟨rfl, rfl⟩ hd_X7_isIn rfl ⟨Nat.le_of_ble_eq_true rfl, Nat.le_of_ble_eq_true rfl⟩ (Nat.le_of_ble_eq_true rfl) dX7_liesOn_7) (fun H locs hw => ?_)
    refine lv_if_eq (tgt := 49) (pc := 10) C0.1 C0.2.1 dX7_liesOn_10 (by decide) (fun hc => ?_) (fun hc => ?_)
    · have hf := if_t hf hc
      refine lv_iconst (v := 0) (pc := 49) C0.1 C0.2.1 dX7_liesOn_49 (by decide) ?_
      exact x_zret (pc := 50) C0 hK hk hr hw rfl (congrArg (fun z => (z, u)) (Option.some.inj hf)) dX7_liesOn_50
    · have hf := if_f hf hc
      refine lv_aload_n (pc := 13) C0.1 C0.2.1 dX7_liesOn_13 rfl (lv_at hl 0 rfl) ?_
      refine lv_iload_n (pc := 14) C0.1 C0.2.1 dX7_liesOn_14 rfl (lv_at hl 2 rfl) ?_
      obtain ⟨q2, hq2, hf⟩ := bd_e hf
      refine x_backp (pc := 15) hw (x_runV (pc := 15) (As := [.int v2]) (rest := []) C0 hK hw hl.1 ⟨Nat.zero_le _, Nat.zero_le _⟩ (kX7_isIn l D y ad hI v2 u hq2) (by decide) ly_m0 rfl rfl wc_X7_isIn wm_X7_71 wi_X7_isIn ws_X7_isIn wn_X7 ⟨rfl, rfl⟩ hd_X7_isIn rfl ⟨Nat.le_of_ble_eq_true rfl, Nat.le_of_ble_eq_true rfl⟩ (Nat.le_of_ble_eq_true rfl) dX7_liesOn_15) (fun H locs hw => ?_)
      refine lv_if_eq (tgt := 49) (pc := 18) C0.1 C0.2.1 dX7_liesOn_18 (by decide) (fun hc => ?_) (fun hc => ?_)
      · have hf := if_t hf hc
        refine lv_iconst (v := 0) (pc := 49) C0.1 C0.2.1 dX7_liesOn_49 (by decide) ?_
        exact x_zret (pc := 50) C0 hK hk hr hw rfl (congrArg (fun z => (z, u)) (Option.some.inj hf)) dX7_liesOn_50
      · have hf := if_f hf hc
        refine lv_aload_n (pc := 21) C0.1 C0.2.1 dX7_liesOn_21 rfl (lv_at hl 0 rfl) ?_
        refine lv_iload_n (pc := 22) C0.1 C0.2.1 dX7_liesOn_22 rfl (lv_at hl 1 rfl) ?_
        refine lv_iload_n (pc := 23) C0.1 C0.2.1 dX7_liesOn_23 rfl (lv_at hl 2 rfl) ?_
        obtain ⟨q3, hq3, hf⟩ := bd_e hf
        refine x_backp (pc := 24) hw (x_runV (pc := 24) (As := [.int v1, .int v2]) (rest := []) C0 hK hw hl.1 ⟨Nat.zero_le _, Nat.zero_le _⟩ (kX7_meet l D y ad hI v1 v2 u hq3) (by decide) ly_m0 rfl rfl wc_X7_meet wm_X7_111 wi_X7_meet ws_X7_meet wn_X7 ⟨rfl, rfl⟩ hd_X7_meet rfl ⟨Nat.le_of_ble_eq_true rfl, Nat.le_of_ble_eq_true rfl⟩ (Nat.le_of_ble_eq_true rfl) dX7_liesOn_24) (fun H locs hw => ?_)
        refine lv_if_eq (tgt := 49) (pc := 27) C0.1 C0.2.1 dX7_liesOn_27 (by decide) (fun hc => ?_) (fun hc => ?_)
        · have hf := if_t hf hc
          refine lv_iconst (v := 0) (pc := 49) C0.1 C0.2.1 dX7_liesOn_49 (by decide) ?_
          exact x_zret (pc := 50) C0 hK hk hr hw rfl (congrArg (fun z => (z, u)) (Option.some.inj hf)) dX7_liesOn_50
        · have hf := if_f hf hc
          refine lv_aload_n (pc := 30) C0.1 C0.2.1 dX7_liesOn_30 rfl (lv_at hl 0 rfl) ?_
          refine lv_iload_n (pc := 31) C0.1 C0.2.1 dX7_liesOn_31 rfl (lv_at hl 1 rfl) ?_
          refine lv_bipush (v := 9) (pc := 32) C0.1 C0.2.1 dX7_liesOn_32 (by decide) ?_
          obtain ⟨q4, hq4, hf⟩ := bd_e hf
          refine x_backp (pc := 34) hw (x_runV (pc := 34) (As := [.int v1, .int 9]) (rest := []) C0 hK hw hl.1 ⟨Nat.zero_le _, Nat.zero_le _⟩ (kX7_of l D y ad hI v1 9 u hq4) (by decide) ly_m0 rfl rfl wc_X7_of wm_X7_47 wi_X7_of ws_X7_of wn_X7 ⟨rfl, rfl⟩ hd_X7_of rfl ⟨Nat.le_of_ble_eq_true rfl, Nat.le_of_ble_eq_true rfl⟩ (Nat.le_of_ble_eq_true rfl) dX7_liesOn_34) (fun H locs hw => ?_)
          refine lv_aload_n (pc := 37) C0.1 C0.2.1 dX7_liesOn_37 rfl (lv_at hl 0 rfl) ?_
          refine lv_iload_n (pc := 38) C0.1 C0.2.1 dX7_liesOn_38 rfl (lv_at hl 2 rfl) ?_
          obtain ⟨q5, hq5, hf⟩ := bd_e hf
          refine x_backp (pc := 39) hw (x_runV (pc := 39) (As := [.int v2]) (rest := [.int q4]) C0 hK hw hl.1 ⟨Nat.zero_le _, Nat.zero_le _⟩ (kX7_top l D y ad hI v2 u hq5) (by decide) ly_m0 rfl rfl wc_X7_top wm_X7_78 wi_X7_top ws_X7_top wn_X7 ⟨rfl, rfl⟩ hd_X7_top rfl ⟨Nat.le_of_ble_eq_true rfl, Nat.le_of_ble_eq_true rfl⟩ (Nat.le_of_ble_eq_true rfl) dX7_liesOn_39) (fun H locs hw => ?_)
          refine lv_icmp_lt (tgt := 49) (pc := 42) C0.1 C0.2.1 dX7_liesOn_42 (by decide) (fun hc => ?_) (fun hc => ?_)
          · have hf := if_t hf hc
            refine lv_iconst (v := 0) (pc := 49) C0.1 C0.2.1 dX7_liesOn_49 (by decide) ?_
            exact x_zret (pc := 50) C0 hK hk hr hw rfl (congrArg (fun z => (z, u)) (Option.some.inj hf)) dX7_liesOn_50
          · have hf := if_f hf hc
            refine lv_iconst (v := 1) (pc := 45) C0.1 C0.2.1 dX7_liesOn_45 (by decide) ?_
            refine lv_goto (tgt := 50) (pc := 46) C0.1 C0.2.1 dX7_liesOn_46 (by decide) ?_
            exact x_zret (pc := 50) C0 hK hk hr hw rfl (congrArg (fun z => (z, u)) (Option.some.inj hf)) dX7_liesOn_50
def wX7_above : List Cond := .code yX7_above cX7_above 7 (some .int) :: lwT
def rX7_above : Room := { frames := 5, cells := 0, slots := 0, locals := 112 }
set_option maxRecDepth 100000 in
set_option maxHeartbeats 4000000 in
theorem kX7_above (l : Launch) (D : va_G) (y : Nat → ClassId) (ad : Nat → Nat) (hI : XI ad 8) (v1 : Int32) (u : S) {o : Int32} (hf : fX7_above v1 u = some o) : Met l yX7_above wX7_above rX7_above (va_Pc [.ref (ad 0), .int v1] (XW D y ad LM 8 u)) (XQi D y ad LM 8 (o, u)) 0 0 (XA ad 8) := by
  refine x_met (bytes := cX7_above) (maxL := 7) (ret := (some .int)) (own := RX7) (by decide) rfl rfl (Nat.le_of_ble_eq_true rfl) (fun p e s m below meth c ls C0 hK hk hr hw hl => ?_)
  have hl : lv_has ls 7 [(0, .ref (ad 0)), (1, .int v1)] := hl
  unfold fX7_above at hf
  refine lv_iconst (v := 0) (pc := 0) C0.1 C0.2.1 dX7_above_0 (by decide) ?_
  refine lv_istore_n (pc := 1) (lv' := [(2, .int 0), (0, .ref (ad 0)), (1, .int v1)]) C0.1 C0.2.1 dX7_above_1 rfl hl (by decide) rfl (fun ls hl => ?_)
  refine lv_iconst (v := (-1)) (pc := 2) C0.1 C0.2.1 dX7_above_2 (by decide) ?_
  refine lv_istore_n (pc := 3) (lv' := [(3, .int (-1)), (2, .int 0), (0, .ref (ad 0)), (1, .int v1)]) C0.1 C0.2.1 dX7_above_3 rfl hl (by decide) rfl (fun ls hl => ?_)
  obtain ⟨e1, he1, hf⟩ := bd_e hf
  refine X_loop (pc := 4) (xpc := 100) (fu := fun a1 => u) (fl := fun a1 => [(3, .int a1.2), (2, .int a1.1), (0, .ref (ad 0)), (1, .int v1)]) (fun a1 r hf hE hG H locs ls hw hl => ?_) he1 (fun H locs ls hw hl => ?_) hw hl
  · unfold gX7_above_4 at hf
    refine lv_iload_n (pc := 4) C0.1 C0.2.1 dX7_above_4 rfl (lv_at hl 0 rfl) ?_
    refine lv_iload_n (pc := 5) C0.1 C0.2.1 dX7_above_5 rfl (lv_at hl 1 rfl) ?_
    refine lv_icmp_eq (tgt := 100) (pc := 6) C0.1 C0.2.1 dX7_above_6 (by decide) (fun hc => ?_) (fun hc => ?_)
    · have hf := if_t hf hc
      exact hE _ (Option.some.inj hf).symm H locs ls hw (lv_sub hl [0, 1, 2, 3] rfl)
    · have hf := if_f hf hc
      refine lv_iload_n (pc := 9) C0.1 C0.2.1 dX7_above_9 rfl (lv_at hl 1 rfl) ?_
      refine lv_istore_n (pc := 10) (lv' := [(3, .int a1.1), (2, .int a1.1), (0, .ref (ad 0)), (1, .int v1)]) C0.1 C0.2.1 dX7_above_10 rfl hl (by decide) rfl (fun ls hl => ?_)
      refine lv_iconst (v := 0) (pc := 11) C0.1 C0.2.1 dX7_above_11 (by decide) ?_
      refine lv_istore (pc := 12) (lv' := [(4, .int 0), (3, .int a1.1), (2, .int a1.1), (0, .ref (ad 0)), (1, .int v1)]) C0.1 C0.2.1 dX7_above_12 hl (by decide) rfl (fun ls hl => ?_)
      obtain ⟨e2, he2, hf⟩ := bd_e hf
      refine X_loop (pc := 14) (xpc := 97) (fu := fun a2 => u) (fl := fun a2 => [(4, .int a2.2), (3, .int a1.1), (2, .int a2.1), (0, .ref (ad 0)), (1, .int v1)]) (fun a2 r hf hE hG H locs ls hw hl => ?_) he2 (fun H locs ls hw hl => ?_) hw hl
      · unfold gX7_above_14 at hf
        refine lv_iload (pc := 14) C0.1 C0.2.1 dX7_above_14 (lv_at hl 0 rfl) ?_
        refine lv_aload_n (pc := 16) C0.1 C0.2.1 dX7_above_16 rfl (lv_at hl 3 rfl) ?_
        obtain ⟨q3, hq3, hf⟩ := bd_e hf
        refine x_backp (pc := 17) hw (x_runV (pc := 17) (As := []) (rest := [.int a2.2]) C0 hK hw hl.1 ⟨Nat.zero_le _, Nat.zero_le _⟩ (kX7_trays l D y ad hI  u hq3) (by decide) ly_m0 rfl rfl wc_X7_trays wm_X7_39 wi_X7_trays ws_X7_trays wn_X7 ⟨rfl, rfl⟩ hd_X7_trays rfl ⟨Nat.le_of_ble_eq_true rfl, Nat.le_of_ble_eq_true rfl⟩ (Nat.le_of_ble_eq_true rfl) dX7_above_17) (fun H locs hw => ?_)
        refine lv_icmp_ge (tgt := 97) (pc := 20) C0.1 C0.2.1 dX7_above_20 (by decide) (fun hc => ?_) (fun hc => ?_)
        · have hf := if_t hf hc
          exact hE _ (Option.some.inj hf).symm H locs ls hw (lv_sub hl [0, 1, 2, 3, 4] rfl)
        · have hf := if_f hf hc
          refine lv_iconst (v := 0) (pc := 23) C0.1 C0.2.1 dX7_above_23 (by decide) ?_
          refine lv_istore (pc := 24) (lv' := [(5, .int 0), (4, .int a2.2), (3, .int a1.1), (2, .int a2.1), (0, .ref (ad 0)), (1, .int v1)]) C0.1 C0.2.1 dX7_above_24 hl (by decide) rfl (fun ls hl => ?_)
          obtain ⟨e4, he4, hf⟩ := bd_e hf
          refine X_loop (pc := 26) (xpc := 91) (fu := fun a3 => u) (fl := fun a3 => [(5, .int a3.2), (4, .int a2.2), (3, .int a1.1), (2, .int a3.1), (0, .ref (ad 0)), (1, .int v1)]) (fun a3 r hf hE hG H locs ls hw hl => ?_) he4 (fun H locs ls hw hl => ?_) hw hl
          · unfold gX7_above_26 at hf
            refine lv_iload (pc := 26) C0.1 C0.2.1 dX7_above_26 (lv_at hl 0 rfl) ?_
            refine lv_aload_n (pc := 28) C0.1 C0.2.1 dX7_above_28 rfl (lv_at hl 4 rfl) ?_
            obtain ⟨q5, hq5, hf⟩ := bd_e hf
            refine x_backp (pc := 29) hw (x_runV (pc := 29) (As := []) (rest := [.int a3.2]) C0 hK hw hl.1 ⟨Nat.zero_le _, Nat.zero_le _⟩ (kX7_trays l D y ad hI  u hq5) (by decide) ly_m0 rfl rfl wc_X7_trays wm_X7_39 wi_X7_trays ws_X7_trays wn_X7 ⟨rfl, rfl⟩ hd_X7_trays rfl ⟨Nat.le_of_ble_eq_true rfl, Nat.le_of_ble_eq_true rfl⟩ (Nat.le_of_ble_eq_true rfl) dX7_above_29) (fun H locs hw => ?_)
            refine lv_icmp_ge (tgt := 91) (pc := 32) C0.1 C0.2.1 dX7_above_32 (by decide) (fun hc => ?_) (fun hc => ?_)
            · have hf := if_t hf hc
              exact hE _ (Option.some.inj hf).symm H locs ls hw (lv_sub hl [0, 1, 2, 3, 4, 5] rfl)
            · have hf := if_f hf hc
              refine lv_iload (pc := 35) C0.1 C0.2.1 dX7_above_35 (lv_at hl 0 rfl) ?_
              refine lv_iload_n (pc := 37) C0.1 C0.2.1 dX7_above_37 rfl (lv_at hl 5 rfl) ?_
              refine lv_icmp_eq (tgt := 51) (pc := 38) C0.1 C0.2.1 dX7_above_38 (by decide) (fun hc => ?_) (fun hc => ?_)
              · have hf := if_t hf hc
                refine lv_iconst (v := 1) (pc := 51) C0.1 C0.2.1 dX7_above_51 (by decide) ?_
                refine lv_goto (tgt := 56) (pc := 52) C0.1 C0.2.1 dX7_above_52 (by decide) ?_
                refine lv_istore (pc := 56) (lv' := [(6, .int 1), (5, .int a3.2), (4, .int a2.2), (3, .int a1.1), (2, .int a3.1), (0, .ref (ad 0)), (1, .int v1)]) C0.1 C0.2.1 dX7_above_56 hl (by decide) rfl (fun ls hl => ?_)
                refine lv_iload_n (pc := 58) C0.1 C0.2.1 dX7_above_58 rfl (lv_at hl 4 rfl) ?_
                refine lv_iload (pc := 59) C0.1 C0.2.1 dX7_above_59 (lv_at hl 0 rfl) ?_
                refine lv_if_eq (tgt := 82) (pc := 61) C0.1 C0.2.1 dX7_above_61 (by decide) (fun hc => ?_) (fun hc => ?_)
                · have hf := if_t hf hc
                  refine lv_iconst (v := 0) (pc := 82) C0.1 C0.2.1 dX7_above_82 (by decide) ?_
                  refine lv_ior (pc := 83) C0.1 C0.2.1 dX7_above_83 ?_
                  refine lv_istore_n (pc := 84) (lv' := [(2, .int (a3.1 ||| 0)), (6, .int 1), (5, .int a3.2), (4, .int a2.2), (3, .int a1.1), (0, .ref (ad 0)), (1, .int v1)]) C0.1 C0.2.1 dX7_above_84 rfl hl (by decide) rfl (fun ls hl => ?_)
                  refine lv_iinc (pc := 85) (v := a3.2 + 1) (lv' := [(5, .int (a3.2 + 1)), (2, .int (a3.1 ||| 0)), (6, .int 1), (4, .int a2.2), (3, .int a1.1), (0, .ref (ad 0)), (1, .int v1)]) C0.1 C0.2.1 dX7_above_85 hl (k := 2) rfl rfl (by decide) rfl (fun ls hl => ?_)
                  refine lv_goto (tgt := 26) (pc := 88) C0.1 C0.2.1 dX7_above_88 (by decide) ?_
                  exact hG _ (Option.some.inj hf).symm H locs ls hw (lv_sub hl [0, 3, 4, 1, 5, 6] rfl)
                · have hf := if_f hf hc
                  refine lv_aload_n (pc := 64) C0.1 C0.2.1 dX7_above_64 rfl (lv_at hl 5 rfl) ?_
                  refine lv_iload (pc := 65) C0.1 C0.2.1 dX7_above_65 (lv_at hl 2 rfl) ?_
                  refine lv_iload (pc := 67) C0.1 C0.2.1 dX7_above_67 (lv_at hl 1 rfl) ?_
                  obtain ⟨q6, hq6, hf⟩ := bd_e hf
                  refine x_backp (pc := 69) hw (x_runV (pc := 69) (As := [.int a2.2, .int a3.2]) (rest := [.int a3.1]) C0 hK hw hl.1 ⟨Nat.zero_le _, Nat.zero_le _⟩ (kX7_liesOn l D y ad hI a2.2 a3.2 u hq6) (by decide) ly_m0 rfl rfl wc_X7_liesOn wm_X7_115 wi_X7_liesOn ws_X7_liesOn wn_X7 ⟨rfl, rfl⟩ hd_X7_liesOn rfl ⟨Nat.le_of_ble_eq_true rfl, Nat.le_of_ble_eq_true rfl⟩ (Nat.le_of_ble_eq_true rfl) dX7_above_69) (fun H locs hw => ?_)
                  refine lv_if_eq (tgt := 82) (pc := 72) C0.1 C0.2.1 dX7_above_72 (by decide) (fun hc => ?_) (fun hc => ?_)
                  · have hf := if_t hf hc
                    refine lv_iconst (v := 0) (pc := 82) C0.1 C0.2.1 dX7_above_82 (by decide) ?_
                    refine lv_ior (pc := 83) C0.1 C0.2.1 dX7_above_83 ?_
                    refine lv_istore_n (pc := 84) (lv' := [(2, .int (a3.1 ||| 0)), (6, .int 1), (5, .int a3.2), (4, .int a2.2), (3, .int a1.1), (0, .ref (ad 0)), (1, .int v1)]) C0.1 C0.2.1 dX7_above_84 rfl hl (by decide) rfl (fun ls hl => ?_)
                    refine lv_iinc (pc := 85) (v := a3.2 + 1) (lv' := [(5, .int (a3.2 + 1)), (2, .int (a3.1 ||| 0)), (6, .int 1), (4, .int a2.2), (3, .int a1.1), (0, .ref (ad 0)), (1, .int v1)]) C0.1 C0.2.1 dX7_above_85 hl (k := 2) rfl rfl (by decide) rfl (fun ls hl => ?_)
                    refine lv_goto (tgt := 26) (pc := 88) C0.1 C0.2.1 dX7_above_88 (by decide) ?_
                    exact hG _ (Option.some.inj hf).symm H locs ls hw (lv_sub hl [0, 3, 4, 1, 5, 6] rfl)
                  · have hf := if_f hf hc
                    refine lv_iconst (v := 1) (pc := 75) C0.1 C0.2.1 dX7_above_75 (by decide) ?_
                    refine lv_iload (pc := 76) C0.1 C0.2.1 dX7_above_76 (lv_at hl 2 rfl) ?_
                    refine lv_ishl (pc := 78) C0.1 C0.2.1 dX7_above_78 ?_
                    refine lv_goto (tgt := 83) (pc := 79) C0.1 C0.2.1 dX7_above_79 (by decide) ?_
                    refine lv_ior (pc := 83) C0.1 C0.2.1 dX7_above_83 ?_
                    refine lv_istore_n (pc := 84) (lv' := [(2, .int (a3.1 ||| (1 <<< (a2.2 &&& 31)))), (6, .int 1), (5, .int a3.2), (4, .int a2.2), (3, .int a1.1), (0, .ref (ad 0)), (1, .int v1)]) C0.1 C0.2.1 dX7_above_84 rfl hl (by decide) rfl (fun ls hl => ?_)
                    refine lv_iinc (pc := 85) (v := a3.2 + 1) (lv' := [(5, .int (a3.2 + 1)), (2, .int (a3.1 ||| (1 <<< (a2.2 &&& 31)))), (6, .int 1), (4, .int a2.2), (3, .int a1.1), (0, .ref (ad 0)), (1, .int v1)]) C0.1 C0.2.1 dX7_above_85 hl (k := 2) rfl rfl (by decide) rfl (fun ls hl => ?_)
                    refine lv_goto (tgt := 26) (pc := 88) C0.1 C0.2.1 dX7_above_88 (by decide) ?_
                    exact hG _ (Option.some.inj hf).symm H locs ls hw (lv_sub hl [0, 3, 4, 1, 5, 6] rfl)
              · have hf := if_f hf hc
                refine lv_iload_n (pc := 41) C0.1 C0.2.1 dX7_above_41 rfl (lv_at hl 3 rfl) ?_
                refine lv_iload (pc := 42) C0.1 C0.2.1 dX7_above_42 (lv_at hl 0 rfl) ?_
                refine lv_ishr (pc := 44) C0.1 C0.2.1 dX7_above_44 ?_
                refine lv_iconst (v := 1) (pc := 45) C0.1 C0.2.1 dX7_above_45 (by decide) ?_
                refine lv_iand (pc := 46) C0.1 C0.2.1 dX7_above_46 ?_
                refine lv_iconst (v := 1) (pc := 47) C0.1 C0.2.1 dX7_above_47 (by decide) ?_
                refine lv_icmp_ne (tgt := 55) (pc := 48) C0.1 C0.2.1 dX7_above_48 (by decide) (fun hc => ?_) (fun hc => ?_)
                · have hf := if_f hf hc
                  refine lv_iconst (v := 0) (pc := 55) C0.1 C0.2.1 dX7_above_55 (by decide) ?_
                  refine lv_istore (pc := 56) (lv' := [(6, .int 0), (5, .int a3.2), (4, .int a2.2), (3, .int a1.1), (2, .int a3.1), (0, .ref (ad 0)), (1, .int v1)]) C0.1 C0.2.1 dX7_above_56 hl (by decide) rfl (fun ls hl => ?_)
                  refine lv_iload_n (pc := 58) C0.1 C0.2.1 dX7_above_58 rfl (lv_at hl 4 rfl) ?_
                  refine lv_iload (pc := 59) C0.1 C0.2.1 dX7_above_59 (lv_at hl 0 rfl) ?_
                  refine lv_if_eq (tgt := 82) (pc := 61) C0.1 C0.2.1 dX7_above_61 (by decide) (fun hc => ?_) (fun hc => ?_)
                  · have hf := if_t hf hc
                    refine lv_iconst (v := 0) (pc := 82) C0.1 C0.2.1 dX7_above_82 (by decide) ?_
                    refine lv_ior (pc := 83) C0.1 C0.2.1 dX7_above_83 ?_
                    refine lv_istore_n (pc := 84) (lv' := [(2, .int (a3.1 ||| 0)), (6, .int 0), (5, .int a3.2), (4, .int a2.2), (3, .int a1.1), (0, .ref (ad 0)), (1, .int v1)]) C0.1 C0.2.1 dX7_above_84 rfl hl (by decide) rfl (fun ls hl => ?_)
                    refine lv_iinc (pc := 85) (v := a3.2 + 1) (lv' := [(5, .int (a3.2 + 1)), (2, .int (a3.1 ||| 0)), (6, .int 0), (4, .int a2.2), (3, .int a1.1), (0, .ref (ad 0)), (1, .int v1)]) C0.1 C0.2.1 dX7_above_85 hl (k := 2) rfl rfl (by decide) rfl (fun ls hl => ?_)
                    refine lv_goto (tgt := 26) (pc := 88) C0.1 C0.2.1 dX7_above_88 (by decide) ?_
                    exact hG _ (Option.some.inj hf).symm H locs ls hw (lv_sub hl [0, 3, 4, 1, 5, 6] rfl)
                  · have hf := if_f hf hc
                    refine lv_aload_n (pc := 64) C0.1 C0.2.1 dX7_above_64 rfl (lv_at hl 5 rfl) ?_
                    refine lv_iload (pc := 65) C0.1 C0.2.1 dX7_above_65 (lv_at hl 2 rfl) ?_
                    refine lv_iload (pc := 67) C0.1 C0.2.1 dX7_above_67 (lv_at hl 1 rfl) ?_
                    obtain ⟨q7, hq7, hf⟩ := bd_e hf
                    refine x_backp (pc := 69) hw (x_runV (pc := 69) (As := [.int a2.2, .int a3.2]) (rest := [.int a3.1]) C0 hK hw hl.1 ⟨Nat.zero_le _, Nat.zero_le _⟩ (kX7_liesOn l D y ad hI a2.2 a3.2 u hq7) (by decide) ly_m0 rfl rfl wc_X7_liesOn wm_X7_115 wi_X7_liesOn ws_X7_liesOn wn_X7 ⟨rfl, rfl⟩ hd_X7_liesOn rfl ⟨Nat.le_of_ble_eq_true rfl, Nat.le_of_ble_eq_true rfl⟩ (Nat.le_of_ble_eq_true rfl) dX7_above_69) (fun H locs hw => ?_)
                    refine lv_if_eq (tgt := 82) (pc := 72) C0.1 C0.2.1 dX7_above_72 (by decide) (fun hc => ?_) (fun hc => ?_)
                    · have hf := if_t hf hc
                      refine lv_iconst (v := 0) (pc := 82) C0.1 C0.2.1 dX7_above_82 (by decide) ?_
                      refine lv_ior (pc := 83) C0.1 C0.2.1 dX7_above_83 ?_
                      refine lv_istore_n (pc := 84) (lv' := [(2, .int (a3.1 ||| 0)), (6, .int 0), (5, .int a3.2), (4, .int a2.2), (3, .int a1.1), (0, .ref (ad 0)), (1, .int v1)]) C0.1 C0.2.1 dX7_above_84 rfl hl (by decide) rfl (fun ls hl => ?_)
                      refine lv_iinc (pc := 85) (v := a3.2 + 1) (lv' := [(5, .int (a3.2 + 1)), (2, .int (a3.1 ||| 0)), (6, .int 0), (4, .int a2.2), (3, .int a1.1), (0, .ref (ad 0)), (1, .int v1)]) C0.1 C0.2.1 dX7_above_85 hl (k := 2) rfl rfl (by decide) rfl (fun ls hl => ?_)
                      refine lv_goto (tgt := 26) (pc := 88) C0.1 C0.2.1 dX7_above_88 (by decide) ?_
                      exact hG _ (Option.some.inj hf).symm H locs ls hw (lv_sub hl [0, 3, 4, 1, 5, 6] rfl)
                    · have hf := if_f hf hc
                      refine lv_iconst (v := 1) (pc := 75) C0.1 C0.2.1 dX7_above_75 (by decide) ?_
                      refine lv_iload (pc := 76) C0.1 C0.2.1 dX7_above_76 (lv_at hl 2 rfl) ?_
                      refine lv_ishl (pc := 78) C0.1 C0.2.1 dX7_above_78 ?_
                      refine lv_goto (tgt := 83) (pc := 79) C0.1 C0.2.1 dX7_above_79 (by decide) ?_
                      refine lv_ior (pc := 83) C0.1 C0.2.1 dX7_above_83 ?_
                      refine lv_istore_n (pc := 84) (lv' := [(2, .int (a3.1 ||| (1 <<< (a2.2 &&& 31)))), (6, .int 0), (5, .int a3.2), (4, .int a2.2), (3, .int a1.1), (0, .ref (ad 0)), (1, .int v1)]) C0.1 C0.2.1 dX7_above_84 rfl hl (by decide) rfl (fun ls hl => ?_)
                      refine lv_iinc (pc := 85) (v := a3.2 + 1) (lv' := [(5, .int (a3.2 + 1)), (2, .int (a3.1 ||| (1 <<< (a2.2 &&& 31)))), (6, .int 0), (4, .int a2.2), (3, .int a1.1), (0, .ref (ad 0)), (1, .int v1)]) C0.1 C0.2.1 dX7_above_85 hl (k := 2) rfl rfl (by decide) rfl (fun ls hl => ?_)
                      refine lv_goto (tgt := 26) (pc := 88) C0.1 C0.2.1 dX7_above_88 (by decide) ?_
                      exact hG _ (Option.some.inj hf).symm H locs ls hw (lv_sub hl [0, 3, 4, 1, 5, 6] rfl)
                · have hf := if_t hf hc
                  refine lv_iconst (v := 1) (pc := 51) C0.1 C0.2.1 dX7_above_51 (by decide) ?_
                  refine lv_goto (tgt := 56) (pc := 52) C0.1 C0.2.1 dX7_above_52 (by decide) ?_
                  refine lv_istore (pc := 56) (lv' := [(6, .int 1), (5, .int a3.2), (4, .int a2.2), (3, .int a1.1), (2, .int a3.1), (0, .ref (ad 0)), (1, .int v1)]) C0.1 C0.2.1 dX7_above_56 hl (by decide) rfl (fun ls hl => ?_)
                  refine lv_iload_n (pc := 58) C0.1 C0.2.1 dX7_above_58 rfl (lv_at hl 4 rfl) ?_
                  refine lv_iload (pc := 59) C0.1 C0.2.1 dX7_above_59 (lv_at hl 0 rfl) ?_
                  refine lv_if_eq (tgt := 82) (pc := 61) C0.1 C0.2.1 dX7_above_61 (by decide) (fun hc => ?_) (fun hc => ?_)
                  · have hf := if_t hf hc
                    refine lv_iconst (v := 0) (pc := 82) C0.1 C0.2.1 dX7_above_82 (by decide) ?_
                    refine lv_ior (pc := 83) C0.1 C0.2.1 dX7_above_83 ?_
                    refine lv_istore_n (pc := 84) (lv' := [(2, .int (a3.1 ||| 0)), (6, .int 1), (5, .int a3.2), (4, .int a2.2), (3, .int a1.1), (0, .ref (ad 0)), (1, .int v1)]) C0.1 C0.2.1 dX7_above_84 rfl hl (by decide) rfl (fun ls hl => ?_)
                    refine lv_iinc (pc := 85) (v := a3.2 + 1) (lv' := [(5, .int (a3.2 + 1)), (2, .int (a3.1 ||| 0)), (6, .int 1), (4, .int a2.2), (3, .int a1.1), (0, .ref (ad 0)), (1, .int v1)]) C0.1 C0.2.1 dX7_above_85 hl (k := 2) rfl rfl (by decide) rfl (fun ls hl => ?_)
                    refine lv_goto (tgt := 26) (pc := 88) C0.1 C0.2.1 dX7_above_88 (by decide) ?_
                    exact hG _ (Option.some.inj hf).symm H locs ls hw (lv_sub hl [0, 3, 4, 1, 5, 6] rfl)
                  · have hf := if_f hf hc
                    refine lv_aload_n (pc := 64) C0.1 C0.2.1 dX7_above_64 rfl (lv_at hl 5 rfl) ?_
                    refine lv_iload (pc := 65) C0.1 C0.2.1 dX7_above_65 (lv_at hl 2 rfl) ?_
                    refine lv_iload (pc := 67) C0.1 C0.2.1 dX7_above_67 (lv_at hl 1 rfl) ?_
                    obtain ⟨q8, hq8, hf⟩ := bd_e hf
                    refine x_backp (pc := 69) hw (x_runV (pc := 69) (As := [.int a2.2, .int a3.2]) (rest := [.int a3.1]) C0 hK hw hl.1 ⟨Nat.zero_le _, Nat.zero_le _⟩ (kX7_liesOn l D y ad hI a2.2 a3.2 u hq8) (by decide) ly_m0 rfl rfl wc_X7_liesOn wm_X7_115 wi_X7_liesOn ws_X7_liesOn wn_X7 ⟨rfl, rfl⟩ hd_X7_liesOn rfl ⟨Nat.le_of_ble_eq_true rfl, Nat.le_of_ble_eq_true rfl⟩ (Nat.le_of_ble_eq_true rfl) dX7_above_69) (fun H locs hw => ?_)
                    refine lv_if_eq (tgt := 82) (pc := 72) C0.1 C0.2.1 dX7_above_72 (by decide) (fun hc => ?_) (fun hc => ?_)
                    · have hf := if_t hf hc
                      refine lv_iconst (v := 0) (pc := 82) C0.1 C0.2.1 dX7_above_82 (by decide) ?_
                      refine lv_ior (pc := 83) C0.1 C0.2.1 dX7_above_83 ?_
                      refine lv_istore_n (pc := 84) (lv' := [(2, .int (a3.1 ||| 0)), (6, .int 1), (5, .int a3.2), (4, .int a2.2), (3, .int a1.1), (0, .ref (ad 0)), (1, .int v1)]) C0.1 C0.2.1 dX7_above_84 rfl hl (by decide) rfl (fun ls hl => ?_)
                      refine lv_iinc (pc := 85) (v := a3.2 + 1) (lv' := [(5, .int (a3.2 + 1)), (2, .int (a3.1 ||| 0)), (6, .int 1), (4, .int a2.2), (3, .int a1.1), (0, .ref (ad 0)), (1, .int v1)]) C0.1 C0.2.1 dX7_above_85 hl (k := 2) rfl rfl (by decide) rfl (fun ls hl => ?_)
                      refine lv_goto (tgt := 26) (pc := 88) C0.1 C0.2.1 dX7_above_88 (by decide) ?_
                      exact hG _ (Option.some.inj hf).symm H locs ls hw (lv_sub hl [0, 3, 4, 1, 5, 6] rfl)
                    · have hf := if_f hf hc
                      refine lv_iconst (v := 1) (pc := 75) C0.1 C0.2.1 dX7_above_75 (by decide) ?_
                      refine lv_iload (pc := 76) C0.1 C0.2.1 dX7_above_76 (lv_at hl 2 rfl) ?_
                      refine lv_ishl (pc := 78) C0.1 C0.2.1 dX7_above_78 ?_
                      refine lv_goto (tgt := 83) (pc := 79) C0.1 C0.2.1 dX7_above_79 (by decide) ?_
                      refine lv_ior (pc := 83) C0.1 C0.2.1 dX7_above_83 ?_
                      refine lv_istore_n (pc := 84) (lv' := [(2, .int (a3.1 ||| (1 <<< (a2.2 &&& 31)))), (6, .int 1), (5, .int a3.2), (4, .int a2.2), (3, .int a1.1), (0, .ref (ad 0)), (1, .int v1)]) C0.1 C0.2.1 dX7_above_84 rfl hl (by decide) rfl (fun ls hl => ?_)
                      refine lv_iinc (pc := 85) (v := a3.2 + 1) (lv' := [(5, .int (a3.2 + 1)), (2, .int (a3.1 ||| (1 <<< (a2.2 &&& 31)))), (6, .int 1), (4, .int a2.2), (3, .int a1.1), (0, .ref (ad 0)), (1, .int v1)]) C0.1 C0.2.1 dX7_above_85 hl (k := 2) rfl rfl (by decide) rfl (fun ls hl => ?_)
                      refine lv_goto (tgt := 26) (pc := 88) C0.1 C0.2.1 dX7_above_88 (by decide) ?_
                      exact hG _ (Option.some.inj hf).symm H locs ls hw (lv_sub hl [0, 3, 4, 1, 5, 6] rfl)
          · skip
            refine lv_iinc (pc := 91) (v := a2.2 + 1) (lv' := [(4, .int (a2.2 + 1)), (5, .int e4.2), (3, .int a1.1), (2, .int e4.1), (0, .ref (ad 0)), (1, .int v1)]) C0.1 C0.2.1 dX7_above_91 hl (k := 1) rfl rfl (by decide) rfl (fun ls hl => ?_)
            refine lv_goto (tgt := 14) (pc := 94) C0.1 C0.2.1 dX7_above_94 (by decide) ?_
            exact hG _ (Option.some.inj hf).symm H locs ls hw (lv_sub hl [0, 2, 3, 4, 5] rfl)
      · skip
        refine lv_goto (tgt := 4) (pc := 97) C0.1 C0.2.1 dX7_above_97 (by decide) ?_
        exact hG _ (Option.some.inj hf).symm H locs ls hw (lv_sub hl [1, 2, 3, 4] rfl)
  · skip
    refine lv_iload_n (pc := 100) C0.1 C0.2.1 dX7_above_100 rfl (lv_at hl 1 rfl) ?_
    exact x_iret (pc := 101) C0 hK hk hr hw (congrArg (fun z => (z, u)) (Option.some.inj hf)) dX7_above_101
def wX7_lift : List Cond := .code yX7_lift cX7_lift 4 (some .int) :: lwT
def rX7_lift : Room := { frames := 6, cells := 0, slots := 0, locals := 138 }
set_option maxRecDepth 100000 in
set_option maxHeartbeats 4000000 in
theorem kX7_lift (l : Launch) (D : va_G) (y : Nat → ClassId) (ad : Nat → Nat) (hI : XI ad 8) (v1 : Int32) (u : S) {o : Int32} (hf : fX7_lift v1 u = some o) : Met l yX7_lift wX7_lift rX7_lift (va_Pc [.ref (ad 0), .int v1] (XW D y ad LM 8 u)) (XQi D y ad LM 8 (o, u)) 0 0 (XA ad 8) := by
  refine x_met (bytes := cX7_lift) (maxL := 4) (ret := (some .int)) (own := RX7) (by decide) rfl rfl (Nat.le_of_ble_eq_true rfl) (fun p e s m below meth c ls C0 hK hk hr hw hl => ?_)
  have hl : lv_has ls 4 [(0, .ref (ad 0)), (1, .int v1)] := hl
  unfold fX7_lift at hf
  refine lv_iconst (v := 0) (pc := 0) C0.1 C0.2.1 dX7_lift_0 (by decide) ?_
  refine lv_istore_n (pc := 1) (lv' := [(2, .int 0), (0, .ref (ad 0)), (1, .int v1)]) C0.1 C0.2.1 dX7_lift_1 rfl hl (by decide) rfl (fun ls hl => ?_)
  refine lv_aload_n (pc := 2) C0.1 C0.2.1 dX7_lift_2 rfl (lv_at hl 1 rfl) ?_
  refine lv_iload_n (pc := 3) C0.1 C0.2.1 dX7_lift_3 rfl (lv_at hl 2 rfl) ?_
  obtain ⟨q1, hq1, hf⟩ := bd_e hf
  refine x_backp (pc := 4) hw (x_runV (pc := 4) (As := [.int v1]) (rest := []) C0 hK hw hl.1 ⟨Nat.zero_le _, Nat.zero_le _⟩ (kX7_above l D y ad hI v1 u hq1) (by decide) ly_m0 rfl rfl wc_X7_above wm_X7_118 wi_X7_above ws_X7_above wn_X7 ⟨rfl, rfl⟩ hd_X7_above rfl ⟨Nat.le_of_ble_eq_true rfl, Nat.le_of_ble_eq_true rfl⟩ (Nat.le_of_ble_eq_true rfl) dX7_lift_4) (fun H locs hw => ?_)
  refine lv_istore_n (pc := 7) (lv' := [(3, .int q1), (2, .int 0), (0, .ref (ad 0)), (1, .int v1)]) C0.1 C0.2.1 dX7_lift_7 rfl hl (by decide) rfl (fun ls hl => ?_)
  obtain ⟨e2, he2, hf⟩ := bd_e hf
  refine X_loop (pc := 8) (xpc := 24) (fu := fun a1 => u) (fl := fun a1 => [(3, .int a1.2), (2, .int a1.1), (0, .ref (ad 0)), (1, .int v1)]) (fun a1 r hf hE hG H locs ls hw hl => ?_) he2 (fun H locs ls hw hl => ?_) hw hl
  · unfold gX7_lift_8 at hf
    refine lv_iload_n (pc := 8) C0.1 C0.2.1 dX7_lift_8 rfl (lv_at hl 0 rfl) ?_
    refine lv_if_eq (tgt := 24) (pc := 9) C0.1 C0.2.1 dX7_lift_9 (by decide) (fun hc => ?_) (fun hc => ?_)
    · have hf := if_t hf hc
      exact hE _ (Option.some.inj hf).symm H locs ls hw (lv_sub hl [0, 1, 2, 3] rfl)
    · have hf := if_f hf hc
      refine lv_iinc (pc := 12) (v := a1.1 + 1) (lv' := [(2, .int (a1.1 + 1)), (3, .int a1.2), (0, .ref (ad 0)), (1, .int v1)]) C0.1 C0.2.1 dX7_lift_12 hl (k := 1) rfl rfl (by decide) rfl (fun ls hl => ?_)
      refine lv_iload_n (pc := 15) C0.1 C0.2.1 dX7_lift_15 rfl (lv_at hl 1 rfl) ?_
      refine lv_iload_n (pc := 16) C0.1 C0.2.1 dX7_lift_16 rfl (lv_at hl 1 rfl) ?_
      refine lv_iconst (v := 1) (pc := 17) C0.1 C0.2.1 dX7_lift_17 (by decide) ?_
      refine lv_isub (pc := 18) C0.1 C0.2.1 dX7_lift_18 ?_
      refine lv_iand (pc := 19) C0.1 C0.2.1 dX7_lift_19 ?_
      refine lv_istore_n (pc := 20) (lv' := [(3, .int (a1.2 &&& (a1.2 - 1))), (2, .int (a1.1 + 1)), (0, .ref (ad 0)), (1, .int v1)]) C0.1 C0.2.1 dX7_lift_20 rfl hl (by decide) rfl (fun ls hl => ?_)
      refine lv_goto (tgt := 8) (pc := 21) C0.1 C0.2.1 dX7_lift_21 (by decide) ?_
      exact hG _ (Option.some.inj hf).symm H locs ls hw (lv_sub hl [0, 1, 2, 3] rfl)
  · skip
    refine lv_iload_n (pc := 24) C0.1 C0.2.1 dX7_lift_24 rfl (lv_at hl 1 rfl) ?_
    exact x_iret (pc := 25) C0 hK hk hr hw (congrArg (fun z => (z, u)) (Option.some.inj hf)) dX7_lift_25
def wX7_fault : List Cond := .code yX7_fault cX7_fault 5 (some .int) :: lwT
def rX7_fault : Room := { frames := 6, cells := 0, slots := 0, locals := 138 }
set_option maxRecDepth 100000 in
set_option maxHeartbeats 4000000 in
theorem kX7_fault (l : Launch) (D : va_G) (y : Nat → ClassId) (ad : Nat → Nat) (hI : XI ad 8) (v1 : Int32) (u : S) {o : Int32} (hf : fX7_fault v1 u = some o) : Met l yX7_fault wX7_fault rX7_fault (va_Pc [.ref (ad 0), .int v1] (XW D y ad LM 8 u)) (XQi D y ad LM 8 (o, u)) 0 0 (XA ad 8) := by
  refine x_met (bytes := cX7_fault) (maxL := 5) (ret := (some .int)) (own := RX7) (by decide) rfl rfl (Nat.le_of_ble_eq_true rfl) (fun p e s m below meth c ls C0 hK hk hr hw hl => ?_)
  have hl : lv_has ls 5 [(0, .ref (ad 0)), (1, .int v1)] := hl
  unfold fX7_fault at hf
  refine lv_aload_n (pc := 0) C0.1 C0.2.1 dX7_fault_0 rfl (lv_at hl 0 rfl) ?_
  refine lv_iload_n (pc := 1) C0.1 C0.2.1 dX7_fault_1 rfl (lv_at hl 1 rfl) ?_
  obtain ⟨q1, hq1, hf⟩ := bd_e hf
  refine x_backp (pc := 2) hw (x_runV (pc := 2) (As := [.int v1]) (rest := []) C0 hK hw hl.1 ⟨Nat.zero_le _, Nat.zero_le _⟩ (kX7_above l D y ad hI v1 u hq1) (by decide) ly_m0 rfl rfl wc_X7_above wm_X7_118 wi_X7_above ws_X7_above wn_X7 ⟨rfl, rfl⟩ hd_X7_above rfl ⟨Nat.le_of_ble_eq_true rfl, Nat.le_of_ble_eq_true rfl⟩ (Nat.le_of_ble_eq_true rfl) dX7_fault_2) (fun H locs hw => ?_)
  refine lv_istore_n (pc := 5) (lv' := [(2, .int q1), (0, .ref (ad 0)), (1, .int v1)]) C0.1 C0.2.1 dX7_fault_5 rfl hl (by decide) rfl (fun ls hl => ?_)
  refine lv_iconst (v := 0) (pc := 6) C0.1 C0.2.1 dX7_fault_6 (by decide) ?_
  refine lv_istore_n (pc := 7) (lv' := [(3, .int 0), (2, .int q1), (0, .ref (ad 0)), (1, .int v1)]) C0.1 C0.2.1 dX7_fault_7 rfl hl (by decide) rfl (fun ls hl => ?_)
  refine lv_iconst (v := 0) (pc := 8) C0.1 C0.2.1 dX7_fault_8 (by decide) ?_
  refine lv_istore (pc := 9) (lv' := [(4, .int 0), (3, .int 0), (2, .int q1), (0, .ref (ad 0)), (1, .int v1)]) C0.1 C0.2.1 dX7_fault_9 hl (by decide) rfl (fun ls hl => ?_)
  obtain ⟨e2, he2, hf⟩ := bd_e hf
  refine X_loop (pc := 11) (xpc := 60) (fu := fun a1 => u) (fl := fun a1 => [(4, .int a1.2), (3, .int a1.1), (2, .int q1), (0, .ref (ad 0)), (1, .int v1)]) (fun a1 r hf hE hG H locs ls hw hl => ?_) he2 (fun H locs ls hw hl => ?_) hw hl
  · unfold gX7_fault_11 at hf
    refine lv_iload (pc := 11) C0.1 C0.2.1 dX7_fault_11 (lv_at hl 0 rfl) ?_
    refine lv_aload_n (pc := 13) C0.1 C0.2.1 dX7_fault_13 rfl (lv_at hl 3 rfl) ?_
    obtain ⟨q3, hq3, hf⟩ := bd_e hf
    refine x_backp (pc := 14) hw (x_runV (pc := 14) (As := []) (rest := [.int a1.2]) C0 hK hw hl.1 ⟨Nat.zero_le _, Nat.zero_le _⟩ (kX7_trays l D y ad hI  u hq3) (by decide) ly_m0 rfl rfl wc_X7_trays wm_X7_39 wi_X7_trays ws_X7_trays wn_X7 ⟨rfl, rfl⟩ hd_X7_trays rfl ⟨Nat.le_of_ble_eq_true rfl, Nat.le_of_ble_eq_true rfl⟩ (Nat.le_of_ble_eq_true rfl) dX7_fault_14) (fun H locs hw => ?_)
    refine lv_icmp_ge (tgt := 60) (pc := 17) C0.1 C0.2.1 dX7_fault_17 (by decide) (fun hc => ?_) (fun hc => ?_)
    · have hf := if_t hf hc
      exact hE _ (Option.some.inj hf).symm H locs ls hw (lv_sub hl [0, 1, 2, 3, 4] rfl)
    · have hf := if_f hf hc
      refine lv_iload_n (pc := 20) C0.1 C0.2.1 dX7_fault_20 rfl (lv_at hl 1 rfl) ?_
      refine lv_iload_n (pc := 21) C0.1 C0.2.1 dX7_fault_21 rfl (lv_at hl 2 rfl) ?_
      refine lv_iload (pc := 22) C0.1 C0.2.1 dX7_fault_22 (lv_at hl 0 rfl) ?_
      refine lv_ishr (pc := 24) C0.1 C0.2.1 dX7_fault_24 ?_
      refine lv_iconst (v := 1) (pc := 25) C0.1 C0.2.1 dX7_fault_25 (by decide) ?_
      refine lv_iand (pc := 26) C0.1 C0.2.1 dX7_fault_26 ?_
      refine lv_iconst (v := 1) (pc := 27) C0.1 C0.2.1 dX7_fault_27 (by decide) ?_
      refine lv_icmp_ne (tgt := 51) (pc := 28) C0.1 C0.2.1 dX7_fault_28 (by decide) (fun hc => ?_) (fun hc => ?_)
      · have hf := if_f hf hc
        refine lv_iconst (v := 0) (pc := 51) C0.1 C0.2.1 dX7_fault_51 (by decide) ?_
        refine lv_iadd (pc := 52) C0.1 C0.2.1 dX7_fault_52 ?_
        refine lv_istore_n (pc := 53) (lv' := [(3, .int (a1.1 + 0)), (4, .int a1.2), (2, .int q1), (0, .ref (ad 0)), (1, .int v1)]) C0.1 C0.2.1 dX7_fault_53 rfl hl (by decide) rfl (fun ls hl => ?_)
        refine lv_iinc (pc := 54) (v := a1.2 + 1) (lv' := [(4, .int (a1.2 + 1)), (3, .int (a1.1 + 0)), (2, .int q1), (0, .ref (ad 0)), (1, .int v1)]) C0.1 C0.2.1 dX7_fault_54 hl (k := 1) rfl rfl (by decide) rfl (fun ls hl => ?_)
        refine lv_goto (tgt := 11) (pc := 57) C0.1 C0.2.1 dX7_fault_57 (by decide) ?_
        exact hG _ (Option.some.inj hf).symm H locs ls hw (lv_sub hl [0, 1, 2, 3, 4] rfl)
      · have hf := if_t hf hc
        refine lv_aload_n (pc := 31) C0.1 C0.2.1 dX7_fault_31 rfl (lv_at hl 3 rfl) ?_
        refine lv_iload (pc := 32) C0.1 C0.2.1 dX7_fault_32 (lv_at hl 0 rfl) ?_
        refine lv_iconst (v := 3) (pc := 34) C0.1 C0.2.1 dX7_fault_34 (by decide) ?_
        obtain ⟨q4, hq4, hf⟩ := bd_e hf
        refine x_backp (pc := 35) hw (x_runV (pc := 35) (As := [.int a1.2, .int 3]) (rest := [.int a1.1]) C0 hK hw hl.1 ⟨Nat.zero_le _, Nat.zero_le _⟩ (kX7_of l D y ad hI a1.2 3 u hq4) (by decide) ly_m0 rfl rfl wc_X7_of wm_X7_47 wi_X7_of ws_X7_of wn_X7 ⟨rfl, rfl⟩ hd_X7_of rfl ⟨Nat.le_of_ble_eq_true rfl, Nat.le_of_ble_eq_true rfl⟩ (Nat.le_of_ble_eq_true rfl) dX7_fault_35) (fun H locs hw => ?_)
        refine lv_aload_n (pc := 38) C0.1 C0.2.1 dX7_fault_38 rfl (lv_at hl 3 rfl) ?_
        refine lv_iload_n (pc := 39) C0.1 C0.2.1 dX7_fault_39 rfl (lv_at hl 4 rfl) ?_
        refine lv_iconst (v := 3) (pc := 40) C0.1 C0.2.1 dX7_fault_40 (by decide) ?_
        obtain ⟨q5, hq5, hf⟩ := bd_e hf
        refine x_backp (pc := 41) hw (x_runV (pc := 41) (As := [.int v1, .int 3]) (rest := [.int q4, .int a1.1]) C0 hK hw hl.1 ⟨Nat.zero_le _, Nat.zero_le _⟩ (kX7_of l D y ad hI v1 3 u hq5) (by decide) ly_m0 rfl rfl wc_X7_of wm_X7_47 wi_X7_of ws_X7_of wn_X7 ⟨rfl, rfl⟩ hd_X7_of rfl ⟨Nat.le_of_ble_eq_true rfl, Nat.le_of_ble_eq_true rfl⟩ (Nat.le_of_ble_eq_true rfl) dX7_fault_41) (fun H locs hw => ?_)
        refine lv_icmp_le (tgt := 51) (pc := 44) C0.1 C0.2.1 dX7_fault_44 (by decide) (fun hc => ?_) (fun hc => ?_)
        · have hf := if_t hf hc
          refine lv_iconst (v := 0) (pc := 51) C0.1 C0.2.1 dX7_fault_51 (by decide) ?_
          refine lv_iadd (pc := 52) C0.1 C0.2.1 dX7_fault_52 ?_
          refine lv_istore_n (pc := 53) (lv' := [(3, .int (a1.1 + 0)), (4, .int a1.2), (2, .int q1), (0, .ref (ad 0)), (1, .int v1)]) C0.1 C0.2.1 dX7_fault_53 rfl hl (by decide) rfl (fun ls hl => ?_)
          refine lv_iinc (pc := 54) (v := a1.2 + 1) (lv' := [(4, .int (a1.2 + 1)), (3, .int (a1.1 + 0)), (2, .int q1), (0, .ref (ad 0)), (1, .int v1)]) C0.1 C0.2.1 dX7_fault_54 hl (k := 1) rfl rfl (by decide) rfl (fun ls hl => ?_)
          refine lv_goto (tgt := 11) (pc := 57) C0.1 C0.2.1 dX7_fault_57 (by decide) ?_
          exact hG _ (Option.some.inj hf).symm H locs ls hw (lv_sub hl [0, 1, 2, 3, 4] rfl)
        · have hf := if_f hf hc
          refine lv_iconst (v := 1) (pc := 47) C0.1 C0.2.1 dX7_fault_47 (by decide) ?_
          refine lv_goto (tgt := 52) (pc := 48) C0.1 C0.2.1 dX7_fault_48 (by decide) ?_
          refine lv_iadd (pc := 52) C0.1 C0.2.1 dX7_fault_52 ?_
          refine lv_istore_n (pc := 53) (lv' := [(3, .int (a1.1 + 1)), (4, .int a1.2), (2, .int q1), (0, .ref (ad 0)), (1, .int v1)]) C0.1 C0.2.1 dX7_fault_53 rfl hl (by decide) rfl (fun ls hl => ?_)
          refine lv_iinc (pc := 54) (v := a1.2 + 1) (lv' := [(4, .int (a1.2 + 1)), (3, .int (a1.1 + 1)), (2, .int q1), (0, .ref (ad 0)), (1, .int v1)]) C0.1 C0.2.1 dX7_fault_54 hl (k := 1) rfl rfl (by decide) rfl (fun ls hl => ?_)
          refine lv_goto (tgt := 11) (pc := 57) C0.1 C0.2.1 dX7_fault_57 (by decide) ?_
          exact hG _ (Option.some.inj hf).symm H locs ls hw (lv_sub hl [0, 1, 2, 3, 4] rfl)
  · skip
    refine lv_iload_n (pc := 60) C0.1 C0.2.1 dX7_fault_60 rfl (lv_at hl 1 rfl) ?_
    exact x_iret (pc := 61) C0 hK hk hr hw (congrArg (fun z => (z, u)) (Option.some.inj hf)) dX7_fault_61
def wX7_rests : List Cond := .code yX7_rests cX7_rests 6 (some .int) :: lwT
def rX7_rests : Room := { frames := 4, cells := 0, slots := 0, locals := 90 }
set_option maxRecDepth 100000 in
set_option maxHeartbeats 4000000 in
theorem kX7_rests (l : Launch) (D : va_G) (y : Nat → ClassId) (ad : Nat → Nat) (hI : XI ad 8) (v1 : Int32) (u : S) {o : Int32} (hf : fX7_rests v1 u = some o) : Met l yX7_rests wX7_rests rX7_rests (va_Pc [.ref (ad 0), .int v1] (XW D y ad LM 8 u)) (XQi D y ad LM 8 (o, u)) 0 0 (XA ad 8) := by
  refine x_met (bytes := cX7_rests) (maxL := 6) (ret := (some .int)) (own := RX7) (by decide) rfl rfl (Nat.le_of_ble_eq_true rfl) (fun p e s m below meth c ls C0 hK hk hr hw hl => ?_)
  have hl : lv_has ls 6 [(0, .ref (ad 0)), (1, .int v1)] := hl
  unfold fX7_rests at hf
  refine lv_iconst (v := 0) (pc := 0) C0.1 C0.2.1 dX7_rests_0 (by decide) ?_
  refine lv_istore_n (pc := 1) (lv' := [(2, .int 0), (0, .ref (ad 0)), (1, .int v1)]) C0.1 C0.2.1 dX7_rests_1 rfl hl (by decide) rfl (fun ls hl => ?_)
  refine lv_iconst (v := 0) (pc := 2) C0.1 C0.2.1 dX7_rests_2 (by decide) ?_
  refine lv_istore_n (pc := 3) (lv' := [(3, .int 0), (2, .int 0), (0, .ref (ad 0)), (1, .int v1)]) C0.1 C0.2.1 dX7_rests_3 rfl hl (by decide) rfl (fun ls hl => ?_)
  obtain ⟨e1, he1, hf⟩ := bd_e hf
  refine X_loop (pc := 4) (xpc := 140) (fu := fun a1 => u) (fl := fun a1 => [(3, .int a1.2), (2, .int a1.1), (0, .ref (ad 0)), (1, .int v1)]) (fun a1 r hf hE hG H locs ls hw hl => ?_) he1 (fun H locs ls hw hl => ?_) hw hl
  · unfold gX7_rests_4 at hf
    refine lv_iload_n (pc := 4) C0.1 C0.2.1 dX7_rests_4 rfl (lv_at hl 0 rfl) ?_
    refine lv_bipush (v := 100) (pc := 5) C0.1 C0.2.1 dX7_rests_5 (by decide) ?_
    refine lv_icmp_ge (tgt := 140) (pc := 7) C0.1 C0.2.1 dX7_rests_7 (by decide) (fun hc => ?_) (fun hc => ?_)
    · have hf := if_t hf hc
      exact hE _ (Option.some.inj hf).symm H locs ls hw (lv_sub hl [0, 1, 2, 3] rfl)
    · have hf := if_f hf hc
      refine lv_aload_n (pc := 10) C0.1 C0.2.1 dX7_rests_10 rfl (lv_at hl 2 rfl) ?_
      refine lv_iload_n (pc := 11) C0.1 C0.2.1 dX7_rests_11 rfl (lv_at hl 3 rfl) ?_
      refine lv_bipush (v := 9) (pc := 12) C0.1 C0.2.1 dX7_rests_12 (by decide) ?_
      obtain ⟨q2, hq2, hf⟩ := bd_e hf
      refine x_backp (pc := 14) hw (x_runV (pc := 14) (As := [.int v1, .int 9]) (rest := []) C0 hK hw hl.1 ⟨Nat.zero_le _, Nat.zero_le _⟩ (kX7_of l D y ad hI v1 9 u hq2) (by decide) ly_m0 rfl rfl wc_X7_of wm_X7_47 wi_X7_of ws_X7_of wn_X7 ⟨rfl, rfl⟩ hd_X7_of rfl ⟨Nat.le_of_ble_eq_true rfl, Nat.le_of_ble_eq_true rfl⟩ (Nat.le_of_ble_eq_true rfl) dX7_rests_14) (fun H locs hw => ?_)
      refine lv_if_ne (tgt := 24) (pc := 17) C0.1 C0.2.1 dX7_rests_17 (by decide) (fun hc => ?_) (fun hc => ?_)
      · have hf := if_f hf hc
        refine lv_iconst (v := 0) (pc := 24) C0.1 C0.2.1 dX7_rests_24 (by decide) ?_
        refine lv_istore (pc := 25) (lv' := [(4, .int 0), (3, .int a1.2), (2, .int a1.1), (0, .ref (ad 0)), (1, .int v1)]) C0.1 C0.2.1 dX7_rests_25 hl (by decide) rfl (fun ls hl => ?_)
        refine lv_iconst (v := 0) (pc := 27) C0.1 C0.2.1 dX7_rests_27 (by decide) ?_
        refine lv_istore (pc := 28) (lv' := [(5, .int 0), (4, .int 0), (3, .int a1.2), (2, .int a1.1), (0, .ref (ad 0)), (1, .int v1)]) C0.1 C0.2.1 dX7_rests_28 hl (by decide) rfl (fun ls hl => ?_)
        obtain ⟨e3, he3, hf⟩ := bd_e hf
        refine X_loop (pc := 30) (xpc := 105) (fu := fun a2 => u) (fl := fun a2 => [(5, .int a2.2), (4, .int a2.1), (3, .int a1.2), (2, .int a1.1), (0, .ref (ad 0)), (1, .int v1)]) (fun a2 r hf hE hG H locs ls hw hl => ?_) he3 (fun H locs ls hw hl => ?_) hw hl
        · unfold gX7_rests_30 at hf
          refine lv_iload (pc := 30) C0.1 C0.2.1 dX7_rests_30 (lv_at hl 0 rfl) ?_
          refine lv_aload_n (pc := 32) C0.1 C0.2.1 dX7_rests_32 rfl (lv_at hl 4 rfl) ?_
          obtain ⟨q4, hq4, hf⟩ := bd_e hf
          refine x_backp (pc := 33) hw (x_runV (pc := 33) (As := []) (rest := [.int a2.2]) C0 hK hw hl.1 ⟨Nat.zero_le _, Nat.zero_le _⟩ (kX7_trays l D y ad hI  u hq4) (by decide) ly_m0 rfl rfl wc_X7_trays wm_X7_39 wi_X7_trays ws_X7_trays wn_X7 ⟨rfl, rfl⟩ hd_X7_trays rfl ⟨Nat.le_of_ble_eq_true rfl, Nat.le_of_ble_eq_true rfl⟩ (Nat.le_of_ble_eq_true rfl) dX7_rests_33) (fun H locs hw => ?_)
          refine lv_icmp_ge (tgt := 105) (pc := 36) C0.1 C0.2.1 dX7_rests_36 (by decide) (fun hc => ?_) (fun hc => ?_)
          · have hf := if_t hf hc
            exact hE _ (Option.some.inj hf).symm H locs ls hw (lv_sub hl [0, 1, 2, 3, 4, 5] rfl)
          · have hf := if_f hf hc
            refine lv_iload (pc := 39) C0.1 C0.2.1 dX7_rests_39 (lv_at hl 1 rfl) ?_
            refine lv_if_ne (tgt := 92) (pc := 41) C0.1 C0.2.1 dX7_rests_41 (by decide) (fun hc => ?_) (fun hc => ?_)
            · have hf := if_f hf hc
              refine lv_iconst (v := 1) (pc := 92) C0.1 C0.2.1 dX7_rests_92 (by decide) ?_
              refine lv_goto (tgt := 97) (pc := 93) C0.1 C0.2.1 dX7_rests_93 (by decide) ?_
              refine lv_istore (pc := 97) (lv' := [(4, .int 1), (5, .int a2.2), (3, .int a1.2), (2, .int a1.1), (0, .ref (ad 0)), (1, .int v1)]) C0.1 C0.2.1 dX7_rests_97 hl (by decide) rfl (fun ls hl => ?_)
              refine lv_iinc (pc := 99) (v := a2.2 + 1) (lv' := [(5, .int (a2.2 + 1)), (4, .int 1), (3, .int a1.2), (2, .int a1.1), (0, .ref (ad 0)), (1, .int v1)]) C0.1 C0.2.1 dX7_rests_99 hl (k := 1) rfl rfl (by decide) rfl (fun ls hl => ?_)
              refine lv_goto (tgt := 30) (pc := 102) C0.1 C0.2.1 dX7_rests_102 (by decide) ?_
              exact hG _ (Option.some.inj hf).symm H locs ls hw (lv_sub hl [0, 1, 2, 3, 4, 5] rfl)
            · have hf := if_t hf hc
              refine lv_iload (pc := 44) C0.1 C0.2.1 dX7_rests_44 (lv_at hl 0 rfl) ?_
              refine lv_iload_n (pc := 46) C0.1 C0.2.1 dX7_rests_46 rfl (lv_at hl 5 rfl) ?_
              refine lv_icmp_eq (tgt := 96) (pc := 47) C0.1 C0.2.1 dX7_rests_47 (by decide) (fun hc => ?_) (fun hc => ?_)
              · have hf := if_t hf hc
                refine lv_iconst (v := 0) (pc := 96) C0.1 C0.2.1 dX7_rests_96 (by decide) ?_
                refine lv_istore (pc := 97) (lv' := [(4, .int 0), (5, .int a2.2), (3, .int a1.2), (2, .int a1.1), (0, .ref (ad 0)), (1, .int v1)]) C0.1 C0.2.1 dX7_rests_97 hl (by decide) rfl (fun ls hl => ?_)
                refine lv_iinc (pc := 99) (v := a2.2 + 1) (lv' := [(5, .int (a2.2 + 1)), (4, .int 0), (3, .int a1.2), (2, .int a1.1), (0, .ref (ad 0)), (1, .int v1)]) C0.1 C0.2.1 dX7_rests_99 hl (k := 1) rfl rfl (by decide) rfl (fun ls hl => ?_)
                refine lv_goto (tgt := 30) (pc := 102) C0.1 C0.2.1 dX7_rests_102 (by decide) ?_
                exact hG _ (Option.some.inj hf).symm H locs ls hw (lv_sub hl [0, 1, 2, 3, 4, 5] rfl)
              · have hf := if_f hf hc
                refine lv_aload_n (pc := 50) C0.1 C0.2.1 dX7_rests_50 rfl (lv_at hl 4 rfl) ?_
                refine lv_iload (pc := 51) C0.1 C0.2.1 dX7_rests_51 (lv_at hl 0 rfl) ?_
                obtain ⟨q5, hq5, hf⟩ := bd_e hf
                refine x_backp (pc := 53) hw (x_runV (pc := 53) (As := [.int a2.2]) (rest := []) C0 hK hw hl.1 ⟨Nat.zero_le _, Nat.zero_le _⟩ (kX7_isIn l D y ad hI a2.2 u hq5) (by decide) ly_m0 rfl rfl wc_X7_isIn wm_X7_71 wi_X7_isIn ws_X7_isIn wn_X7 ⟨rfl, rfl⟩ hd_X7_isIn rfl ⟨Nat.le_of_ble_eq_true rfl, Nat.le_of_ble_eq_true rfl⟩ (Nat.le_of_ble_eq_true rfl) dX7_rests_53) (fun H locs hw => ?_)
                refine lv_if_eq (tgt := 96) (pc := 56) C0.1 C0.2.1 dX7_rests_56 (by decide) (fun hc => ?_) (fun hc => ?_)
                · have hf := if_t hf hc
                  refine lv_iconst (v := 0) (pc := 96) C0.1 C0.2.1 dX7_rests_96 (by decide) ?_
                  refine lv_istore (pc := 97) (lv' := [(4, .int 0), (5, .int a2.2), (3, .int a1.2), (2, .int a1.1), (0, .ref (ad 0)), (1, .int v1)]) C0.1 C0.2.1 dX7_rests_97 hl (by decide) rfl (fun ls hl => ?_)
                  refine lv_iinc (pc := 99) (v := a2.2 + 1) (lv' := [(5, .int (a2.2 + 1)), (4, .int 0), (3, .int a1.2), (2, .int a1.1), (0, .ref (ad 0)), (1, .int v1)]) C0.1 C0.2.1 dX7_rests_99 hl (k := 1) rfl rfl (by decide) rfl (fun ls hl => ?_)
                  refine lv_goto (tgt := 30) (pc := 102) C0.1 C0.2.1 dX7_rests_102 (by decide) ?_
                  exact hG _ (Option.some.inj hf).symm H locs ls hw (lv_sub hl [0, 1, 2, 3, 4, 5] rfl)
                · have hf := if_f hf hc
                  refine lv_aload_n (pc := 59) C0.1 C0.2.1 dX7_rests_59 rfl (lv_at hl 4 rfl) ?_
                  refine lv_iload (pc := 60) C0.1 C0.2.1 dX7_rests_60 (lv_at hl 0 rfl) ?_
                  refine lv_iload_n (pc := 62) C0.1 C0.2.1 dX7_rests_62 rfl (lv_at hl 2 rfl) ?_
                  refine lv_bipush (v := 10) (pc := 63) C0.1 C0.2.1 dX7_rests_63 (by decide) ?_
                  refine lv_idiv (pc := 65) C0.1 C0.2.1 dX7_rests_65 (by decide) ?_
                  refine lv_iload_n (pc := 66) C0.1 C0.2.1 dX7_rests_66 rfl (lv_at hl 2 rfl) ?_
                  refine lv_bipush (v := 10) (pc := 67) C0.1 C0.2.1 dX7_rests_67 (by decide) ?_
                  refine x_irem (pc := 69) C0.1 C0.2.1 dX7_rests_69 (by decide) ?_
                  obtain ⟨q6, hq6, hf⟩ := bd_e hf
                  refine x_backp (pc := 70) hw (x_runV (pc := 70) (As := [.int a2.2, .int (a1.2 / 10), .int (a1.2 % 10)]) (rest := []) C0 hK hw hl.1 ⟨Nat.zero_le _, Nat.zero_le _⟩ (kX7_covers l D y ad hI a2.2 (a1.2 / 10) (a1.2 % 10) u hq6) (by decide) ly_m0 rfl rfl wc_X7_covers wm_X7_75 wi_X7_covers ws_X7_covers wn_X7 ⟨rfl, rfl⟩ hd_X7_covers rfl ⟨Nat.le_of_ble_eq_true rfl, Nat.le_of_ble_eq_true rfl⟩ (Nat.le_of_ble_eq_true rfl) dX7_rests_70) (fun H locs hw => ?_)
                  refine lv_if_eq (tgt := 96) (pc := 73) C0.1 C0.2.1 dX7_rests_73 (by decide) (fun hc => ?_) (fun hc => ?_)
                  · have hf := if_t hf hc
                    refine lv_iconst (v := 0) (pc := 96) C0.1 C0.2.1 dX7_rests_96 (by decide) ?_
                    refine lv_istore (pc := 97) (lv' := [(4, .int 0), (5, .int a2.2), (3, .int a1.2), (2, .int a1.1), (0, .ref (ad 0)), (1, .int v1)]) C0.1 C0.2.1 dX7_rests_97 hl (by decide) rfl (fun ls hl => ?_)
                    refine lv_iinc (pc := 99) (v := a2.2 + 1) (lv' := [(5, .int (a2.2 + 1)), (4, .int 0), (3, .int a1.2), (2, .int a1.1), (0, .ref (ad 0)), (1, .int v1)]) C0.1 C0.2.1 dX7_rests_99 hl (k := 1) rfl rfl (by decide) rfl (fun ls hl => ?_)
                    refine lv_goto (tgt := 30) (pc := 102) C0.1 C0.2.1 dX7_rests_102 (by decide) ?_
                    exact hG _ (Option.some.inj hf).symm H locs ls hw (lv_sub hl [0, 1, 2, 3, 4, 5] rfl)
                  · have hf := if_f hf hc
                    refine lv_aload_n (pc := 76) C0.1 C0.2.1 dX7_rests_76 rfl (lv_at hl 4 rfl) ?_
                    refine lv_iload (pc := 77) C0.1 C0.2.1 dX7_rests_77 (lv_at hl 0 rfl) ?_
                    obtain ⟨q7, hq7, hf⟩ := bd_e hf
                    refine x_backp (pc := 79) hw (x_runV (pc := 79) (As := [.int a2.2]) (rest := []) C0 hK hw hl.1 ⟨Nat.zero_le _, Nat.zero_le _⟩ (kX7_top l D y ad hI a2.2 u hq7) (by decide) ly_m0 rfl rfl wc_X7_top wm_X7_78 wi_X7_top ws_X7_top wn_X7 ⟨rfl, rfl⟩ hd_X7_top rfl ⟨Nat.le_of_ble_eq_true rfl, Nat.le_of_ble_eq_true rfl⟩ (Nat.le_of_ble_eq_true rfl) dX7_rests_79) (fun H locs hw => ?_)
                    refine lv_aload_n (pc := 82) C0.1 C0.2.1 dX7_rests_82 rfl (lv_at hl 4 rfl) ?_
                    refine lv_iload_n (pc := 83) C0.1 C0.2.1 dX7_rests_83 rfl (lv_at hl 5 rfl) ?_
                    refine lv_bipush (v := 9) (pc := 84) C0.1 C0.2.1 dX7_rests_84 (by decide) ?_
                    obtain ⟨q8, hq8, hf⟩ := bd_e hf
                    refine x_backp (pc := 86) hw (x_runV (pc := 86) (As := [.int v1, .int 9]) (rest := [.int q7]) C0 hK hw hl.1 ⟨Nat.zero_le _, Nat.zero_le _⟩ (kX7_of l D y ad hI v1 9 u hq8) (by decide) ly_m0 rfl rfl wc_X7_of wm_X7_47 wi_X7_of ws_X7_of wn_X7 ⟨rfl, rfl⟩ hd_X7_of rfl ⟨Nat.le_of_ble_eq_true rfl, Nat.le_of_ble_eq_true rfl⟩ (Nat.le_of_ble_eq_true rfl) dX7_rests_86) (fun H locs hw => ?_)
                    refine lv_icmp_ne (tgt := 96) (pc := 89) C0.1 C0.2.1 dX7_rests_89 (by decide) (fun hc => ?_) (fun hc => ?_)
                    · have hf := if_f hf hc
                      refine lv_iconst (v := 0) (pc := 96) C0.1 C0.2.1 dX7_rests_96 (by decide) ?_
                      refine lv_istore (pc := 97) (lv' := [(4, .int 0), (5, .int a2.2), (3, .int a1.2), (2, .int a1.1), (0, .ref (ad 0)), (1, .int v1)]) C0.1 C0.2.1 dX7_rests_97 hl (by decide) rfl (fun ls hl => ?_)
                      refine lv_iinc (pc := 99) (v := a2.2 + 1) (lv' := [(5, .int (a2.2 + 1)), (4, .int 0), (3, .int a1.2), (2, .int a1.1), (0, .ref (ad 0)), (1, .int v1)]) C0.1 C0.2.1 dX7_rests_99 hl (k := 1) rfl rfl (by decide) rfl (fun ls hl => ?_)
                      refine lv_goto (tgt := 30) (pc := 102) C0.1 C0.2.1 dX7_rests_102 (by decide) ?_
                      exact hG _ (Option.some.inj hf).symm H locs ls hw (lv_sub hl [0, 1, 2, 3, 4, 5] rfl)
                    · have hf := if_t hf hc
                      refine lv_iconst (v := 1) (pc := 92) C0.1 C0.2.1 dX7_rests_92 (by decide) ?_
                      refine lv_goto (tgt := 97) (pc := 93) C0.1 C0.2.1 dX7_rests_93 (by decide) ?_
                      refine lv_istore (pc := 97) (lv' := [(4, .int 1), (5, .int a2.2), (3, .int a1.2), (2, .int a1.1), (0, .ref (ad 0)), (1, .int v1)]) C0.1 C0.2.1 dX7_rests_97 hl (by decide) rfl (fun ls hl => ?_)
                      refine lv_iinc (pc := 99) (v := a2.2 + 1) (lv' := [(5, .int (a2.2 + 1)), (4, .int 1), (3, .int a1.2), (2, .int a1.1), (0, .ref (ad 0)), (1, .int v1)]) C0.1 C0.2.1 dX7_rests_99 hl (k := 1) rfl rfl (by decide) rfl (fun ls hl => ?_)
                      refine lv_goto (tgt := 30) (pc := 102) C0.1 C0.2.1 dX7_rests_102 (by decide) ?_
                      exact hG _ (Option.some.inj hf).symm H locs ls hw (lv_sub hl [0, 1, 2, 3, 4, 5] rfl)
        · skip
          refine lv_iload_n (pc := 105) C0.1 C0.2.1 dX7_rests_105 rfl (lv_at hl 3 rfl) ?_
          refine lv_iload (pc := 106) C0.1 C0.2.1 dX7_rests_106 (lv_at hl 1 rfl) ?_
          refine lv_if_eq (tgt := 131) (pc := 108) C0.1 C0.2.1 dX7_rests_108 (by decide) (fun hc => ?_) (fun hc => ?_)
          · have hf := if_t hf hc
            refine lv_iconst (v := 0) (pc := 131) C0.1 C0.2.1 dX7_rests_131 (by decide) ?_
            refine lv_iadd (pc := 132) C0.1 C0.2.1 dX7_rests_132 ?_
            refine lv_istore_n (pc := 133) (lv' := [(2, .int (a1.1 + 0)), (5, .int e3.2), (4, .int e3.1), (3, .int a1.2), (0, .ref (ad 0)), (1, .int v1)]) C0.1 C0.2.1 dX7_rests_133 rfl hl (by decide) rfl (fun ls hl => ?_)
            refine lv_iinc (pc := 134) (v := a1.2 + 1) (lv' := [(3, .int (a1.2 + 1)), (2, .int (a1.1 + 0)), (5, .int e3.2), (4, .int e3.1), (0, .ref (ad 0)), (1, .int v1)]) C0.1 C0.2.1 dX7_rests_134 hl (k := 3) rfl rfl (by decide) rfl (fun ls hl => ?_)
            refine lv_goto (tgt := 4) (pc := 137) C0.1 C0.2.1 dX7_rests_137 (by decide) ?_
            exact hG _ (Option.some.inj hf).symm H locs ls hw (lv_sub hl [0, 1, 4, 5] rfl)
          · have hf := if_f hf hc
            refine lv_aload_n (pc := 111) C0.1 C0.2.1 dX7_rests_111 rfl (lv_at hl 4 rfl) ?_
            refine lv_iload_n (pc := 112) C0.1 C0.2.1 dX7_rests_112 rfl (lv_at hl 5 rfl) ?_
            refine lv_iload_n (pc := 113) C0.1 C0.2.1 dX7_rests_113 rfl (lv_at hl 2 rfl) ?_
            refine lv_bipush (v := 10) (pc := 114) C0.1 C0.2.1 dX7_rests_114 (by decide) ?_
            refine lv_idiv (pc := 116) C0.1 C0.2.1 dX7_rests_116 (by decide) ?_
            refine lv_iload_n (pc := 117) C0.1 C0.2.1 dX7_rests_117 rfl (lv_at hl 2 rfl) ?_
            refine lv_bipush (v := 10) (pc := 118) C0.1 C0.2.1 dX7_rests_118 (by decide) ?_
            refine x_irem (pc := 120) C0.1 C0.2.1 dX7_rests_120 (by decide) ?_
            obtain ⟨q9, hq9, hf⟩ := bd_e hf
            refine x_backp (pc := 121) hw (x_runV (pc := 121) (As := [.int v1, .int (a1.2 / 10), .int (a1.2 % 10)]) (rest := [.int a1.1]) C0 hK hw hl.1 ⟨Nat.zero_le _, Nat.zero_le _⟩ (kX7_covers l D y ad hI v1 (a1.2 / 10) (a1.2 % 10) u hq9) (by decide) ly_m0 rfl rfl wc_X7_covers wm_X7_75 wi_X7_covers ws_X7_covers wn_X7 ⟨rfl, rfl⟩ hd_X7_covers rfl ⟨Nat.le_of_ble_eq_true rfl, Nat.le_of_ble_eq_true rfl⟩ (Nat.le_of_ble_eq_true rfl) dX7_rests_121) (fun H locs hw => ?_)
            refine lv_if_eq (tgt := 131) (pc := 124) C0.1 C0.2.1 dX7_rests_124 (by decide) (fun hc => ?_) (fun hc => ?_)
            · have hf := if_t hf hc
              refine lv_iconst (v := 0) (pc := 131) C0.1 C0.2.1 dX7_rests_131 (by decide) ?_
              refine lv_iadd (pc := 132) C0.1 C0.2.1 dX7_rests_132 ?_
              refine lv_istore_n (pc := 133) (lv' := [(2, .int (a1.1 + 0)), (5, .int e3.2), (4, .int e3.1), (3, .int a1.2), (0, .ref (ad 0)), (1, .int v1)]) C0.1 C0.2.1 dX7_rests_133 rfl hl (by decide) rfl (fun ls hl => ?_)
              refine lv_iinc (pc := 134) (v := a1.2 + 1) (lv' := [(3, .int (a1.2 + 1)), (2, .int (a1.1 + 0)), (5, .int e3.2), (4, .int e3.1), (0, .ref (ad 0)), (1, .int v1)]) C0.1 C0.2.1 dX7_rests_134 hl (k := 3) rfl rfl (by decide) rfl (fun ls hl => ?_)
              refine lv_goto (tgt := 4) (pc := 137) C0.1 C0.2.1 dX7_rests_137 (by decide) ?_
              exact hG _ (Option.some.inj hf).symm H locs ls hw (lv_sub hl [0, 1, 4, 5] rfl)
            · have hf := if_f hf hc
              refine lv_iconst (v := 1) (pc := 127) C0.1 C0.2.1 dX7_rests_127 (by decide) ?_
              refine lv_goto (tgt := 132) (pc := 128) C0.1 C0.2.1 dX7_rests_128 (by decide) ?_
              refine lv_iadd (pc := 132) C0.1 C0.2.1 dX7_rests_132 ?_
              refine lv_istore_n (pc := 133) (lv' := [(2, .int (a1.1 + 1)), (5, .int e3.2), (4, .int e3.1), (3, .int a1.2), (0, .ref (ad 0)), (1, .int v1)]) C0.1 C0.2.1 dX7_rests_133 rfl hl (by decide) rfl (fun ls hl => ?_)
              refine lv_iinc (pc := 134) (v := a1.2 + 1) (lv' := [(3, .int (a1.2 + 1)), (2, .int (a1.1 + 1)), (5, .int e3.2), (4, .int e3.1), (0, .ref (ad 0)), (1, .int v1)]) C0.1 C0.2.1 dX7_rests_134 hl (k := 3) rfl rfl (by decide) rfl (fun ls hl => ?_)
              refine lv_goto (tgt := 4) (pc := 137) C0.1 C0.2.1 dX7_rests_137 (by decide) ?_
              exact hG _ (Option.some.inj hf).symm H locs ls hw (lv_sub hl [0, 1, 4, 5] rfl)
      · have hf := if_t hf hc
        refine lv_iconst (v := 1) (pc := 20) C0.1 C0.2.1 dX7_rests_20 (by decide) ?_
        refine lv_goto (tgt := 25) (pc := 21) C0.1 C0.2.1 dX7_rests_21 (by decide) ?_
        refine lv_istore (pc := 25) (lv' := [(4, .int 1), (3, .int a1.2), (2, .int a1.1), (0, .ref (ad 0)), (1, .int v1)]) C0.1 C0.2.1 dX7_rests_25 hl (by decide) rfl (fun ls hl => ?_)
        refine lv_iconst (v := 0) (pc := 27) C0.1 C0.2.1 dX7_rests_27 (by decide) ?_
        refine lv_istore (pc := 28) (lv' := [(5, .int 0), (4, .int 1), (3, .int a1.2), (2, .int a1.1), (0, .ref (ad 0)), (1, .int v1)]) C0.1 C0.2.1 dX7_rests_28 hl (by decide) rfl (fun ls hl => ?_)
        obtain ⟨e10, he10, hf⟩ := bd_e hf
        refine X_loop (pc := 30) (xpc := 105) (fu := fun a2 => u) (fl := fun a2 => [(5, .int a2.2), (4, .int a2.1), (3, .int a1.2), (2, .int a1.1), (0, .ref (ad 0)), (1, .int v1)]) (fun a2 r hf hE hG H locs ls hw hl => ?_) he10 (fun H locs ls hw hl => ?_) hw hl
        · unfold gX7_rests_30 at hf
          refine lv_iload (pc := 30) C0.1 C0.2.1 dX7_rests_30 (lv_at hl 0 rfl) ?_
          refine lv_aload_n (pc := 32) C0.1 C0.2.1 dX7_rests_32 rfl (lv_at hl 4 rfl) ?_
          obtain ⟨q11, hq11, hf⟩ := bd_e hf
          refine x_backp (pc := 33) hw (x_runV (pc := 33) (As := []) (rest := [.int a2.2]) C0 hK hw hl.1 ⟨Nat.zero_le _, Nat.zero_le _⟩ (kX7_trays l D y ad hI  u hq11) (by decide) ly_m0 rfl rfl wc_X7_trays wm_X7_39 wi_X7_trays ws_X7_trays wn_X7 ⟨rfl, rfl⟩ hd_X7_trays rfl ⟨Nat.le_of_ble_eq_true rfl, Nat.le_of_ble_eq_true rfl⟩ (Nat.le_of_ble_eq_true rfl) dX7_rests_33) (fun H locs hw => ?_)
          refine lv_icmp_ge (tgt := 105) (pc := 36) C0.1 C0.2.1 dX7_rests_36 (by decide) (fun hc => ?_) (fun hc => ?_)
          · have hf := if_t hf hc
            exact hE _ (Option.some.inj hf).symm H locs ls hw (lv_sub hl [0, 1, 2, 3, 4, 5] rfl)
          · have hf := if_f hf hc
            refine lv_iload (pc := 39) C0.1 C0.2.1 dX7_rests_39 (lv_at hl 1 rfl) ?_
            refine lv_if_ne (tgt := 92) (pc := 41) C0.1 C0.2.1 dX7_rests_41 (by decide) (fun hc => ?_) (fun hc => ?_)
            · have hf := if_f hf hc
              refine lv_iconst (v := 1) (pc := 92) C0.1 C0.2.1 dX7_rests_92 (by decide) ?_
              refine lv_goto (tgt := 97) (pc := 93) C0.1 C0.2.1 dX7_rests_93 (by decide) ?_
              refine lv_istore (pc := 97) (lv' := [(4, .int 1), (5, .int a2.2), (3, .int a1.2), (2, .int a1.1), (0, .ref (ad 0)), (1, .int v1)]) C0.1 C0.2.1 dX7_rests_97 hl (by decide) rfl (fun ls hl => ?_)
              refine lv_iinc (pc := 99) (v := a2.2 + 1) (lv' := [(5, .int (a2.2 + 1)), (4, .int 1), (3, .int a1.2), (2, .int a1.1), (0, .ref (ad 0)), (1, .int v1)]) C0.1 C0.2.1 dX7_rests_99 hl (k := 1) rfl rfl (by decide) rfl (fun ls hl => ?_)
              refine lv_goto (tgt := 30) (pc := 102) C0.1 C0.2.1 dX7_rests_102 (by decide) ?_
              exact hG _ (Option.some.inj hf).symm H locs ls hw (lv_sub hl [0, 1, 2, 3, 4, 5] rfl)
            · have hf := if_t hf hc
              refine lv_iload (pc := 44) C0.1 C0.2.1 dX7_rests_44 (lv_at hl 0 rfl) ?_
              refine lv_iload_n (pc := 46) C0.1 C0.2.1 dX7_rests_46 rfl (lv_at hl 5 rfl) ?_
              refine lv_icmp_eq (tgt := 96) (pc := 47) C0.1 C0.2.1 dX7_rests_47 (by decide) (fun hc => ?_) (fun hc => ?_)
              · have hf := if_t hf hc
                refine lv_iconst (v := 0) (pc := 96) C0.1 C0.2.1 dX7_rests_96 (by decide) ?_
                refine lv_istore (pc := 97) (lv' := [(4, .int 0), (5, .int a2.2), (3, .int a1.2), (2, .int a1.1), (0, .ref (ad 0)), (1, .int v1)]) C0.1 C0.2.1 dX7_rests_97 hl (by decide) rfl (fun ls hl => ?_)
                refine lv_iinc (pc := 99) (v := a2.2 + 1) (lv' := [(5, .int (a2.2 + 1)), (4, .int 0), (3, .int a1.2), (2, .int a1.1), (0, .ref (ad 0)), (1, .int v1)]) C0.1 C0.2.1 dX7_rests_99 hl (k := 1) rfl rfl (by decide) rfl (fun ls hl => ?_)
                refine lv_goto (tgt := 30) (pc := 102) C0.1 C0.2.1 dX7_rests_102 (by decide) ?_
                exact hG _ (Option.some.inj hf).symm H locs ls hw (lv_sub hl [0, 1, 2, 3, 4, 5] rfl)
              · have hf := if_f hf hc
                refine lv_aload_n (pc := 50) C0.1 C0.2.1 dX7_rests_50 rfl (lv_at hl 4 rfl) ?_
                refine lv_iload (pc := 51) C0.1 C0.2.1 dX7_rests_51 (lv_at hl 0 rfl) ?_
                obtain ⟨q12, hq12, hf⟩ := bd_e hf
                refine x_backp (pc := 53) hw (x_runV (pc := 53) (As := [.int a2.2]) (rest := []) C0 hK hw hl.1 ⟨Nat.zero_le _, Nat.zero_le _⟩ (kX7_isIn l D y ad hI a2.2 u hq12) (by decide) ly_m0 rfl rfl wc_X7_isIn wm_X7_71 wi_X7_isIn ws_X7_isIn wn_X7 ⟨rfl, rfl⟩ hd_X7_isIn rfl ⟨Nat.le_of_ble_eq_true rfl, Nat.le_of_ble_eq_true rfl⟩ (Nat.le_of_ble_eq_true rfl) dX7_rests_53) (fun H locs hw => ?_)
                refine lv_if_eq (tgt := 96) (pc := 56) C0.1 C0.2.1 dX7_rests_56 (by decide) (fun hc => ?_) (fun hc => ?_)
                · have hf := if_t hf hc
                  refine lv_iconst (v := 0) (pc := 96) C0.1 C0.2.1 dX7_rests_96 (by decide) ?_
                  refine lv_istore (pc := 97) (lv' := [(4, .int 0), (5, .int a2.2), (3, .int a1.2), (2, .int a1.1), (0, .ref (ad 0)), (1, .int v1)]) C0.1 C0.2.1 dX7_rests_97 hl (by decide) rfl (fun ls hl => ?_)
                  refine lv_iinc (pc := 99) (v := a2.2 + 1) (lv' := [(5, .int (a2.2 + 1)), (4, .int 0), (3, .int a1.2), (2, .int a1.1), (0, .ref (ad 0)), (1, .int v1)]) C0.1 C0.2.1 dX7_rests_99 hl (k := 1) rfl rfl (by decide) rfl (fun ls hl => ?_)
                  refine lv_goto (tgt := 30) (pc := 102) C0.1 C0.2.1 dX7_rests_102 (by decide) ?_
                  exact hG _ (Option.some.inj hf).symm H locs ls hw (lv_sub hl [0, 1, 2, 3, 4, 5] rfl)
                · have hf := if_f hf hc
                  refine lv_aload_n (pc := 59) C0.1 C0.2.1 dX7_rests_59 rfl (lv_at hl 4 rfl) ?_
                  refine lv_iload (pc := 60) C0.1 C0.2.1 dX7_rests_60 (lv_at hl 0 rfl) ?_
                  refine lv_iload_n (pc := 62) C0.1 C0.2.1 dX7_rests_62 rfl (lv_at hl 2 rfl) ?_
                  refine lv_bipush (v := 10) (pc := 63) C0.1 C0.2.1 dX7_rests_63 (by decide) ?_
                  refine lv_idiv (pc := 65) C0.1 C0.2.1 dX7_rests_65 (by decide) ?_
                  refine lv_iload_n (pc := 66) C0.1 C0.2.1 dX7_rests_66 rfl (lv_at hl 2 rfl) ?_
                  refine lv_bipush (v := 10) (pc := 67) C0.1 C0.2.1 dX7_rests_67 (by decide) ?_
                  refine x_irem (pc := 69) C0.1 C0.2.1 dX7_rests_69 (by decide) ?_
                  obtain ⟨q13, hq13, hf⟩ := bd_e hf
                  refine x_backp (pc := 70) hw (x_runV (pc := 70) (As := [.int a2.2, .int (a1.2 / 10), .int (a1.2 % 10)]) (rest := []) C0 hK hw hl.1 ⟨Nat.zero_le _, Nat.zero_le _⟩ (kX7_covers l D y ad hI a2.2 (a1.2 / 10) (a1.2 % 10) u hq13) (by decide) ly_m0 rfl rfl wc_X7_covers wm_X7_75 wi_X7_covers ws_X7_covers wn_X7 ⟨rfl, rfl⟩ hd_X7_covers rfl ⟨Nat.le_of_ble_eq_true rfl, Nat.le_of_ble_eq_true rfl⟩ (Nat.le_of_ble_eq_true rfl) dX7_rests_70) (fun H locs hw => ?_)
                  refine lv_if_eq (tgt := 96) (pc := 73) C0.1 C0.2.1 dX7_rests_73 (by decide) (fun hc => ?_) (fun hc => ?_)
                  · have hf := if_t hf hc
                    refine lv_iconst (v := 0) (pc := 96) C0.1 C0.2.1 dX7_rests_96 (by decide) ?_
                    refine lv_istore (pc := 97) (lv' := [(4, .int 0), (5, .int a2.2), (3, .int a1.2), (2, .int a1.1), (0, .ref (ad 0)), (1, .int v1)]) C0.1 C0.2.1 dX7_rests_97 hl (by decide) rfl (fun ls hl => ?_)
                    refine lv_iinc (pc := 99) (v := a2.2 + 1) (lv' := [(5, .int (a2.2 + 1)), (4, .int 0), (3, .int a1.2), (2, .int a1.1), (0, .ref (ad 0)), (1, .int v1)]) C0.1 C0.2.1 dX7_rests_99 hl (k := 1) rfl rfl (by decide) rfl (fun ls hl => ?_)
                    refine lv_goto (tgt := 30) (pc := 102) C0.1 C0.2.1 dX7_rests_102 (by decide) ?_
                    exact hG _ (Option.some.inj hf).symm H locs ls hw (lv_sub hl [0, 1, 2, 3, 4, 5] rfl)
                  · have hf := if_f hf hc
                    refine lv_aload_n (pc := 76) C0.1 C0.2.1 dX7_rests_76 rfl (lv_at hl 4 rfl) ?_
                    refine lv_iload (pc := 77) C0.1 C0.2.1 dX7_rests_77 (lv_at hl 0 rfl) ?_
                    obtain ⟨q14, hq14, hf⟩ := bd_e hf
                    refine x_backp (pc := 79) hw (x_runV (pc := 79) (As := [.int a2.2]) (rest := []) C0 hK hw hl.1 ⟨Nat.zero_le _, Nat.zero_le _⟩ (kX7_top l D y ad hI a2.2 u hq14) (by decide) ly_m0 rfl rfl wc_X7_top wm_X7_78 wi_X7_top ws_X7_top wn_X7 ⟨rfl, rfl⟩ hd_X7_top rfl ⟨Nat.le_of_ble_eq_true rfl, Nat.le_of_ble_eq_true rfl⟩ (Nat.le_of_ble_eq_true rfl) dX7_rests_79) (fun H locs hw => ?_)
                    refine lv_aload_n (pc := 82) C0.1 C0.2.1 dX7_rests_82 rfl (lv_at hl 4 rfl) ?_
                    refine lv_iload_n (pc := 83) C0.1 C0.2.1 dX7_rests_83 rfl (lv_at hl 5 rfl) ?_
                    refine lv_bipush (v := 9) (pc := 84) C0.1 C0.2.1 dX7_rests_84 (by decide) ?_
                    obtain ⟨q15, hq15, hf⟩ := bd_e hf
                    refine x_backp (pc := 86) hw (x_runV (pc := 86) (As := [.int v1, .int 9]) (rest := [.int q14]) C0 hK hw hl.1 ⟨Nat.zero_le _, Nat.zero_le _⟩ (kX7_of l D y ad hI v1 9 u hq15) (by decide) ly_m0 rfl rfl wc_X7_of wm_X7_47 wi_X7_of ws_X7_of wn_X7 ⟨rfl, rfl⟩ hd_X7_of rfl ⟨Nat.le_of_ble_eq_true rfl, Nat.le_of_ble_eq_true rfl⟩ (Nat.le_of_ble_eq_true rfl) dX7_rests_86) (fun H locs hw => ?_)
                    refine lv_icmp_ne (tgt := 96) (pc := 89) C0.1 C0.2.1 dX7_rests_89 (by decide) (fun hc => ?_) (fun hc => ?_)
                    · have hf := if_f hf hc
                      refine lv_iconst (v := 0) (pc := 96) C0.1 C0.2.1 dX7_rests_96 (by decide) ?_
                      refine lv_istore (pc := 97) (lv' := [(4, .int 0), (5, .int a2.2), (3, .int a1.2), (2, .int a1.1), (0, .ref (ad 0)), (1, .int v1)]) C0.1 C0.2.1 dX7_rests_97 hl (by decide) rfl (fun ls hl => ?_)
                      refine lv_iinc (pc := 99) (v := a2.2 + 1) (lv' := [(5, .int (a2.2 + 1)), (4, .int 0), (3, .int a1.2), (2, .int a1.1), (0, .ref (ad 0)), (1, .int v1)]) C0.1 C0.2.1 dX7_rests_99 hl (k := 1) rfl rfl (by decide) rfl (fun ls hl => ?_)
                      refine lv_goto (tgt := 30) (pc := 102) C0.1 C0.2.1 dX7_rests_102 (by decide) ?_
                      exact hG _ (Option.some.inj hf).symm H locs ls hw (lv_sub hl [0, 1, 2, 3, 4, 5] rfl)
                    · have hf := if_t hf hc
                      refine lv_iconst (v := 1) (pc := 92) C0.1 C0.2.1 dX7_rests_92 (by decide) ?_
                      refine lv_goto (tgt := 97) (pc := 93) C0.1 C0.2.1 dX7_rests_93 (by decide) ?_
                      refine lv_istore (pc := 97) (lv' := [(4, .int 1), (5, .int a2.2), (3, .int a1.2), (2, .int a1.1), (0, .ref (ad 0)), (1, .int v1)]) C0.1 C0.2.1 dX7_rests_97 hl (by decide) rfl (fun ls hl => ?_)
                      refine lv_iinc (pc := 99) (v := a2.2 + 1) (lv' := [(5, .int (a2.2 + 1)), (4, .int 1), (3, .int a1.2), (2, .int a1.1), (0, .ref (ad 0)), (1, .int v1)]) C0.1 C0.2.1 dX7_rests_99 hl (k := 1) rfl rfl (by decide) rfl (fun ls hl => ?_)
                      refine lv_goto (tgt := 30) (pc := 102) C0.1 C0.2.1 dX7_rests_102 (by decide) ?_
                      exact hG _ (Option.some.inj hf).symm H locs ls hw (lv_sub hl [0, 1, 2, 3, 4, 5] rfl)
        · skip
          refine lv_iload_n (pc := 105) C0.1 C0.2.1 dX7_rests_105 rfl (lv_at hl 3 rfl) ?_
          refine lv_iload (pc := 106) C0.1 C0.2.1 dX7_rests_106 (lv_at hl 1 rfl) ?_
          refine lv_if_eq (tgt := 131) (pc := 108) C0.1 C0.2.1 dX7_rests_108 (by decide) (fun hc => ?_) (fun hc => ?_)
          · have hf := if_t hf hc
            refine lv_iconst (v := 0) (pc := 131) C0.1 C0.2.1 dX7_rests_131 (by decide) ?_
            refine lv_iadd (pc := 132) C0.1 C0.2.1 dX7_rests_132 ?_
            refine lv_istore_n (pc := 133) (lv' := [(2, .int (a1.1 + 0)), (5, .int e10.2), (4, .int e10.1), (3, .int a1.2), (0, .ref (ad 0)), (1, .int v1)]) C0.1 C0.2.1 dX7_rests_133 rfl hl (by decide) rfl (fun ls hl => ?_)
            refine lv_iinc (pc := 134) (v := a1.2 + 1) (lv' := [(3, .int (a1.2 + 1)), (2, .int (a1.1 + 0)), (5, .int e10.2), (4, .int e10.1), (0, .ref (ad 0)), (1, .int v1)]) C0.1 C0.2.1 dX7_rests_134 hl (k := 3) rfl rfl (by decide) rfl (fun ls hl => ?_)
            refine lv_goto (tgt := 4) (pc := 137) C0.1 C0.2.1 dX7_rests_137 (by decide) ?_
            exact hG _ (Option.some.inj hf).symm H locs ls hw (lv_sub hl [0, 1, 4, 5] rfl)
          · have hf := if_f hf hc
            refine lv_aload_n (pc := 111) C0.1 C0.2.1 dX7_rests_111 rfl (lv_at hl 4 rfl) ?_
            refine lv_iload_n (pc := 112) C0.1 C0.2.1 dX7_rests_112 rfl (lv_at hl 5 rfl) ?_
            refine lv_iload_n (pc := 113) C0.1 C0.2.1 dX7_rests_113 rfl (lv_at hl 2 rfl) ?_
            refine lv_bipush (v := 10) (pc := 114) C0.1 C0.2.1 dX7_rests_114 (by decide) ?_
            refine lv_idiv (pc := 116) C0.1 C0.2.1 dX7_rests_116 (by decide) ?_
            refine lv_iload_n (pc := 117) C0.1 C0.2.1 dX7_rests_117 rfl (lv_at hl 2 rfl) ?_
            refine lv_bipush (v := 10) (pc := 118) C0.1 C0.2.1 dX7_rests_118 (by decide) ?_
            refine x_irem (pc := 120) C0.1 C0.2.1 dX7_rests_120 (by decide) ?_
            obtain ⟨q16, hq16, hf⟩ := bd_e hf
            refine x_backp (pc := 121) hw (x_runV (pc := 121) (As := [.int v1, .int (a1.2 / 10), .int (a1.2 % 10)]) (rest := [.int a1.1]) C0 hK hw hl.1 ⟨Nat.zero_le _, Nat.zero_le _⟩ (kX7_covers l D y ad hI v1 (a1.2 / 10) (a1.2 % 10) u hq16) (by decide) ly_m0 rfl rfl wc_X7_covers wm_X7_75 wi_X7_covers ws_X7_covers wn_X7 ⟨rfl, rfl⟩ hd_X7_covers rfl ⟨Nat.le_of_ble_eq_true rfl, Nat.le_of_ble_eq_true rfl⟩ (Nat.le_of_ble_eq_true rfl) dX7_rests_121) (fun H locs hw => ?_)
            refine lv_if_eq (tgt := 131) (pc := 124) C0.1 C0.2.1 dX7_rests_124 (by decide) (fun hc => ?_) (fun hc => ?_)
            · have hf := if_t hf hc
              refine lv_iconst (v := 0) (pc := 131) C0.1 C0.2.1 dX7_rests_131 (by decide) ?_
              refine lv_iadd (pc := 132) C0.1 C0.2.1 dX7_rests_132 ?_
              refine lv_istore_n (pc := 133) (lv' := [(2, .int (a1.1 + 0)), (5, .int e10.2), (4, .int e10.1), (3, .int a1.2), (0, .ref (ad 0)), (1, .int v1)]) C0.1 C0.2.1 dX7_rests_133 rfl hl (by decide) rfl (fun ls hl => ?_)
              refine lv_iinc (pc := 134) (v := a1.2 + 1) (lv' := [(3, .int (a1.2 + 1)), (2, .int (a1.1 + 0)), (5, .int e10.2), (4, .int e10.1), (0, .ref (ad 0)), (1, .int v1)]) C0.1 C0.2.1 dX7_rests_134 hl (k := 3) rfl rfl (by decide) rfl (fun ls hl => ?_)
              refine lv_goto (tgt := 4) (pc := 137) C0.1 C0.2.1 dX7_rests_137 (by decide) ?_
              exact hG _ (Option.some.inj hf).symm H locs ls hw (lv_sub hl [0, 1, 4, 5] rfl)
            · have hf := if_f hf hc
              refine lv_iconst (v := 1) (pc := 127) C0.1 C0.2.1 dX7_rests_127 (by decide) ?_
              refine lv_goto (tgt := 132) (pc := 128) C0.1 C0.2.1 dX7_rests_128 (by decide) ?_
              refine lv_iadd (pc := 132) C0.1 C0.2.1 dX7_rests_132 ?_
              refine lv_istore_n (pc := 133) (lv' := [(2, .int (a1.1 + 1)), (5, .int e10.2), (4, .int e10.1), (3, .int a1.2), (0, .ref (ad 0)), (1, .int v1)]) C0.1 C0.2.1 dX7_rests_133 rfl hl (by decide) rfl (fun ls hl => ?_)
              refine lv_iinc (pc := 134) (v := a1.2 + 1) (lv' := [(3, .int (a1.2 + 1)), (2, .int (a1.1 + 1)), (5, .int e10.2), (4, .int e10.1), (0, .ref (ad 0)), (1, .int v1)]) C0.1 C0.2.1 dX7_rests_134 hl (k := 3) rfl rfl (by decide) rfl (fun ls hl => ?_)
              refine lv_goto (tgt := 4) (pc := 137) C0.1 C0.2.1 dX7_rests_137 (by decide) ?_
              exact hG _ (Option.some.inj hf).symm H locs ls hw (lv_sub hl [0, 1, 4, 5] rfl)
  · skip
    refine lv_iload_n (pc := 140) C0.1 C0.2.1 dX7_rests_140 rfl (lv_at hl 1 rfl) ?_
    exact x_iret (pc := 141) C0 hK hk hr hw (congrArg (fun z => (z, u)) (Option.some.inj hf)) dX7_rests_141
def wX7_faults : List Cond := .code yX7_faults cX7_faults 3 (some .int) :: lwT
def rX7_faults : Room := { frames := 7, cells := 0, slots := 0, locals := 162 }
set_option maxRecDepth 100000 in
set_option maxHeartbeats 4000000 in
theorem kX7_faults (l : Launch) (D : va_G) (y : Nat → ClassId) (ad : Nat → Nat) (hI : XI ad 8)  (u : S) {o : Int32} (hf : fX7_faults  u = some o) : Met l yX7_faults wX7_faults rX7_faults (va_Pc [.ref (ad 0)] (XW D y ad LM 8 u)) (XQi D y ad LM 8 (o, u)) 0 0 (XA ad 8) := by
  refine x_met (bytes := cX7_faults) (maxL := 3) (ret := (some .int)) (own := RX7) (by decide) rfl rfl (Nat.le_of_ble_eq_true rfl) (fun p e s m below meth c ls C0 hK hk hr hw hl => ?_)
  have hl : lv_has ls 3 [(0, .ref (ad 0))] := hl
  unfold fX7_faults at hf
  refine lv_iconst (v := 0) (pc := 0) C0.1 C0.2.1 dX7_faults_0 (by decide) ?_
  refine lv_istore_n (pc := 1) (lv' := [(1, .int 0), (0, .ref (ad 0))]) C0.1 C0.2.1 dX7_faults_1 rfl hl (by decide) rfl (fun ls hl => ?_)
  refine lv_iconst (v := 0) (pc := 2) C0.1 C0.2.1 dX7_faults_2 (by decide) ?_
  refine lv_istore_n (pc := 3) (lv' := [(2, .int 0), (1, .int 0), (0, .ref (ad 0))]) C0.1 C0.2.1 dX7_faults_3 rfl hl (by decide) rfl (fun ls hl => ?_)
  obtain ⟨e1, he1, hf⟩ := bd_e hf
  refine X_loop (pc := 4) (xpc := 38) (fu := fun a1 => u) (fl := fun a1 => [(2, .int a1.2), (1, .int a1.1), (0, .ref (ad 0))]) (fun a1 r hf hE hG H locs ls hw hl => ?_) he1 (fun H locs ls hw hl => ?_) hw hl
  · unfold gX7_faults_4 at hf
    refine lv_iload_n (pc := 4) C0.1 C0.2.1 dX7_faults_4 rfl (lv_at hl 0 rfl) ?_
    refine lv_aload_n (pc := 5) C0.1 C0.2.1 dX7_faults_5 rfl (lv_at hl 2 rfl) ?_
    obtain ⟨q2, hq2, hf⟩ := bd_e hf
    refine x_backp (pc := 6) hw (x_runV (pc := 6) (As := []) (rest := [.int a1.2]) C0 hK hw hl.1 ⟨Nat.zero_le _, Nat.zero_le _⟩ (kX7_trays l D y ad hI  u hq2) (by decide) ly_m0 rfl rfl wc_X7_trays wm_X7_39 wi_X7_trays ws_X7_trays wn_X7 ⟨rfl, rfl⟩ hd_X7_trays rfl ⟨Nat.le_of_ble_eq_true rfl, Nat.le_of_ble_eq_true rfl⟩ (Nat.le_of_ble_eq_true rfl) dX7_faults_6) (fun H locs hw => ?_)
    refine lv_icmp_ge (tgt := 38) (pc := 9) C0.1 C0.2.1 dX7_faults_9 (by decide) (fun hc => ?_) (fun hc => ?_)
    · have hf := if_t hf hc
      exact hE _ (Option.some.inj hf).symm H locs ls hw (lv_sub hl [0, 1, 2] rfl)
    · have hf := if_f hf hc
      refine lv_iload_n (pc := 12) C0.1 C0.2.1 dX7_faults_12 rfl (lv_at hl 1 rfl) ?_
      refine lv_aload_n (pc := 13) C0.1 C0.2.1 dX7_faults_13 rfl (lv_at hl 2 rfl) ?_
      refine lv_iload_n (pc := 14) C0.1 C0.2.1 dX7_faults_14 rfl (lv_at hl 0 rfl) ?_
      obtain ⟨q3, hq3, hf⟩ := bd_e hf
      refine x_backp (pc := 15) hw (x_runV (pc := 15) (As := [.int a1.2]) (rest := [.int a1.1]) C0 hK hw hl.1 ⟨Nat.zero_le _, Nat.zero_le _⟩ (kX7_isIn l D y ad hI a1.2 u hq3) (by decide) ly_m0 rfl rfl wc_X7_isIn wm_X7_71 wi_X7_isIn ws_X7_isIn wn_X7 ⟨rfl, rfl⟩ hd_X7_isIn rfl ⟨Nat.le_of_ble_eq_true rfl, Nat.le_of_ble_eq_true rfl⟩ (Nat.le_of_ble_eq_true rfl) dX7_faults_15) (fun H locs hw => ?_)
      refine lv_if_eq (tgt := 29) (pc := 18) C0.1 C0.2.1 dX7_faults_18 (by decide) (fun hc => ?_) (fun hc => ?_)
      · have hf := if_t hf hc
        refine lv_iconst (v := 0) (pc := 29) C0.1 C0.2.1 dX7_faults_29 (by decide) ?_
        refine lv_iadd (pc := 30) C0.1 C0.2.1 dX7_faults_30 ?_
        refine lv_istore_n (pc := 31) (lv' := [(1, .int (a1.1 + 0)), (2, .int a1.2), (0, .ref (ad 0))]) C0.1 C0.2.1 dX7_faults_31 rfl hl (by decide) rfl (fun ls hl => ?_)
        refine lv_iinc (pc := 32) (v := a1.2 + 1) (lv' := [(2, .int (a1.2 + 1)), (1, .int (a1.1 + 0)), (0, .ref (ad 0))]) C0.1 C0.2.1 dX7_faults_32 hl (k := 1) rfl rfl (by decide) rfl (fun ls hl => ?_)
        refine lv_goto (tgt := 4) (pc := 35) C0.1 C0.2.1 dX7_faults_35 (by decide) ?_
        exact hG _ (Option.some.inj hf).symm H locs ls hw (lv_sub hl [0, 1, 2] rfl)
      · have hf := if_f hf hc
        refine lv_aload_n (pc := 21) C0.1 C0.2.1 dX7_faults_21 rfl (lv_at hl 2 rfl) ?_
        refine lv_iload_n (pc := 22) C0.1 C0.2.1 dX7_faults_22 rfl (lv_at hl 0 rfl) ?_
        obtain ⟨q4, hq4, hf⟩ := bd_e hf
        refine x_backp (pc := 23) hw (x_runV (pc := 23) (As := [.int a1.2]) (rest := [.int a1.1]) C0 hK hw hl.1 ⟨Nat.zero_le _, Nat.zero_le _⟩ (kX7_fault l D y ad hI a1.2 u hq4) (by decide) ly_m0 rfl rfl wc_X7_fault wm_X7_121 wi_X7_fault ws_X7_fault wn_X7 ⟨rfl, rfl⟩ hd_X7_fault rfl ⟨Nat.le_of_ble_eq_true rfl, Nat.le_of_ble_eq_true rfl⟩ (Nat.le_of_ble_eq_true rfl) dX7_faults_23) (fun H locs hw => ?_)
        refine lv_goto (tgt := 30) (pc := 26) C0.1 C0.2.1 dX7_faults_26 (by decide) ?_
        refine lv_iadd (pc := 30) C0.1 C0.2.1 dX7_faults_30 ?_
        refine lv_istore_n (pc := 31) (lv' := [(1, .int (a1.1 + q4)), (2, .int a1.2), (0, .ref (ad 0))]) C0.1 C0.2.1 dX7_faults_31 rfl hl (by decide) rfl (fun ls hl => ?_)
        refine lv_iinc (pc := 32) (v := a1.2 + 1) (lv' := [(2, .int (a1.2 + 1)), (1, .int (a1.1 + q4)), (0, .ref (ad 0))]) C0.1 C0.2.1 dX7_faults_32 hl (k := 1) rfl rfl (by decide) rfl (fun ls hl => ?_)
        refine lv_goto (tgt := 4) (pc := 35) C0.1 C0.2.1 dX7_faults_35 (by decide) ?_
        exact hG _ (Option.some.inj hf).symm H locs ls hw (lv_sub hl [0, 1, 2] rfl)
  · skip
    refine lv_iload_n (pc := 38) C0.1 C0.2.1 dX7_faults_38 rfl (lv_at hl 1 rfl) ?_
    exact x_iret (pc := 39) C0 hK hk hr hw (congrArg (fun z => (z, u)) (Option.some.inj hf)) dX7_faults_39
def wX7_lifts : List Cond := .code yX7_lifts cX7_lifts 3 (some .int) :: lwT
def rX7_lifts : Room := { frames := 7, cells := 0, slots := 0, locals := 161 }
set_option maxRecDepth 100000 in
set_option maxHeartbeats 4000000 in
theorem kX7_lifts (l : Launch) (D : va_G) (y : Nat → ClassId) (ad : Nat → Nat) (hI : XI ad 8)  (u : S) {o : Int32} (hf : fX7_lifts  u = some o) : Met l yX7_lifts wX7_lifts rX7_lifts (va_Pc [.ref (ad 0)] (XW D y ad LM 8 u)) (XQi D y ad LM 8 (o, u)) 0 0 (XA ad 8) := by
  refine x_met (bytes := cX7_lifts) (maxL := 3) (ret := (some .int)) (own := RX7) (by decide) rfl rfl (Nat.le_of_ble_eq_true rfl) (fun p e s m below meth c ls C0 hK hk hr hw hl => ?_)
  have hl : lv_has ls 3 [(0, .ref (ad 0))] := hl
  unfold fX7_lifts at hf
  refine lv_iconst (v := 0) (pc := 0) C0.1 C0.2.1 dX7_lifts_0 (by decide) ?_
  refine lv_istore_n (pc := 1) (lv' := [(1, .int 0), (0, .ref (ad 0))]) C0.1 C0.2.1 dX7_lifts_1 rfl hl (by decide) rfl (fun ls hl => ?_)
  refine lv_iconst (v := 0) (pc := 2) C0.1 C0.2.1 dX7_lifts_2 (by decide) ?_
  refine lv_istore_n (pc := 3) (lv' := [(2, .int 0), (1, .int 0), (0, .ref (ad 0))]) C0.1 C0.2.1 dX7_lifts_3 rfl hl (by decide) rfl (fun ls hl => ?_)
  obtain ⟨e1, he1, hf⟩ := bd_e hf
  refine X_loop (pc := 4) (xpc := 38) (fu := fun a1 => u) (fl := fun a1 => [(2, .int a1.2), (1, .int a1.1), (0, .ref (ad 0))]) (fun a1 r hf hE hG H locs ls hw hl => ?_) he1 (fun H locs ls hw hl => ?_) hw hl
  · unfold gX7_lifts_4 at hf
    refine lv_iload_n (pc := 4) C0.1 C0.2.1 dX7_lifts_4 rfl (lv_at hl 0 rfl) ?_
    refine lv_aload_n (pc := 5) C0.1 C0.2.1 dX7_lifts_5 rfl (lv_at hl 2 rfl) ?_
    obtain ⟨q2, hq2, hf⟩ := bd_e hf
    refine x_backp (pc := 6) hw (x_runV (pc := 6) (As := []) (rest := [.int a1.2]) C0 hK hw hl.1 ⟨Nat.zero_le _, Nat.zero_le _⟩ (kX7_trays l D y ad hI  u hq2) (by decide) ly_m0 rfl rfl wc_X7_trays wm_X7_39 wi_X7_trays ws_X7_trays wn_X7 ⟨rfl, rfl⟩ hd_X7_trays rfl ⟨Nat.le_of_ble_eq_true rfl, Nat.le_of_ble_eq_true rfl⟩ (Nat.le_of_ble_eq_true rfl) dX7_lifts_6) (fun H locs hw => ?_)
    refine lv_icmp_ge (tgt := 38) (pc := 9) C0.1 C0.2.1 dX7_lifts_9 (by decide) (fun hc => ?_) (fun hc => ?_)
    · have hf := if_t hf hc
      exact hE _ (Option.some.inj hf).symm H locs ls hw (lv_sub hl [0, 1, 2] rfl)
    · have hf := if_f hf hc
      refine lv_iload_n (pc := 12) C0.1 C0.2.1 dX7_lifts_12 rfl (lv_at hl 1 rfl) ?_
      refine lv_aload_n (pc := 13) C0.1 C0.2.1 dX7_lifts_13 rfl (lv_at hl 2 rfl) ?_
      refine lv_iload_n (pc := 14) C0.1 C0.2.1 dX7_lifts_14 rfl (lv_at hl 0 rfl) ?_
      obtain ⟨q3, hq3, hf⟩ := bd_e hf
      refine x_backp (pc := 15) hw (x_runV (pc := 15) (As := [.int a1.2]) (rest := [.int a1.1]) C0 hK hw hl.1 ⟨Nat.zero_le _, Nat.zero_le _⟩ (kX7_isIn l D y ad hI a1.2 u hq3) (by decide) ly_m0 rfl rfl wc_X7_isIn wm_X7_71 wi_X7_isIn ws_X7_isIn wn_X7 ⟨rfl, rfl⟩ hd_X7_isIn rfl ⟨Nat.le_of_ble_eq_true rfl, Nat.le_of_ble_eq_true rfl⟩ (Nat.le_of_ble_eq_true rfl) dX7_lifts_15) (fun H locs hw => ?_)
      refine lv_if_eq (tgt := 29) (pc := 18) C0.1 C0.2.1 dX7_lifts_18 (by decide) (fun hc => ?_) (fun hc => ?_)
      · have hf := if_t hf hc
        refine lv_iconst (v := 0) (pc := 29) C0.1 C0.2.1 dX7_lifts_29 (by decide) ?_
        refine lv_iadd (pc := 30) C0.1 C0.2.1 dX7_lifts_30 ?_
        refine lv_istore_n (pc := 31) (lv' := [(1, .int (a1.1 + 0)), (2, .int a1.2), (0, .ref (ad 0))]) C0.1 C0.2.1 dX7_lifts_31 rfl hl (by decide) rfl (fun ls hl => ?_)
        refine lv_iinc (pc := 32) (v := a1.2 + 1) (lv' := [(2, .int (a1.2 + 1)), (1, .int (a1.1 + 0)), (0, .ref (ad 0))]) C0.1 C0.2.1 dX7_lifts_32 hl (k := 1) rfl rfl (by decide) rfl (fun ls hl => ?_)
        refine lv_goto (tgt := 4) (pc := 35) C0.1 C0.2.1 dX7_lifts_35 (by decide) ?_
        exact hG _ (Option.some.inj hf).symm H locs ls hw (lv_sub hl [0, 1, 2] rfl)
      · have hf := if_f hf hc
        refine lv_aload_n (pc := 21) C0.1 C0.2.1 dX7_lifts_21 rfl (lv_at hl 2 rfl) ?_
        refine lv_iload_n (pc := 22) C0.1 C0.2.1 dX7_lifts_22 rfl (lv_at hl 0 rfl) ?_
        obtain ⟨q4, hq4, hf⟩ := bd_e hf
        refine x_backp (pc := 23) hw (x_runV (pc := 23) (As := [.int a1.2]) (rest := [.int a1.1]) C0 hK hw hl.1 ⟨Nat.zero_le _, Nat.zero_le _⟩ (kX7_lift l D y ad hI a1.2 u hq4) (by decide) ly_m0 rfl rfl wc_X7_lift wm_X7_124 wi_X7_lift ws_X7_lift wn_X7 ⟨rfl, rfl⟩ hd_X7_lift rfl ⟨Nat.le_of_ble_eq_true rfl, Nat.le_of_ble_eq_true rfl⟩ (Nat.le_of_ble_eq_true rfl) dX7_lifts_23) (fun H locs hw => ?_)
        refine lv_goto (tgt := 30) (pc := 26) C0.1 C0.2.1 dX7_lifts_26 (by decide) ?_
        refine lv_iadd (pc := 30) C0.1 C0.2.1 dX7_lifts_30 ?_
        refine lv_istore_n (pc := 31) (lv' := [(1, .int (a1.1 + q4)), (2, .int a1.2), (0, .ref (ad 0))]) C0.1 C0.2.1 dX7_lifts_31 rfl hl (by decide) rfl (fun ls hl => ?_)
        refine lv_iinc (pc := 32) (v := a1.2 + 1) (lv' := [(2, .int (a1.2 + 1)), (1, .int (a1.1 + q4)), (0, .ref (ad 0))]) C0.1 C0.2.1 dX7_lifts_32 hl (k := 1) rfl rfl (by decide) rfl (fun ls hl => ?_)
        refine lv_goto (tgt := 4) (pc := 35) C0.1 C0.2.1 dX7_lifts_35 (by decide) ?_
        exact hG _ (Option.some.inj hf).symm H locs ls hw (lv_sub hl [0, 1, 2] rfl)
  · skip
    refine lv_iload_n (pc := 38) C0.1 C0.2.1 dX7_lifts_38 rfl (lv_at hl 1 rfl) ?_
    exact x_iret (pc := 39) C0 hK hk hr hw (congrArg (fun z => (z, u)) (Option.some.inj hf)) dX7_lifts_39
def wX7_frees : List Cond := .code yX7_frees cX7_frees 3 (some .int) :: lwT
def rX7_frees : Room := { frames := 6, cells := 0, slots := 0, locals := 138 }
set_option maxRecDepth 100000 in
set_option maxHeartbeats 4000000 in
theorem kX7_frees (l : Launch) (D : va_G) (y : Nat → ClassId) (ad : Nat → Nat) (hI : XI ad 8)  (u : S) {o : Int32} (hf : fX7_frees  u = some o) : Met l yX7_frees wX7_frees rX7_frees (va_Pc [.ref (ad 0)] (XW D y ad LM 8 u)) (XQi D y ad LM 8 (o, u)) 0 0 (XA ad 8) := by
  refine x_met (bytes := cX7_frees) (maxL := 3) (ret := (some .int)) (own := RX7) (by decide) rfl rfl (Nat.le_of_ble_eq_true rfl) (fun p e s m below meth c ls C0 hK hk hr hw hl => ?_)
  have hl : lv_has ls 3 [(0, .ref (ad 0))] := hl
  unfold fX7_frees at hf
  refine lv_iconst (v := 0) (pc := 0) C0.1 C0.2.1 dX7_frees_0 (by decide) ?_
  refine lv_istore_n (pc := 1) (lv' := [(1, .int 0), (0, .ref (ad 0))]) C0.1 C0.2.1 dX7_frees_1 rfl hl (by decide) rfl (fun ls hl => ?_)
  refine lv_iconst (v := 0) (pc := 2) C0.1 C0.2.1 dX7_frees_2 (by decide) ?_
  refine lv_istore_n (pc := 3) (lv' := [(2, .int 0), (1, .int 0), (0, .ref (ad 0))]) C0.1 C0.2.1 dX7_frees_3 rfl hl (by decide) rfl (fun ls hl => ?_)
  obtain ⟨e1, he1, hf⟩ := bd_e hf
  refine X_loop (pc := 4) (xpc := 42) (fu := fun a1 => u) (fl := fun a1 => [(2, .int a1.2), (1, .int a1.1), (0, .ref (ad 0))]) (fun a1 r hf hE hG H locs ls hw hl => ?_) he1 (fun H locs ls hw hl => ?_) hw hl
  · unfold gX7_frees_4 at hf
    refine lv_iload_n (pc := 4) C0.1 C0.2.1 dX7_frees_4 rfl (lv_at hl 0 rfl) ?_
    refine lv_aload_n (pc := 5) C0.1 C0.2.1 dX7_frees_5 rfl (lv_at hl 2 rfl) ?_
    obtain ⟨q2, hq2, hf⟩ := bd_e hf
    refine x_backp (pc := 6) hw (x_runV (pc := 6) (As := []) (rest := [.int a1.2]) C0 hK hw hl.1 ⟨Nat.zero_le _, Nat.zero_le _⟩ (kX7_trays l D y ad hI  u hq2) (by decide) ly_m0 rfl rfl wc_X7_trays wm_X7_39 wi_X7_trays ws_X7_trays wn_X7 ⟨rfl, rfl⟩ hd_X7_trays rfl ⟨Nat.le_of_ble_eq_true rfl, Nat.le_of_ble_eq_true rfl⟩ (Nat.le_of_ble_eq_true rfl) dX7_frees_6) (fun H locs hw => ?_)
    refine lv_icmp_ge (tgt := 42) (pc := 9) C0.1 C0.2.1 dX7_frees_9 (by decide) (fun hc => ?_) (fun hc => ?_)
    · have hf := if_t hf hc
      exact hE _ (Option.some.inj hf).symm H locs ls hw (lv_sub hl [0, 1, 2] rfl)
    · have hf := if_f hf hc
      refine lv_iload_n (pc := 12) C0.1 C0.2.1 dX7_frees_12 rfl (lv_at hl 1 rfl) ?_
      refine lv_aload_n (pc := 13) C0.1 C0.2.1 dX7_frees_13 rfl (lv_at hl 2 rfl) ?_
      refine lv_iload_n (pc := 14) C0.1 C0.2.1 dX7_frees_14 rfl (lv_at hl 0 rfl) ?_
      obtain ⟨q3, hq3, hf⟩ := bd_e hf
      refine x_backp (pc := 15) hw (x_runV (pc := 15) (As := [.int a1.2]) (rest := [.int a1.1]) C0 hK hw hl.1 ⟨Nat.zero_le _, Nat.zero_le _⟩ (kX7_isIn l D y ad hI a1.2 u hq3) (by decide) ly_m0 rfl rfl wc_X7_isIn wm_X7_71 wi_X7_isIn ws_X7_isIn wn_X7 ⟨rfl, rfl⟩ hd_X7_isIn rfl ⟨Nat.le_of_ble_eq_true rfl, Nat.le_of_ble_eq_true rfl⟩ (Nat.le_of_ble_eq_true rfl) dX7_frees_15) (fun H locs hw => ?_)
      refine lv_if_eq (tgt := 33) (pc := 18) C0.1 C0.2.1 dX7_frees_18 (by decide) (fun hc => ?_) (fun hc => ?_)
      · have hf := if_t hf hc
        refine lv_iconst (v := 0) (pc := 33) C0.1 C0.2.1 dX7_frees_33 (by decide) ?_
        refine lv_iadd (pc := 34) C0.1 C0.2.1 dX7_frees_34 ?_
        refine lv_istore_n (pc := 35) (lv' := [(1, .int (a1.1 + 0)), (2, .int a1.2), (0, .ref (ad 0))]) C0.1 C0.2.1 dX7_frees_35 rfl hl (by decide) rfl (fun ls hl => ?_)
        refine lv_iinc (pc := 36) (v := a1.2 + 1) (lv' := [(2, .int (a1.2 + 1)), (1, .int (a1.1 + 0)), (0, .ref (ad 0))]) C0.1 C0.2.1 dX7_frees_36 hl (k := 1) rfl rfl (by decide) rfl (fun ls hl => ?_)
        refine lv_goto (tgt := 4) (pc := 39) C0.1 C0.2.1 dX7_frees_39 (by decide) ?_
        exact hG _ (Option.some.inj hf).symm H locs ls hw (lv_sub hl [0, 1, 2] rfl)
      · have hf := if_f hf hc
        refine lv_aload_n (pc := 21) C0.1 C0.2.1 dX7_frees_21 rfl (lv_at hl 2 rfl) ?_
        refine lv_iload_n (pc := 22) C0.1 C0.2.1 dX7_frees_22 rfl (lv_at hl 0 rfl) ?_
        obtain ⟨q4, hq4, hf⟩ := bd_e hf
        refine x_backp (pc := 23) hw (x_runV (pc := 23) (As := [.int a1.2]) (rest := [.int a1.1]) C0 hK hw hl.1 ⟨Nat.zero_le _, Nat.zero_le _⟩ (kX7_above l D y ad hI a1.2 u hq4) (by decide) ly_m0 rfl rfl wc_X7_above wm_X7_118 wi_X7_above ws_X7_above wn_X7 ⟨rfl, rfl⟩ hd_X7_above rfl ⟨Nat.le_of_ble_eq_true rfl, Nat.le_of_ble_eq_true rfl⟩ (Nat.le_of_ble_eq_true rfl) dX7_frees_23) (fun H locs hw => ?_)
        refine lv_if_ne (tgt := 33) (pc := 26) C0.1 C0.2.1 dX7_frees_26 (by decide) (fun hc => ?_) (fun hc => ?_)
        · have hf := if_f hf hc
          refine lv_iconst (v := 0) (pc := 33) C0.1 C0.2.1 dX7_frees_33 (by decide) ?_
          refine lv_iadd (pc := 34) C0.1 C0.2.1 dX7_frees_34 ?_
          refine lv_istore_n (pc := 35) (lv' := [(1, .int (a1.1 + 0)), (2, .int a1.2), (0, .ref (ad 0))]) C0.1 C0.2.1 dX7_frees_35 rfl hl (by decide) rfl (fun ls hl => ?_)
          refine lv_iinc (pc := 36) (v := a1.2 + 1) (lv' := [(2, .int (a1.2 + 1)), (1, .int (a1.1 + 0)), (0, .ref (ad 0))]) C0.1 C0.2.1 dX7_frees_36 hl (k := 1) rfl rfl (by decide) rfl (fun ls hl => ?_)
          refine lv_goto (tgt := 4) (pc := 39) C0.1 C0.2.1 dX7_frees_39 (by decide) ?_
          exact hG _ (Option.some.inj hf).symm H locs ls hw (lv_sub hl [0, 1, 2] rfl)
        · have hf := if_t hf hc
          refine lv_iconst (v := 1) (pc := 29) C0.1 C0.2.1 dX7_frees_29 (by decide) ?_
          refine lv_goto (tgt := 34) (pc := 30) C0.1 C0.2.1 dX7_frees_30 (by decide) ?_
          refine lv_iadd (pc := 34) C0.1 C0.2.1 dX7_frees_34 ?_
          refine lv_istore_n (pc := 35) (lv' := [(1, .int (a1.1 + 1)), (2, .int a1.2), (0, .ref (ad 0))]) C0.1 C0.2.1 dX7_frees_35 rfl hl (by decide) rfl (fun ls hl => ?_)
          refine lv_iinc (pc := 36) (v := a1.2 + 1) (lv' := [(2, .int (a1.2 + 1)), (1, .int (a1.1 + 1)), (0, .ref (ad 0))]) C0.1 C0.2.1 dX7_frees_36 hl (k := 1) rfl rfl (by decide) rfl (fun ls hl => ?_)
          refine lv_goto (tgt := 4) (pc := 39) C0.1 C0.2.1 dX7_frees_39 (by decide) ?_
          exact hG _ (Option.some.inj hf).symm H locs ls hw (lv_sub hl [0, 1, 2] rfl)
  · skip
    refine lv_iload_n (pc := 42) C0.1 C0.2.1 dX7_frees_42 rfl (lv_at hl 1 rfl) ?_
    exact x_iret (pc := 43) C0 hK hk hr hw (congrArg (fun z => (z, u)) (Option.some.inj hf)) dX7_frees_43
def wX7_boxHeight : List Cond := .code yX7_boxHeight cX7_boxHeight 3 (some .int) :: lwT
def rX7_boxHeight : Room := { frames := 3, cells := 0, slots := 0, locals := 64 }
set_option maxRecDepth 100000 in
set_option maxHeartbeats 4000000 in
theorem kX7_boxHeight (l : Launch) (D : va_G) (y : Nat → ClassId) (ad : Nat → Nat) (hI : XI ad 8)  (u : S) {o : Int32} (hf : fX7_boxHeight  u = some o) : Met l yX7_boxHeight wX7_boxHeight rX7_boxHeight (va_Pc [.ref (ad 0)] (XW D y ad LM 8 u)) (XQi D y ad LM 8 (o, u)) 0 0 (XA ad 8) := by
  refine x_met (bytes := cX7_boxHeight) (maxL := 3) (ret := (some .int)) (own := RX7) (by decide) rfl rfl (Nat.le_of_ble_eq_true rfl) (fun p e s m below meth c ls C0 hK hk hr hw hl => ?_)
  have hl : lv_has ls 3 [(0, .ref (ad 0))] := hl
  unfold fX7_boxHeight at hf
  refine lv_iconst (v := 0) (pc := 0) C0.1 C0.2.1 dX7_boxHeight_0 (by decide) ?_
  refine lv_istore_n (pc := 1) (lv' := [(1, .int 0), (0, .ref (ad 0))]) C0.1 C0.2.1 dX7_boxHeight_1 rfl hl (by decide) rfl (fun ls hl => ?_)
  refine lv_iconst (v := 0) (pc := 2) C0.1 C0.2.1 dX7_boxHeight_2 (by decide) ?_
  refine lv_istore_n (pc := 3) (lv' := [(2, .int 0), (1, .int 0), (0, .ref (ad 0))]) C0.1 C0.2.1 dX7_boxHeight_3 rfl hl (by decide) rfl (fun ls hl => ?_)
  obtain ⟨e1, he1, hf⟩ := bd_e hf
  refine X_loop (pc := 4) (xpc := 45) (fu := fun a1 => u) (fl := fun a1 => [(2, .int a1.2), (1, .int a1.1), (0, .ref (ad 0))]) (fun a1 r hf hE hG H locs ls hw hl => ?_) he1 (fun H locs ls hw hl => ?_) hw hl
  · unfold gX7_boxHeight_4 at hf
    refine lv_iload_n (pc := 4) C0.1 C0.2.1 dX7_boxHeight_4 rfl (lv_at hl 0 rfl) ?_
    refine lv_aload_n (pc := 5) C0.1 C0.2.1 dX7_boxHeight_5 rfl (lv_at hl 2 rfl) ?_
    obtain ⟨q2, hq2, hf⟩ := bd_e hf
    refine x_backp (pc := 6) hw (x_runV (pc := 6) (As := []) (rest := [.int a1.2]) C0 hK hw hl.1 ⟨Nat.zero_le _, Nat.zero_le _⟩ (kX7_trays l D y ad hI  u hq2) (by decide) ly_m0 rfl rfl wc_X7_trays wm_X7_39 wi_X7_trays ws_X7_trays wn_X7 ⟨rfl, rfl⟩ hd_X7_trays rfl ⟨Nat.le_of_ble_eq_true rfl, Nat.le_of_ble_eq_true rfl⟩ (Nat.le_of_ble_eq_true rfl) dX7_boxHeight_6) (fun H locs hw => ?_)
    refine lv_icmp_ge (tgt := 45) (pc := 9) C0.1 C0.2.1 dX7_boxHeight_9 (by decide) (fun hc => ?_) (fun hc => ?_)
    · have hf := if_t hf hc
      exact hE _ (Option.some.inj hf).symm H locs ls hw (lv_sub hl [0, 1, 2] rfl)
    · have hf := if_f hf hc
      refine lv_aload_n (pc := 12) C0.1 C0.2.1 dX7_boxHeight_12 rfl (lv_at hl 2 rfl) ?_
      refine lv_iload_n (pc := 13) C0.1 C0.2.1 dX7_boxHeight_13 rfl (lv_at hl 0 rfl) ?_
      obtain ⟨q3, hq3, hf⟩ := bd_e hf
      refine x_backp (pc := 14) hw (x_runV (pc := 14) (As := [.int a1.2]) (rest := []) C0 hK hw hl.1 ⟨Nat.zero_le _, Nat.zero_le _⟩ (kX7_isIn l D y ad hI a1.2 u hq3) (by decide) ly_m0 rfl rfl wc_X7_isIn wm_X7_71 wi_X7_isIn ws_X7_isIn wn_X7 ⟨rfl, rfl⟩ hd_X7_isIn rfl ⟨Nat.le_of_ble_eq_true rfl, Nat.le_of_ble_eq_true rfl⟩ (Nat.le_of_ble_eq_true rfl) dX7_boxHeight_14) (fun H locs hw => ?_)
      refine lv_if_eq (tgt := 37) (pc := 17) C0.1 C0.2.1 dX7_boxHeight_17 (by decide) (fun hc => ?_) (fun hc => ?_)
      · have hf := if_t hf hc
        refine lv_iload_n (pc := 37) C0.1 C0.2.1 dX7_boxHeight_37 rfl (lv_at hl 1 rfl) ?_
        refine lv_istore_n (pc := 38) (lv' := [(1, .int a1.1), (2, .int a1.2), (0, .ref (ad 0))]) C0.1 C0.2.1 dX7_boxHeight_38 rfl hl (by decide) rfl (fun ls hl => ?_)
        refine lv_iinc (pc := 39) (v := a1.2 + 1) (lv' := [(2, .int (a1.2 + 1)), (1, .int a1.1), (0, .ref (ad 0))]) C0.1 C0.2.1 dX7_boxHeight_39 hl (k := 1) rfl rfl (by decide) rfl (fun ls hl => ?_)
        refine lv_goto (tgt := 4) (pc := 42) C0.1 C0.2.1 dX7_boxHeight_42 (by decide) ?_
        exact hG _ (Option.some.inj hf).symm H locs ls hw (lv_sub hl [0, 1, 2] rfl)
      · have hf := if_f hf hc
        refine lv_aload_n (pc := 20) C0.1 C0.2.1 dX7_boxHeight_20 rfl (lv_at hl 2 rfl) ?_
        refine lv_iload_n (pc := 21) C0.1 C0.2.1 dX7_boxHeight_21 rfl (lv_at hl 0 rfl) ?_
        obtain ⟨q4, hq4, hf⟩ := bd_e hf
        refine x_backp (pc := 22) hw (x_runV (pc := 22) (As := [.int a1.2]) (rest := []) C0 hK hw hl.1 ⟨Nat.zero_le _, Nat.zero_le _⟩ (kX7_top l D y ad hI a1.2 u hq4) (by decide) ly_m0 rfl rfl wc_X7_top wm_X7_78 wi_X7_top ws_X7_top wn_X7 ⟨rfl, rfl⟩ hd_X7_top rfl ⟨Nat.le_of_ble_eq_true rfl, Nat.le_of_ble_eq_true rfl⟩ (Nat.le_of_ble_eq_true rfl) dX7_boxHeight_22) (fun H locs hw => ?_)
        refine lv_iload_n (pc := 25) C0.1 C0.2.1 dX7_boxHeight_25 rfl (lv_at hl 1 rfl) ?_
        refine lv_icmp_le (tgt := 37) (pc := 26) C0.1 C0.2.1 dX7_boxHeight_26 (by decide) (fun hc => ?_) (fun hc => ?_)
        · have hf := if_t hf hc
          refine lv_iload_n (pc := 37) C0.1 C0.2.1 dX7_boxHeight_37 rfl (lv_at hl 1 rfl) ?_
          refine lv_istore_n (pc := 38) (lv' := [(1, .int a1.1), (2, .int a1.2), (0, .ref (ad 0))]) C0.1 C0.2.1 dX7_boxHeight_38 rfl hl (by decide) rfl (fun ls hl => ?_)
          refine lv_iinc (pc := 39) (v := a1.2 + 1) (lv' := [(2, .int (a1.2 + 1)), (1, .int a1.1), (0, .ref (ad 0))]) C0.1 C0.2.1 dX7_boxHeight_39 hl (k := 1) rfl rfl (by decide) rfl (fun ls hl => ?_)
          refine lv_goto (tgt := 4) (pc := 42) C0.1 C0.2.1 dX7_boxHeight_42 (by decide) ?_
          exact hG _ (Option.some.inj hf).symm H locs ls hw (lv_sub hl [0, 1, 2] rfl)
        · have hf := if_f hf hc
          refine lv_aload_n (pc := 29) C0.1 C0.2.1 dX7_boxHeight_29 rfl (lv_at hl 2 rfl) ?_
          refine lv_iload_n (pc := 30) C0.1 C0.2.1 dX7_boxHeight_30 rfl (lv_at hl 0 rfl) ?_
          obtain ⟨q5, hq5, hf⟩ := bd_e hf
          refine x_backp (pc := 31) hw (x_runV (pc := 31) (As := [.int a1.2]) (rest := []) C0 hK hw hl.1 ⟨Nat.zero_le _, Nat.zero_le _⟩ (kX7_top l D y ad hI a1.2 u hq5) (by decide) ly_m0 rfl rfl wc_X7_top wm_X7_78 wi_X7_top ws_X7_top wn_X7 ⟨rfl, rfl⟩ hd_X7_top rfl ⟨Nat.le_of_ble_eq_true rfl, Nat.le_of_ble_eq_true rfl⟩ (Nat.le_of_ble_eq_true rfl) dX7_boxHeight_31) (fun H locs hw => ?_)
          refine lv_goto (tgt := 38) (pc := 34) C0.1 C0.2.1 dX7_boxHeight_34 (by decide) ?_
          refine lv_istore_n (pc := 38) (lv' := [(1, .int q5), (2, .int a1.2), (0, .ref (ad 0))]) C0.1 C0.2.1 dX7_boxHeight_38 rfl hl (by decide) rfl (fun ls hl => ?_)
          refine lv_iinc (pc := 39) (v := a1.2 + 1) (lv' := [(2, .int (a1.2 + 1)), (1, .int q5), (0, .ref (ad 0))]) C0.1 C0.2.1 dX7_boxHeight_39 hl (k := 1) rfl rfl (by decide) rfl (fun ls hl => ?_)
          refine lv_goto (tgt := 4) (pc := 42) C0.1 C0.2.1 dX7_boxHeight_42 (by decide) ?_
          exact hG _ (Option.some.inj hf).symm H locs ls hw (lv_sub hl [0, 1, 2] rfl)
  · skip
    refine lv_iload_n (pc := 45) C0.1 C0.2.1 dX7_boxHeight_45 rfl (lv_at hl 1 rfl) ?_
    exact x_iret (pc := 46) C0 hK hk hr hw (congrArg (fun z => (z, u)) (Option.some.inj hf)) dX7_boxHeight_46
def wX7_air : List Cond := .code yX7_air cX7_air 3 (some .int) :: lwT
def rX7_air : Room := { frames := 4, cells := 0, slots := 0, locals := 86 }
set_option maxRecDepth 100000 in
set_option maxHeartbeats 4000000 in
theorem kX7_air (l : Launch) (D : va_G) (y : Nat → ClassId) (ad : Nat → Nat) (hI : XI ad 8)  (u : S) {o : Int32} (hf : fX7_air  u = some o) : Met l yX7_air wX7_air rX7_air (va_Pc [.ref (ad 0)] (XW D y ad LM 8 u)) (XQi D y ad LM 8 (o, u)) 0 0 (XA ad 8) := by
  refine x_met (bytes := cX7_air) (maxL := 3) (ret := (some .int)) (own := RX7) (by decide) rfl rfl (Nat.le_of_ble_eq_true rfl) (fun p e s m below meth c ls C0 hK hk hr hw hl => ?_)
  have hl : lv_has ls 3 [(0, .ref (ad 0))] := hl
  unfold fX7_air at hf
  refine lv_aload_n (pc := 0) C0.1 C0.2.1 dX7_air_0 rfl (lv_at hl 0 rfl) ?_
  refine x_get (pc := 1) (v := .ref (ad 1)) C0 hK hw (by decide) ly_m0 rfl inX7 0 (by decide) wf_X7_7 rfl rfl dX7_air_1 ?_
  refine lv_iconst (v := 0) (pc := 4) C0.1 C0.2.1 dX7_air_4 (by decide) ?_
  obtain ⟨hi, hf⟩ := gd_e hf
  refine x_iald (pc := 5) C0 hK hw (by decide) ly_m1 hi dX7_air_5 ?_
  refine lv_aload_n (pc := 6) C0.1 C0.2.1 dX7_air_6 rfl (lv_at hl 0 rfl) ?_
  refine x_get (pc := 7) (v := .ref (ad 1)) C0 hK hw (by decide) ly_m0 rfl inX7 0 (by decide) wf_X7_7 rfl rfl dX7_air_7 ?_
  refine lv_iconst (v := 1) (pc := 10) C0.1 C0.2.1 dX7_air_10 (by decide) ?_
  obtain ⟨hi, hf⟩ := gd_e hf
  refine x_iald (pc := 11) C0 hK hw (by decide) ly_m1 hi dX7_air_11 ?_
  refine lv_imul (pc := 12) C0.1 C0.2.1 dX7_air_12 ?_
  refine lv_aload_n (pc := 13) C0.1 C0.2.1 dX7_air_13 rfl (lv_at hl 0 rfl) ?_
  obtain ⟨q1, hq1, hf⟩ := bd_e hf
  refine x_backp (pc := 14) hw (x_runV (pc := 14) (As := []) (rest := [.int ((u.1 1 (0 : Int32).toNatClampNeg) * (u.1 1 (1 : Int32).toNatClampNeg))]) C0 hK hw hl.1 ⟨Nat.zero_le _, Nat.zero_le _⟩ (kX7_boxHeight l D y ad hI  u hq1) (by decide) ly_m0 rfl rfl wc_X7_boxHeight wm_X7_127 wi_X7_boxHeight ws_X7_boxHeight wn_X7 ⟨rfl, rfl⟩ hd_X7_boxHeight rfl ⟨Nat.le_of_ble_eq_true rfl, Nat.le_of_ble_eq_true rfl⟩ (Nat.le_of_ble_eq_true rfl) dX7_air_14) (fun H locs hw => ?_)
  refine lv_imul (pc := 17) C0.1 C0.2.1 dX7_air_17 ?_
  refine lv_istore_n (pc := 18) (lv' := [(1, .int (((u.1 1 (0 : Int32).toNatClampNeg) * (u.1 1 (1 : Int32).toNatClampNeg)) * q1)), (0, .ref (ad 0))]) C0.1 C0.2.1 dX7_air_18 rfl hl (by decide) rfl (fun ls hl => ?_)
  refine lv_iconst (v := 0) (pc := 19) C0.1 C0.2.1 dX7_air_19 (by decide) ?_
  refine lv_istore_n (pc := 20) (lv' := [(2, .int 0), (1, .int (((u.1 1 (0 : Int32).toNatClampNeg) * (u.1 1 (1 : Int32).toNatClampNeg)) * q1)), (0, .ref (ad 0))]) C0.1 C0.2.1 dX7_air_20 rfl hl (by decide) rfl (fun ls hl => ?_)
  obtain ⟨e2, he2, hf⟩ := bd_e hf
  refine X_loop (pc := 21) (xpc := 69) (fu := fun a1 => u) (fl := fun a1 => [(2, .int a1.2), (1, .int a1.1), (0, .ref (ad 0))]) (fun a1 r hf hE hG H locs ls hw hl => ?_) he2 (fun H locs ls hw hl => ?_) hw hl
  · unfold gX7_air_21 at hf
    refine lv_iload_n (pc := 21) C0.1 C0.2.1 dX7_air_21 rfl (lv_at hl 0 rfl) ?_
    refine lv_aload_n (pc := 22) C0.1 C0.2.1 dX7_air_22 rfl (lv_at hl 2 rfl) ?_
    obtain ⟨q3, hq3, hf⟩ := bd_e hf
    refine x_backp (pc := 23) hw (x_runV (pc := 23) (As := []) (rest := [.int a1.2]) C0 hK hw hl.1 ⟨Nat.zero_le _, Nat.zero_le _⟩ (kX7_trays l D y ad hI  u hq3) (by decide) ly_m0 rfl rfl wc_X7_trays wm_X7_39 wi_X7_trays ws_X7_trays wn_X7 ⟨rfl, rfl⟩ hd_X7_trays rfl ⟨Nat.le_of_ble_eq_true rfl, Nat.le_of_ble_eq_true rfl⟩ (Nat.le_of_ble_eq_true rfl) dX7_air_23) (fun H locs hw => ?_)
    refine lv_icmp_ge (tgt := 69) (pc := 26) C0.1 C0.2.1 dX7_air_26 (by decide) (fun hc => ?_) (fun hc => ?_)
    · have hf := if_t hf hc
      exact hE _ (Option.some.inj hf).symm H locs ls hw (lv_sub hl [0, 1, 2] rfl)
    · have hf := if_f hf hc
      refine lv_iload_n (pc := 29) C0.1 C0.2.1 dX7_air_29 rfl (lv_at hl 1 rfl) ?_
      refine lv_aload_n (pc := 30) C0.1 C0.2.1 dX7_air_30 rfl (lv_at hl 2 rfl) ?_
      refine lv_iload_n (pc := 31) C0.1 C0.2.1 dX7_air_31 rfl (lv_at hl 0 rfl) ?_
      obtain ⟨q4, hq4, hf⟩ := bd_e hf
      refine x_backp (pc := 32) hw (x_runV (pc := 32) (As := [.int a1.2]) (rest := [.int a1.1]) C0 hK hw hl.1 ⟨Nat.zero_le _, Nat.zero_le _⟩ (kX7_isIn l D y ad hI a1.2 u hq4) (by decide) ly_m0 rfl rfl wc_X7_isIn wm_X7_71 wi_X7_isIn ws_X7_isIn wn_X7 ⟨rfl, rfl⟩ hd_X7_isIn rfl ⟨Nat.le_of_ble_eq_true rfl, Nat.le_of_ble_eq_true rfl⟩ (Nat.le_of_ble_eq_true rfl) dX7_air_32) (fun H locs hw => ?_)
      refine lv_if_eq (tgt := 60) (pc := 35) C0.1 C0.2.1 dX7_air_35 (by decide) (fun hc => ?_) (fun hc => ?_)
      · have hf := if_t hf hc
        refine lv_iconst (v := 0) (pc := 60) C0.1 C0.2.1 dX7_air_60 (by decide) ?_
        refine lv_isub (pc := 61) C0.1 C0.2.1 dX7_air_61 ?_
        refine lv_istore_n (pc := 62) (lv' := [(1, .int (a1.1 - 0)), (2, .int a1.2), (0, .ref (ad 0))]) C0.1 C0.2.1 dX7_air_62 rfl hl (by decide) rfl (fun ls hl => ?_)
        refine lv_iinc (pc := 63) (v := a1.2 + 1) (lv' := [(2, .int (a1.2 + 1)), (1, .int (a1.1 - 0)), (0, .ref (ad 0))]) C0.1 C0.2.1 dX7_air_63 hl (k := 1) rfl rfl (by decide) rfl (fun ls hl => ?_)
        refine lv_goto (tgt := 21) (pc := 66) C0.1 C0.2.1 dX7_air_66 (by decide) ?_
        exact hG _ (Option.some.inj hf).symm H locs ls hw (lv_sub hl [0, 1, 2] rfl)
      · have hf := if_f hf hc
        refine lv_aload_n (pc := 38) C0.1 C0.2.1 dX7_air_38 rfl (lv_at hl 2 rfl) ?_
        refine lv_iload_n (pc := 39) C0.1 C0.2.1 dX7_air_39 rfl (lv_at hl 0 rfl) ?_
        refine lv_iconst (v := 0) (pc := 40) C0.1 C0.2.1 dX7_air_40 (by decide) ?_
        obtain ⟨q5, hq5, hf⟩ := bd_e hf
        refine x_backp (pc := 41) hw (x_runV (pc := 41) (As := [.int a1.2, .int 0]) (rest := [.int a1.1]) C0 hK hw hl.1 ⟨Nat.zero_le _, Nat.zero_le _⟩ (kX7_of l D y ad hI a1.2 0 u hq5) (by decide) ly_m0 rfl rfl wc_X7_of wm_X7_47 wi_X7_of ws_X7_of wn_X7 ⟨rfl, rfl⟩ hd_X7_of rfl ⟨Nat.le_of_ble_eq_true rfl, Nat.le_of_ble_eq_true rfl⟩ (Nat.le_of_ble_eq_true rfl) dX7_air_41) (fun H locs hw => ?_)
        refine lv_aload_n (pc := 44) C0.1 C0.2.1 dX7_air_44 rfl (lv_at hl 2 rfl) ?_
        refine lv_iload_n (pc := 45) C0.1 C0.2.1 dX7_air_45 rfl (lv_at hl 0 rfl) ?_
        refine lv_iconst (v := 1) (pc := 46) C0.1 C0.2.1 dX7_air_46 (by decide) ?_
        obtain ⟨q6, hq6, hf⟩ := bd_e hf
        refine x_backp (pc := 47) hw (x_runV (pc := 47) (As := [.int a1.2, .int 1]) (rest := [.int q5, .int a1.1]) C0 hK hw hl.1 ⟨Nat.zero_le _, Nat.zero_le _⟩ (kX7_of l D y ad hI a1.2 1 u hq6) (by decide) ly_m0 rfl rfl wc_X7_of wm_X7_47 wi_X7_of ws_X7_of wn_X7 ⟨rfl, rfl⟩ hd_X7_of rfl ⟨Nat.le_of_ble_eq_true rfl, Nat.le_of_ble_eq_true rfl⟩ (Nat.le_of_ble_eq_true rfl) dX7_air_47) (fun H locs hw => ?_)
        refine lv_imul (pc := 50) C0.1 C0.2.1 dX7_air_50 ?_
        refine lv_aload_n (pc := 51) C0.1 C0.2.1 dX7_air_51 rfl (lv_at hl 2 rfl) ?_
        refine lv_iload_n (pc := 52) C0.1 C0.2.1 dX7_air_52 rfl (lv_at hl 0 rfl) ?_
        obtain ⟨q7, hq7, hf⟩ := bd_e hf
        refine x_backp (pc := 53) hw (x_runV (pc := 53) (As := [.int a1.2]) (rest := [.int (q5 * q6), .int a1.1]) C0 hK hw hl.1 ⟨Nat.zero_le _, Nat.zero_le _⟩ (kX7_high l D y ad hI a1.2 u hq7) (by decide) ly_m0 rfl rfl wc_X7_high wm_X7_51 wi_X7_high ws_X7_high wn_X7 ⟨rfl, rfl⟩ hd_X7_high rfl ⟨Nat.le_of_ble_eq_true rfl, Nat.le_of_ble_eq_true rfl⟩ (Nat.le_of_ble_eq_true rfl) dX7_air_53) (fun H locs hw => ?_)
        refine lv_imul (pc := 56) C0.1 C0.2.1 dX7_air_56 ?_
        refine lv_goto (tgt := 61) (pc := 57) C0.1 C0.2.1 dX7_air_57 (by decide) ?_
        refine lv_isub (pc := 61) C0.1 C0.2.1 dX7_air_61 ?_
        refine lv_istore_n (pc := 62) (lv' := [(1, .int (a1.1 - ((q5 * q6) * q7))), (2, .int a1.2), (0, .ref (ad 0))]) C0.1 C0.2.1 dX7_air_62 rfl hl (by decide) rfl (fun ls hl => ?_)
        refine lv_iinc (pc := 63) (v := a1.2 + 1) (lv' := [(2, .int (a1.2 + 1)), (1, .int (a1.1 - ((q5 * q6) * q7))), (0, .ref (ad 0))]) C0.1 C0.2.1 dX7_air_63 hl (k := 1) rfl rfl (by decide) rfl (fun ls hl => ?_)
        refine lv_goto (tgt := 21) (pc := 66) C0.1 C0.2.1 dX7_air_66 (by decide) ?_
        exact hG _ (Option.some.inj hf).symm H locs ls hw (lv_sub hl [0, 1, 2] rfl)
  · skip
    refine lv_iload_n (pc := 69) C0.1 C0.2.1 dX7_air_69 rfl (lv_at hl 1 rfl) ?_
    exact x_iret (pc := 70) C0 hK hk hr hw (congrArg (fun z => (z, u)) (Option.some.inj hf)) dX7_air_70
def wX7_type : List Cond := .code yX7_type cX7_type 2 (some .int) :: lwT
def rX7_type : Room := { frames := 1, cells := 0, slots := 0, locals := 22 }
set_option maxRecDepth 100000 in
set_option maxHeartbeats 4000000 in
theorem kX7_type (l : Launch) (D : va_G) (y : Nat → ClassId) (ad : Nat → Nat) (hI : XI ad 8) (v1 : Int32) (u : S) {o : Int32 × S} (hf : fX7_type v1 u = some o) : Met l yX7_type wX7_type rX7_type (va_Pc [.ref (ad 0), .int v1] (XW D y ad LM 8 u)) (XQi D y ad LM 8 o) 0 0 (XA ad 8) := by
  refine x_met (bytes := cX7_type) (maxL := 2) (ret := (some .int)) (own := RX7) (by decide) rfl rfl (Nat.le_of_ble_eq_true rfl) (fun p e s m below meth c ls C0 hK hk hr hw hl => ?_)
  have hl : lv_has ls 2 [(0, .ref (ad 0)), (1, .int v1)] := hl
  unfold fX7_type at hf
  refine lv_iload_n (pc := 0) C0.1 C0.2.1 dX7_type_0 rfl (lv_at hl 1 rfl) ?_
  refine lv_bipush (v := 32) (pc := 1) C0.1 C0.2.1 dX7_type_1 (by decide) ?_
  refine lv_bipush (v := 126) (pc := 3) C0.1 C0.2.1 dX7_type_3 (by decide) ?_
  obtain ⟨q1, hq1, hf⟩ := bd_e hf
  refine x_backp (pc := 5) hw (x_runS (pc := 5) (As := [.int v1, .int 32, .int 126]) (rest := []) C0 hK hw hl.1 ⟨Nat.zero_le _, Nat.zero_le _⟩ (kX7_in l D y ad hI v1 32 126 u hq1) rfl wc_X7_in wm_X7_43 wt_X7_in wn_X7 ⟨rfl, rfl⟩ hd_X7_in rfl ⟨Nat.le_of_ble_eq_true rfl, Nat.le_of_ble_eq_true rfl⟩ (Nat.le_of_ble_eq_true rfl) dX7_type_5) (fun H locs hw => ?_)
  refine lv_if_ne (tgt := 13) (pc := 8) C0.1 C0.2.1 dX7_type_8 (by decide) (fun hc => ?_) (fun hc => ?_)
  · have hf := if_f hf hc
    refine lv_aload_n (pc := 13) C0.1 C0.2.1 dX7_type_13 rfl (lv_at hl 0 rfl) ?_
    refine x_get (pc := 14) (v := .int (u.1 0 6)) C0 hK hw (by decide) ly_m0 rfl inX7 6 (by decide) wf_X7_130 rfl rfl dX7_type_14 ?_
    refine lv_bipush (v := 100) (pc := 17) C0.1 C0.2.1 dX7_type_17 (by decide) ?_
    refine lv_icmp_ne (tgt := 25) (pc := 19) C0.1 C0.2.1 dX7_type_19 (by decide) (fun hc => ?_) (fun hc => ?_)
    · have hf := if_f hf hc
      refine lv_aload_n (pc := 25) C0.1 C0.2.1 dX7_type_25 rfl (lv_at hl 0 rfl) ?_
      refine x_get (pc := 26) (v := .ref (ad 3)) C0 hK hw (by decide) ly_m0 rfl inX7 5 (by decide) wf_X7_16 rfl rfl dX7_type_26 ?_
      refine lv_aload_n (pc := 29) C0.1 C0.2.1 dX7_type_29 rfl (lv_at hl 0 rfl) ?_
      refine x_get (pc := 30) (v := .int (u.1 0 6)) C0 hK hw (by decide) ly_m0 rfl inX7 6 (by decide) wf_X7_130 rfl rfl dX7_type_30 ?_
      refine lv_iload_n (pc := 33) C0.1 C0.2.1 dX7_type_33 rfl (lv_at hl 1 rfl) ?_
      obtain ⟨hi, hf⟩ := gd_e hf
      obtain ⟨u2, hu, hf⟩ := nm_f hf
      refine x_iast (pc := 34) hI C0 hK hw (by decide) ly_m3 hi hu dX7_type_34 (fun H locs hw => ?_)
      refine lv_aload_n (pc := 35) C0.1 C0.2.1 dX7_type_35 rfl (lv_at hl 0 rfl) ?_
      refine lv_dup (pc := 36) C0.1 C0.2.1 dX7_type_36 rfl ?_
      refine x_get (pc := 37) (v := .int (u2.1 0 6)) C0 hK hw (by decide) ly_m0 rfl inX7 6 (by decide) wf_X7_130 rfl rfl dX7_type_37 ?_
      refine lv_iconst (v := 1) (pc := 40) C0.1 C0.2.1 dX7_type_40 (by decide) ?_
      refine lv_iadd (pc := 41) C0.1 C0.2.1 dX7_type_41 ?_
      obtain ⟨u3, hu, hf⟩ := nm_f hf
      refine x_put (pc := 42) hI C0 hK hw (by decide) ly_m0 rfl inX7 tyX7_ok nmX7 6 (by decide) wf_X7_130 rfl rfl rfl hu rfl rfl dX7_type_42 (fun H locs hw => ?_)
      refine lv_aload_n (pc := 45) C0.1 C0.2.1 dX7_type_45 rfl (lv_at hl 0 rfl) ?_
      refine x_get (pc := 46) (v := .int (u3.1 0 6)) C0 hK hw (by decide) ly_m0 rfl inX7 6 (by decide) wf_X7_130 rfl rfl dX7_type_46 ?_
      exact x_iret (pc := 49) C0 hK hk hr hw (Option.some.inj hf) dX7_type_49
    · have hf := if_t hf hc
      refine lv_bipush (v := (-3)) (pc := 22) C0.1 C0.2.1 dX7_type_22 (by decide) ?_
      exact x_iret (pc := 24) C0 hK hk hr hw (Option.some.inj hf) dX7_type_24
  · have hf := if_t hf hc
    refine lv_iconst (v := (-1)) (pc := 11) C0.1 C0.2.1 dX7_type_11 (by decide) ?_
    exact x_iret (pc := 12) C0 hK hk hr hw (Option.some.inj hf) dX7_type_12
def wX7_clearText : List Cond := .code yX7_clearText cX7_clearText 2 (some .int) :: lwT
def rX7_clearText : Room := { frames := 0, cells := 0, slots := 0, locals := 0 }
set_option maxRecDepth 100000 in
set_option maxHeartbeats 4000000 in
theorem kX7_clearText (l : Launch) (D : va_G) (y : Nat → ClassId) (ad : Nat → Nat) (hI : XI ad 8)  (u : S) {o : Int32 × S} (hf : fX7_clearText  u = some o) : Met l yX7_clearText wX7_clearText rX7_clearText (va_Pc [.ref (ad 0)] (XW D y ad LM 8 u)) (XQi D y ad LM 8 o) 0 0 (XA ad 8) := by
  refine x_met (bytes := cX7_clearText) (maxL := 2) (ret := (some .int)) (own := RX7) (by decide) rfl rfl (Nat.le_of_ble_eq_true rfl) (fun p e s m below meth c ls C0 hK hk hr hw hl => ?_)
  have hl : lv_has ls 2 [(0, .ref (ad 0))] := hl
  unfold fX7_clearText at hf
  refine lv_aload_n (pc := 0) C0.1 C0.2.1 dX7_clearText_0 rfl (lv_at hl 0 rfl) ?_
  refine x_get (pc := 1) (v := .int (u.1 0 6)) C0 hK hw (by decide) ly_m0 rfl inX7 6 (by decide) wf_X7_130 rfl rfl dX7_clearText_1 ?_
  refine lv_istore_n (pc := 4) (lv' := [(1, .int (u.1 0 6)), (0, .ref (ad 0))]) C0.1 C0.2.1 dX7_clearText_4 rfl hl (by decide) rfl (fun ls hl => ?_)
  refine lv_aload_n (pc := 5) C0.1 C0.2.1 dX7_clearText_5 rfl (lv_at hl 1 rfl) ?_
  refine lv_iconst (v := 0) (pc := 6) C0.1 C0.2.1 dX7_clearText_6 (by decide) ?_
  obtain ⟨u1, hu, hf⟩ := nm_f hf
  refine x_put (pc := 7) hI C0 hK hw (by decide) ly_m0 rfl inX7 tyX7_ok nmX7 6 (by decide) wf_X7_130 rfl rfl rfl hu rfl rfl dX7_clearText_7 (fun H locs hw => ?_)
  refine lv_iload_n (pc := 10) C0.1 C0.2.1 dX7_clearText_10 rfl (lv_at hl 0 rfl) ?_
  exact x_iret (pc := 11) C0 hK hk hr hw (Option.some.inj hf) dX7_clearText_11
def wX7_here : List Cond := .code yX7_here cX7_here 1 (some .int) :: lwT
def rX7_here : Room := { frames := 0, cells := 0, slots := 0, locals := 0 }
set_option maxRecDepth 100000 in
set_option maxHeartbeats 4000000 in
theorem kX7_here (l : Launch) (D : va_G) (y : Nat → ClassId) (ad : Nat → Nat) (hI : XI ad 8)  (u : S) {o : Int32} (hf : fX7_here  u = some o) : Met l yX7_here wX7_here rX7_here (va_Pc [.ref (ad 0)] (XW D y ad LM 8 u)) (XQi D y ad LM 8 (o, u)) 0 0 (XA ad 8) := by
  refine x_met (bytes := cX7_here) (maxL := 1) (ret := (some .int)) (own := RX7) (by decide) rfl rfl (Nat.le_of_ble_eq_true rfl) (fun p e s m below meth c ls C0 hK hk hr hw hl => ?_)
  have hl : lv_has ls 1 [(0, .ref (ad 0))] := hl
  unfold fX7_here at hf
  refine lv_aload_n (pc := 0) C0.1 C0.2.1 dX7_here_0 rfl (lv_at hl 0 rfl) ?_
  refine x_get (pc := 1) (v := .int (u.1 0 9)) C0 hK hw (by decide) ly_m0 rfl inX7 9 (by decide) wf_X7_133 rfl rfl dX7_here_1 ?_
  refine lv_aload_n (pc := 4) C0.1 C0.2.1 dX7_here_4 rfl (lv_at hl 0 rfl) ?_
  refine x_get (pc := 5) (v := .int (u.1 0 6)) C0 hK hw (by decide) ly_m0 rfl inX7 6 (by decide) wf_X7_130 rfl rfl dX7_here_5 ?_
  refine lv_icmp_ge (tgt := 23) (pc := 8) C0.1 C0.2.1 dX7_here_8 (by decide) (fun hc => ?_) (fun hc => ?_)
  · have hf := if_t hf hc
    refine lv_bipush (v := (-9)) (pc := 23) C0.1 C0.2.1 dX7_here_23 (by decide) ?_
    exact x_iret (pc := 25) C0 hK hk hr hw (congrArg (fun z => (z, u)) (Option.some.inj hf)) dX7_here_25
  · have hf := if_f hf hc
    refine lv_aload_n (pc := 11) C0.1 C0.2.1 dX7_here_11 rfl (lv_at hl 0 rfl) ?_
    refine x_get (pc := 12) (v := .ref (ad 3)) C0 hK hw (by decide) ly_m0 rfl inX7 5 (by decide) wf_X7_16 rfl rfl dX7_here_12 ?_
    refine lv_aload_n (pc := 15) C0.1 C0.2.1 dX7_here_15 rfl (lv_at hl 0 rfl) ?_
    refine x_get (pc := 16) (v := .int (u.1 0 9)) C0 hK hw (by decide) ly_m0 rfl inX7 9 (by decide) wf_X7_133 rfl rfl dX7_here_16 ?_
    obtain ⟨hi, hf⟩ := gd_e hf
    refine x_iald (pc := 19) C0 hK hw (by decide) ly_m3 hi dX7_here_19 ?_
    refine lv_goto (tgt := 25) (pc := 20) C0.1 C0.2.1 dX7_here_20 (by decide) ?_
    exact x_iret (pc := 25) C0 hK hk hr hw (congrArg (fun z => (z, u)) (Option.some.inj hf)) dX7_here_25
def wX7_isDigit : List Cond := .code yX7_isDigit cX7_isDigit 1 (some .boolean) :: lwT
def rX7_isDigit : Room := { frames := 1, cells := 0, slots := 0, locals := 22 }
set_option maxRecDepth 100000 in
set_option maxHeartbeats 4000000 in
theorem kX7_isDigit (l : Launch) (D : va_G) (y : Nat → ClassId) (ad : Nat → Nat) (hI : XI ad 8)  (u : S) {o : Int32} (hf : fX7_isDigit  u = some o) : Met l yX7_isDigit wX7_isDigit rX7_isDigit (va_Pc [.ref (ad 0)] (XW D y ad LM 8 u)) (XQi D y ad LM 8 (o, u)) 0 0 (XA ad 8) := by
  refine x_met (bytes := cX7_isDigit) (maxL := 1) (ret := (some .boolean)) (own := RX7) (by decide) rfl rfl (Nat.le_of_ble_eq_true rfl) (fun p e s m below meth c ls C0 hK hk hr hw hl => ?_)
  have hl : lv_has ls 1 [(0, .ref (ad 0))] := hl
  unfold fX7_isDigit at hf
  refine lv_aload_n (pc := 0) C0.1 C0.2.1 dX7_isDigit_0 rfl (lv_at hl 0 rfl) ?_
  obtain ⟨q1, hq1, hf⟩ := bd_e hf
  refine x_backp (pc := 1) hw (x_runV (pc := 1) (As := []) (rest := []) C0 hK hw hl.1 ⟨Nat.zero_le _, Nat.zero_le _⟩ (kX7_here l D y ad hI  u hq1) (by decide) ly_m0 rfl rfl wc_X7_here wm_X7_136 wi_X7_here ws_X7_here wn_X7 ⟨rfl, rfl⟩ hd_X7_here rfl ⟨Nat.le_of_ble_eq_true rfl, Nat.le_of_ble_eq_true rfl⟩ (Nat.le_of_ble_eq_true rfl) dX7_isDigit_1) (fun H locs hw => ?_)
  refine lv_bipush (v := 48) (pc := 4) C0.1 C0.2.1 dX7_isDigit_4 (by decide) ?_
  refine lv_bipush (v := 57) (pc := 6) C0.1 C0.2.1 dX7_isDigit_6 (by decide) ?_
  obtain ⟨q2, hq2, hf⟩ := bd_e hf
  refine x_backp (pc := 8) hw (x_runS (pc := 8) (As := [.int q1, .int 48, .int 57]) (rest := []) C0 hK hw hl.1 ⟨Nat.zero_le _, Nat.zero_le _⟩ (kX7_in l D y ad hI q1 48 57 u hq2) rfl wc_X7_in wm_X7_43 wt_X7_in wn_X7 ⟨rfl, rfl⟩ hd_X7_in rfl ⟨Nat.le_of_ble_eq_true rfl, Nat.le_of_ble_eq_true rfl⟩ (Nat.le_of_ble_eq_true rfl) dX7_isDigit_8) (fun H locs hw => ?_)
  obtain ⟨hz, hf⟩ := gd_e hf
  exact x_zret (pc := 11) C0 hK hk hr hw hz (congrArg (fun z => (z, u)) (Option.some.inj hf)) dX7_isDigit_11
def wX7_fails : List Cond := .code yX7_fails cX7_fails 3 (some .boolean) :: lwT
def rX7_fails : Room := { frames := 0, cells := 0, slots := 0, locals := 0 }
set_option maxRecDepth 100000 in
set_option maxHeartbeats 4000000 in
theorem kX7_fails (l : Launch) (D : va_G) (y : Nat → ClassId) (ad : Nat → Nat) (hI : XI ad 8) (v1 : Int32) (v2 : Int32) (u : S) {o : Int32 × S} (hf : fX7_fails v1 v2 u = some o) : Met l yX7_fails wX7_fails rX7_fails (va_Pc [.ref (ad 0), .int v1, .int v2] (XW D y ad LM 8 u)) (XQi D y ad LM 8 o) 0 0 (XA ad 8) := by
  refine x_met (bytes := cX7_fails) (maxL := 3) (ret := (some .boolean)) (own := RX7) (by decide) rfl rfl (Nat.le_of_ble_eq_true rfl) (fun p e s m below meth c ls C0 hK hk hr hw hl => ?_)
  have hl : lv_has ls 3 [(0, .ref (ad 0)), (1, .int v1), (2, .int v2)] := hl
  unfold fX7_fails at hf
  refine lv_aload_n (pc := 0) C0.1 C0.2.1 dX7_fails_0 rfl (lv_at hl 0 rfl) ?_
  refine lv_iload_n (pc := 1) C0.1 C0.2.1 dX7_fails_1 rfl (lv_at hl 1 rfl) ?_
  obtain ⟨u1, hu, hf⟩ := nm_f hf
  refine x_put (pc := 2) hI C0 hK hw (by decide) ly_m0 rfl inX7 tyX7_ok nmX7 7 (by decide) wf_X7_139 rfl rfl rfl hu rfl rfl dX7_fails_2 (fun H locs hw => ?_)
  refine lv_aload_n (pc := 5) C0.1 C0.2.1 dX7_fails_5 rfl (lv_at hl 0 rfl) ?_
  refine lv_iload_n (pc := 6) C0.1 C0.2.1 dX7_fails_6 rfl (lv_at hl 2 rfl) ?_
  obtain ⟨u2, hu, hf⟩ := nm_f hf
  refine x_put (pc := 7) hI C0 hK hw (by decide) ly_m0 rfl inX7 tyX7_ok nmX7 8 (by decide) wf_X7_141 rfl rfl rfl hu rfl rfl dX7_fails_7 (fun H locs hw => ?_)
  refine lv_iconst (v := 0) (pc := 10) C0.1 C0.2.1 dX7_fails_10 (by decide) ?_
  exact x_zret (pc := 11) C0 hK hk hr hw rfl (Option.some.inj hf) dX7_fails_11
def wX7_takes : List Cond := .code yX7_takes cX7_takes 2 (some .boolean) :: lwT
def rX7_takes : Room := { frames := 1, cells := 0, slots := 0, locals := 22 }
set_option maxRecDepth 100000 in
set_option maxHeartbeats 4000000 in
theorem kX7_takes (l : Launch) (D : va_G) (y : Nat → ClassId) (ad : Nat → Nat) (hI : XI ad 8) (v1 : Int32) (u : S) {o : Int32 × S} (hf : fX7_takes v1 u = some o) : Met l yX7_takes wX7_takes rX7_takes (va_Pc [.ref (ad 0), .int v1] (XW D y ad LM 8 u)) (XQi D y ad LM 8 o) 0 0 (XA ad 8) := by
  refine x_met (bytes := cX7_takes) (maxL := 2) (ret := (some .boolean)) (own := RX7) (by decide) rfl rfl (Nat.le_of_ble_eq_true rfl) (fun p e s m below meth c ls C0 hK hk hr hw hl => ?_)
  have hl : lv_has ls 2 [(0, .ref (ad 0)), (1, .int v1)] := hl
  unfold fX7_takes at hf
  refine lv_aload_n (pc := 0) C0.1 C0.2.1 dX7_takes_0 rfl (lv_at hl 0 rfl) ?_
  obtain ⟨q1, hq1, hf⟩ := bd_e hf
  refine x_backp (pc := 1) hw (x_runV (pc := 1) (As := []) (rest := []) C0 hK hw hl.1 ⟨Nat.zero_le _, Nat.zero_le _⟩ (kX7_here l D y ad hI  u hq1) (by decide) ly_m0 rfl rfl wc_X7_here wm_X7_136 wi_X7_here ws_X7_here wn_X7 ⟨rfl, rfl⟩ hd_X7_here rfl ⟨Nat.le_of_ble_eq_true rfl, Nat.le_of_ble_eq_true rfl⟩ (Nat.le_of_ble_eq_true rfl) dX7_takes_1) (fun H locs hw => ?_)
  refine lv_iload_n (pc := 4) C0.1 C0.2.1 dX7_takes_4 rfl (lv_at hl 1 rfl) ?_
  refine lv_icmp_eq (tgt := 18) (pc := 5) C0.1 C0.2.1 dX7_takes_5 (by decide) (fun hc => ?_) (fun hc => ?_)
  · have hf := if_t hf hc
    refine lv_aload_n (pc := 18) C0.1 C0.2.1 dX7_takes_18 rfl (lv_at hl 0 rfl) ?_
    refine lv_dup (pc := 19) C0.1 C0.2.1 dX7_takes_19 rfl ?_
    refine x_get (pc := 20) (v := .int (u.1 0 9)) C0 hK hw (by decide) ly_m0 rfl inX7 9 (by decide) wf_X7_133 rfl rfl dX7_takes_20 ?_
    refine lv_iconst (v := 1) (pc := 23) C0.1 C0.2.1 dX7_takes_23 (by decide) ?_
    refine lv_iadd (pc := 24) C0.1 C0.2.1 dX7_takes_24 ?_
    obtain ⟨u2, hu, hf⟩ := nm_f hf
    refine x_put (pc := 25) hI C0 hK hw (by decide) ly_m0 rfl inX7 tyX7_ok nmX7 9 (by decide) wf_X7_133 rfl rfl rfl hu rfl rfl dX7_takes_25 (fun H locs hw => ?_)
    refine lv_iconst (v := 1) (pc := 28) C0.1 C0.2.1 dX7_takes_28 (by decide) ?_
    exact x_zret (pc := 29) C0 hK hk hr hw rfl (Option.some.inj hf) dX7_takes_29
  · have hf := if_f hf hc
    refine lv_aload_n (pc := 8) C0.1 C0.2.1 dX7_takes_8 rfl (lv_at hl 0 rfl) ?_
    refine lv_iconst (v := 1) (pc := 9) C0.1 C0.2.1 dX7_takes_9 (by decide) ?_
    refine lv_aload_n (pc := 10) C0.1 C0.2.1 dX7_takes_10 rfl (lv_at hl 0 rfl) ?_
    refine x_get (pc := 11) (v := .int (u.1 0 9)) C0 hK hw (by decide) ly_m0 rfl inX7 9 (by decide) wf_X7_133 rfl rfl dX7_takes_11 ?_
    obtain ⟨q3, hq3, hf⟩ := bd_e hf
    refine x_back (pc := 14) hw (x_runV (pc := 14) (As := [.int 1, .int (u.1 0 9)]) (rest := []) C0 hK hw hl.1 ⟨Nat.zero_le _, Nat.zero_le _⟩ (kX7_fails l D y ad hI 1 (u.1 0 9) u hq3) (by decide) ly_m0 rfl rfl wc_X7_fails wm_X7_144 wi_X7_fails ws_X7_fails wn_X7 ⟨rfl, rfl⟩ hd_X7_fails rfl ⟨Nat.le_of_ble_eq_true rfl, Nat.le_of_ble_eq_true rfl⟩ (Nat.le_of_ble_eq_true rfl) dX7_takes_14) (fun H locs hw => ?_)
    obtain ⟨hz, hf⟩ := gd_e hf
    exact x_zret (pc := 17) C0 hK hk hr hw hz (Option.some.inj hf) dX7_takes_17
def wX7_readsNumber : List Cond := .code yX7_readsNumber cX7_readsNumber 5 (some .boolean) :: lwT
def rX7_readsNumber : Room := { frames := 2, cells := 0, slots := 0, locals := 42 }
set_option maxRecDepth 100000 in
set_option maxHeartbeats 4000000 in
theorem kX7_readsNumber (l : Launch) (D : va_G) (y : Nat → ClassId) (ad : Nat → Nat) (hI : XI ad 8) (v1 : Int32) (v2 : Int32) (v3 : Int32) (u : S) {o : Int32 × S} (hf : fX7_readsNumber v1 v2 v3 u = some o) : Met l yX7_readsNumber wX7_readsNumber rX7_readsNumber (va_Pc [.ref (ad 0), .int v1, .int v2, .int v3] (XW D y ad LM 8 u)) (XQi D y ad LM 8 o) 0 0 (XA ad 8) := by
  refine x_met (bytes := cX7_readsNumber) (maxL := 5) (ret := (some .boolean)) (own := RX7) (by decide) rfl rfl (Nat.le_of_ble_eq_true rfl) (fun p e s m below meth c ls C0 hK hk hr hw hl => ?_)
  have hl : lv_has ls 5 [(0, .ref (ad 0)), (1, .int v1), (2, .int v2), (3, .int v3)] := hl
  unfold fX7_readsNumber at hf
  refine lv_aload_n (pc := 0) C0.1 C0.2.1 dX7_readsNumber_0 rfl (lv_at hl 0 rfl) ?_
  refine x_get (pc := 1) (v := .int (u.1 0 9)) C0 hK hw (by decide) ly_m0 rfl inX7 9 (by decide) wf_X7_133 rfl rfl dX7_readsNumber_1 ?_
  refine lv_istore (pc := 4) (lv' := [(4, .int (u.1 0 9)), (0, .ref (ad 0)), (1, .int v1), (2, .int v2), (3, .int v3)]) C0.1 C0.2.1 dX7_readsNumber_4 hl (by decide) rfl (fun ls hl => ?_)
  refine lv_aload_n (pc := 6) C0.1 C0.2.1 dX7_readsNumber_6 rfl (lv_at hl 1 rfl) ?_
  refine lv_iconst (v := 0) (pc := 7) C0.1 C0.2.1 dX7_readsNumber_7 (by decide) ?_
  obtain ⟨u1, hu, hf⟩ := nm_f hf
  refine x_put (pc := 8) hI C0 hK hw (by decide) ly_m0 rfl inX7 tyX7_ok nmX7 10 (by decide) wf_X7_147 rfl rfl rfl hu rfl rfl dX7_readsNumber_8 (fun H locs hw => ?_)
  obtain ⟨e2, he2, hf⟩ := bd_e hf
  refine X_loop (pc := 11) (xpc := 61) (fu := fun a1 => a1) (fl := fun a1 => [(4, .int (u.1 0 9)), (0, .ref (ad 0)), (1, .int v1), (2, .int v2), (3, .int v3)]) (fun a1 r hf hE hG H locs ls hw hl => ?_) he2 (fun H locs ls hw hl => ?_) hw hl
  · unfold gX7_readsNumber_11 at hf
    refine lv_aload_n (pc := 11) C0.1 C0.2.1 dX7_readsNumber_11 rfl (lv_at hl 1 rfl) ?_
    obtain ⟨q3, hq3, hf⟩ := bd_e hf
    refine x_backp (pc := 12) hw (x_runV (pc := 12) (As := []) (rest := []) C0 hK hw hl.1 ⟨Nat.zero_le _, Nat.zero_le _⟩ (kX7_isDigit l D y ad hI  a1 hq3) (by decide) ly_m0 rfl rfl wc_X7_isDigit wm_X7_150 wi_X7_isDigit ws_X7_isDigit wn_X7 ⟨rfl, rfl⟩ hd_X7_isDigit rfl ⟨Nat.le_of_ble_eq_true rfl, Nat.le_of_ble_eq_true rfl⟩ (Nat.le_of_ble_eq_true rfl) dX7_readsNumber_12) (fun H locs hw => ?_)
    refine lv_if_eq (tgt := 61) (pc := 15) C0.1 C0.2.1 dX7_readsNumber_15 (by decide) (fun hc => ?_) (fun hc => ?_)
    · have hf := if_t hf hc
      exact hE _ (Option.some.inj hf).symm H locs ls hw (lv_sub hl [0, 1, 2, 3, 4] rfl)
    · have hf := if_f hf hc
      refine lv_aload_n (pc := 18) C0.1 C0.2.1 dX7_readsNumber_18 rfl (lv_at hl 1 rfl) ?_
      refine x_get (pc := 19) (v := .int (a1.1 0 9)) C0 hK hw (by decide) ly_m0 rfl inX7 9 (by decide) wf_X7_133 rfl rfl dX7_readsNumber_19 ?_
      refine lv_iload (pc := 22) C0.1 C0.2.1 dX7_readsNumber_22 (lv_at hl 0 rfl) ?_
      refine lv_iload_n (pc := 24) C0.1 C0.2.1 dX7_readsNumber_24 rfl (lv_at hl 2 rfl) ?_
      refine lv_iadd (pc := 25) C0.1 C0.2.1 dX7_readsNumber_25 ?_
      refine lv_icmp_ge (tgt := 61) (pc := 26) C0.1 C0.2.1 dX7_readsNumber_26 (by decide) (fun hc => ?_) (fun hc => ?_)
      · have hf := if_t hf hc
        exact hE _ (Option.some.inj hf).symm H locs ls hw (lv_sub hl [0, 1, 2, 3, 4] rfl)
      · have hf := if_f hf hc
        refine lv_aload_n (pc := 29) C0.1 C0.2.1 dX7_readsNumber_29 rfl (lv_at hl 1 rfl) ?_
        refine lv_bipush (v := 10) (pc := 30) C0.1 C0.2.1 dX7_readsNumber_30 (by decide) ?_
        refine lv_aload_n (pc := 32) C0.1 C0.2.1 dX7_readsNumber_32 rfl (lv_at hl 1 rfl) ?_
        refine x_get (pc := 33) (v := .int (a1.1 0 10)) C0 hK hw (by decide) ly_m0 rfl inX7 10 (by decide) wf_X7_147 rfl rfl dX7_readsNumber_33 ?_
        refine lv_imul (pc := 36) C0.1 C0.2.1 dX7_readsNumber_36 ?_
        refine lv_aload_n (pc := 37) C0.1 C0.2.1 dX7_readsNumber_37 rfl (lv_at hl 1 rfl) ?_
        obtain ⟨q4, hq4, hf⟩ := bd_e hf
        refine x_backp (pc := 38) hw (x_runV (pc := 38) (As := []) (rest := [.int (10 * (a1.1 0 10)), .ref (ad 0)]) C0 hK hw hl.1 ⟨Nat.zero_le _, Nat.zero_le _⟩ (kX7_here l D y ad hI  a1 hq4) (by decide) ly_m0 rfl rfl wc_X7_here wm_X7_136 wi_X7_here ws_X7_here wn_X7 ⟨rfl, rfl⟩ hd_X7_here rfl ⟨Nat.le_of_ble_eq_true rfl, Nat.le_of_ble_eq_true rfl⟩ (Nat.le_of_ble_eq_true rfl) dX7_readsNumber_38) (fun H locs hw => ?_)
        refine lv_iadd (pc := 41) C0.1 C0.2.1 dX7_readsNumber_41 ?_
        refine lv_bipush (v := 48) (pc := 42) C0.1 C0.2.1 dX7_readsNumber_42 (by decide) ?_
        refine lv_isub (pc := 44) C0.1 C0.2.1 dX7_readsNumber_44 ?_
        obtain ⟨u5, hu, hf⟩ := nm_f hf
        refine x_put (pc := 45) hI C0 hK hw (by decide) ly_m0 rfl inX7 tyX7_ok nmX7 10 (by decide) wf_X7_147 rfl rfl rfl hu rfl rfl dX7_readsNumber_45 (fun H locs hw => ?_)
        refine lv_aload_n (pc := 48) C0.1 C0.2.1 dX7_readsNumber_48 rfl (lv_at hl 1 rfl) ?_
        refine lv_dup (pc := 49) C0.1 C0.2.1 dX7_readsNumber_49 rfl ?_
        refine x_get (pc := 50) (v := .int (u5.1 0 9)) C0 hK hw (by decide) ly_m0 rfl inX7 9 (by decide) wf_X7_133 rfl rfl dX7_readsNumber_50 ?_
        refine lv_iconst (v := 1) (pc := 53) C0.1 C0.2.1 dX7_readsNumber_53 (by decide) ?_
        refine lv_iadd (pc := 54) C0.1 C0.2.1 dX7_readsNumber_54 ?_
        obtain ⟨u6, hu, hf⟩ := nm_f hf
        refine x_put (pc := 55) hI C0 hK hw (by decide) ly_m0 rfl inX7 tyX7_ok nmX7 9 (by decide) wf_X7_133 rfl rfl rfl hu rfl rfl dX7_readsNumber_55 (fun H locs hw => ?_)
        refine lv_goto (tgt := 11) (pc := 58) C0.1 C0.2.1 dX7_readsNumber_58 (by decide) ?_
        exact hG _ (Option.some.inj hf).symm H locs ls hw (lv_sub hl [0, 1, 2, 3, 4] rfl)
  · skip
    refine lv_aload_n (pc := 61) C0.1 C0.2.1 dX7_readsNumber_61 rfl (lv_at hl 1 rfl) ?_
    refine x_get (pc := 62) (v := .int (e2.1 0 9)) C0 hK hw (by decide) ly_m0 rfl inX7 9 (by decide) wf_X7_133 rfl rfl dX7_readsNumber_62 ?_
    refine lv_iload (pc := 65) C0.1 C0.2.1 dX7_readsNumber_65 (lv_at hl 0 rfl) ?_
    refine lv_icmp_eq (tgt := 77) (pc := 67) C0.1 C0.2.1 dX7_readsNumber_67 (by decide) (fun hc => ?_) (fun hc => ?_)
    · have hf := if_t hf hc
      refine lv_aload_n (pc := 77) C0.1 C0.2.1 dX7_readsNumber_77 rfl (lv_at hl 1 rfl) ?_
      refine lv_iconst (v := 1) (pc := 78) C0.1 C0.2.1 dX7_readsNumber_78 (by decide) ?_
      refine lv_aload_n (pc := 79) C0.1 C0.2.1 dX7_readsNumber_79 rfl (lv_at hl 1 rfl) ?_
      refine x_get (pc := 80) (v := .int (e2.1 0 9)) C0 hK hw (by decide) ly_m0 rfl inX7 9 (by decide) wf_X7_133 rfl rfl dX7_readsNumber_80 ?_
      obtain ⟨q7, hq7, hf⟩ := bd_e hf
      refine x_back (pc := 83) hw (x_runV (pc := 83) (As := [.int 1, .int (e2.1 0 9)]) (rest := []) C0 hK hw hl.1 ⟨Nat.zero_le _, Nat.zero_le _⟩ (kX7_fails l D y ad hI 1 (e2.1 0 9) e2 hq7) (by decide) ly_m0 rfl rfl wc_X7_fails wm_X7_144 wi_X7_fails ws_X7_fails wn_X7 ⟨rfl, rfl⟩ hd_X7_fails rfl ⟨Nat.le_of_ble_eq_true rfl, Nat.le_of_ble_eq_true rfl⟩ (Nat.le_of_ble_eq_true rfl) dX7_readsNumber_83) (fun H locs hw => ?_)
      obtain ⟨hz, hf⟩ := gd_e hf
      exact x_zret (pc := 86) C0 hK hk hr hw hz (Option.some.inj hf) dX7_readsNumber_86
    · have hf := if_f hf hc
      refine lv_aload_n (pc := 70) C0.1 C0.2.1 dX7_readsNumber_70 rfl (lv_at hl 1 rfl) ?_
      obtain ⟨q8, hq8, hf⟩ := bd_e hf
      refine x_backp (pc := 71) hw (x_runV (pc := 71) (As := []) (rest := []) C0 hK hw hl.1 ⟨Nat.zero_le _, Nat.zero_le _⟩ (kX7_isDigit l D y ad hI  e2 hq8) (by decide) ly_m0 rfl rfl wc_X7_isDigit wm_X7_150 wi_X7_isDigit ws_X7_isDigit wn_X7 ⟨rfl, rfl⟩ hd_X7_isDigit rfl ⟨Nat.le_of_ble_eq_true rfl, Nat.le_of_ble_eq_true rfl⟩ (Nat.le_of_ble_eq_true rfl) dX7_readsNumber_71) (fun H locs hw => ?_)
      refine lv_if_eq (tgt := 87) (pc := 74) C0.1 C0.2.1 dX7_readsNumber_74 (by decide) (fun hc => ?_) (fun hc => ?_)
      · have hf := if_t hf hc
        refine lv_aload_n (pc := 87) C0.1 C0.2.1 dX7_readsNumber_87 rfl (lv_at hl 1 rfl) ?_
        refine x_get (pc := 88) (v := .int (e2.1 0 10)) C0 hK hw (by decide) ly_m0 rfl inX7 10 (by decide) wf_X7_147 rfl rfl dX7_readsNumber_88 ?_
        refine lv_iload_n (pc := 91) C0.1 C0.2.1 dX7_readsNumber_91 rfl (lv_at hl 3 rfl) ?_
        refine lv_iload_n (pc := 92) C0.1 C0.2.1 dX7_readsNumber_92 rfl (lv_at hl 4 rfl) ?_
        obtain ⟨q9, hq9, hf⟩ := bd_e hf
        refine x_backp (pc := 93) hw (x_runS (pc := 93) (As := [.int (e2.1 0 10), .int v2, .int v3]) (rest := []) C0 hK hw hl.1 ⟨Nat.zero_le _, Nat.zero_le _⟩ (kX7_in l D y ad hI (e2.1 0 10) v2 v3 e2 hq9) rfl wc_X7_in wm_X7_43 wt_X7_in wn_X7 ⟨rfl, rfl⟩ hd_X7_in rfl ⟨Nat.le_of_ble_eq_true rfl, Nat.le_of_ble_eq_true rfl⟩ (Nat.le_of_ble_eq_true rfl) dX7_readsNumber_93) (fun H locs hw => ?_)
        refine lv_if_ne (tgt := 109) (pc := 96) C0.1 C0.2.1 dX7_readsNumber_96 (by decide) (fun hc => ?_) (fun hc => ?_)
        · have hf := if_f hf hc
          refine lv_iconst (v := 1) (pc := 109) C0.1 C0.2.1 dX7_readsNumber_109 (by decide) ?_
          refine lv_goto (tgt := 114) (pc := 110) C0.1 C0.2.1 dX7_readsNumber_110 (by decide) ?_
          exact x_zret (pc := 114) C0 hK hk hr hw rfl (Option.some.inj hf) dX7_readsNumber_114
        · have hf := if_t hf hc
          refine lv_aload_n (pc := 99) C0.1 C0.2.1 dX7_readsNumber_99 rfl (lv_at hl 1 rfl) ?_
          refine lv_iconst (v := 2) (pc := 100) C0.1 C0.2.1 dX7_readsNumber_100 (by decide) ?_
          refine lv_iload (pc := 101) C0.1 C0.2.1 dX7_readsNumber_101 (lv_at hl 0 rfl) ?_
          obtain ⟨q10, hq10, hf⟩ := bd_e hf
          refine x_back (pc := 103) hw (x_runV (pc := 103) (As := [.int 2, .int (u.1 0 9)]) (rest := []) C0 hK hw hl.1 ⟨Nat.zero_le _, Nat.zero_le _⟩ (kX7_fails l D y ad hI 2 (u.1 0 9) e2 hq10) (by decide) ly_m0 rfl rfl wc_X7_fails wm_X7_144 wi_X7_fails ws_X7_fails wn_X7 ⟨rfl, rfl⟩ hd_X7_fails rfl ⟨Nat.le_of_ble_eq_true rfl, Nat.le_of_ble_eq_true rfl⟩ (Nat.le_of_ble_eq_true rfl) dX7_readsNumber_103) (fun H locs hw => ?_)
          refine lv_if_eq (tgt := 113) (pc := 106) C0.1 C0.2.1 dX7_readsNumber_106 (by decide) (fun hc => ?_) (fun hc => ?_)
          · have hf := if_t hf hc
            refine lv_iconst (v := 0) (pc := 113) C0.1 C0.2.1 dX7_readsNumber_113 (by decide) ?_
            exact x_zret (pc := 114) C0 hK hk hr hw rfl (Option.some.inj hf) dX7_readsNumber_114
          · have hf := if_f hf hc
            refine lv_iconst (v := 1) (pc := 109) C0.1 C0.2.1 dX7_readsNumber_109 (by decide) ?_
            refine lv_goto (tgt := 114) (pc := 110) C0.1 C0.2.1 dX7_readsNumber_110 (by decide) ?_
            exact x_zret (pc := 114) C0 hK hk hr hw rfl (Option.some.inj hf) dX7_readsNumber_114
      · have hf := if_f hf hc
        refine lv_aload_n (pc := 77) C0.1 C0.2.1 dX7_readsNumber_77 rfl (lv_at hl 1 rfl) ?_
        refine lv_iconst (v := 1) (pc := 78) C0.1 C0.2.1 dX7_readsNumber_78 (by decide) ?_
        refine lv_aload_n (pc := 79) C0.1 C0.2.1 dX7_readsNumber_79 rfl (lv_at hl 1 rfl) ?_
        refine x_get (pc := 80) (v := .int (e2.1 0 9)) C0 hK hw (by decide) ly_m0 rfl inX7 9 (by decide) wf_X7_133 rfl rfl dX7_readsNumber_80 ?_
        obtain ⟨q11, hq11, hf⟩ := bd_e hf
        refine x_back (pc := 83) hw (x_runV (pc := 83) (As := [.int 1, .int (e2.1 0 9)]) (rest := []) C0 hK hw hl.1 ⟨Nat.zero_le _, Nat.zero_le _⟩ (kX7_fails l D y ad hI 1 (e2.1 0 9) e2 hq11) (by decide) ly_m0 rfl rfl wc_X7_fails wm_X7_144 wi_X7_fails ws_X7_fails wn_X7 ⟨rfl, rfl⟩ hd_X7_fails rfl ⟨Nat.le_of_ble_eq_true rfl, Nat.le_of_ble_eq_true rfl⟩ (Nat.le_of_ble_eq_true rfl) dX7_readsNumber_83) (fun H locs hw => ?_)
        obtain ⟨hz, hf⟩ := gd_e hf
        exact x_zret (pc := 86) C0 hK hk hr hw hz (Option.some.inj hf) dX7_readsNumber_86
def wX7_readsInto : List Cond := .code yX7_readsInto cX7_readsInto 5 (some .boolean) :: lwT
def rX7_readsInto : Room := { frames := 3, cells := 0, slots := 0, locals := 66 }
set_option maxRecDepth 100000 in
set_option maxHeartbeats 4000000 in
theorem kX7_readsInto (l : Launch) (D : va_G) (y : Nat → ClassId) (ad : Nat → Nat) (hI : XI ad 8) (v1 : Int32) (v2 : Int32) (v3 : Int32) (u : S) {o : Int32 × S} (hf : fX7_readsInto v1 v2 v3 u = some o) : Met l yX7_readsInto wX7_readsInto rX7_readsInto (va_Pc [.ref (ad 0), .int v1, .int v2, .int v3] (XW D y ad LM 8 u)) (XQi D y ad LM 8 o) 0 0 (XA ad 8) := by
  refine x_met (bytes := cX7_readsInto) (maxL := 5) (ret := (some .boolean)) (own := RX7) (by decide) rfl rfl (Nat.le_of_ble_eq_true rfl) (fun p e s m below meth c ls C0 hK hk hr hw hl => ?_)
  have hl : lv_has ls 5 [(0, .ref (ad 0)), (1, .int v1), (2, .int v2), (3, .int v3)] := hl
  unfold fX7_readsInto at hf
  refine lv_aload_n (pc := 0) C0.1 C0.2.1 dX7_readsInto_0 rfl (lv_at hl 0 rfl) ?_
  refine lv_iconst (v := 2) (pc := 1) C0.1 C0.2.1 dX7_readsInto_1 (by decide) ?_
  refine lv_iconst (v := 1) (pc := 2) C0.1 C0.2.1 dX7_readsInto_2 (by decide) ?_
  refine lv_iload_n (pc := 3) C0.1 C0.2.1 dX7_readsInto_3 rfl (lv_at hl 3 rfl) ?_
  obtain ⟨q1, hq1, hf⟩ := bd_e hf
  refine x_back (pc := 4) hw (x_runV (pc := 4) (As := [.int 2, .int 1, .int v3]) (rest := []) C0 hK hw hl.1 ⟨Nat.zero_le _, Nat.zero_le _⟩ (kX7_readsNumber l D y ad hI 2 1 v3 u hq1) (by decide) ly_m0 rfl rfl wc_X7_readsNumber wm_X7_154 wi_X7_readsNumber ws_X7_readsNumber wn_X7 ⟨rfl, rfl⟩ hd_X7_readsNumber rfl ⟨Nat.le_of_ble_eq_true rfl, Nat.le_of_ble_eq_true rfl⟩ (Nat.le_of_ble_eq_true rfl) dX7_readsInto_4) (fun H locs hw => ?_)
  refine lv_istore (pc := 7) (lv' := [(4, .int q1.1), (0, .ref (ad 0)), (1, .int v1), (2, .int v2), (3, .int v3)]) C0.1 C0.2.1 dX7_readsInto_7 hl (by decide) rfl (fun ls hl => ?_)
  refine lv_aload_n (pc := 9) C0.1 C0.2.1 dX7_readsInto_9 rfl (lv_at hl 1 rfl) ?_
  refine lv_iload_n (pc := 10) C0.1 C0.2.1 dX7_readsInto_10 rfl (lv_at hl 2 rfl) ?_
  refine lv_iload_n (pc := 11) C0.1 C0.2.1 dX7_readsInto_11 rfl (lv_at hl 3 rfl) ?_
  refine lv_aload_n (pc := 12) C0.1 C0.2.1 dX7_readsInto_12 rfl (lv_at hl 1 rfl) ?_
  refine x_get (pc := 13) (v := .int (q1.2.1 0 10)) C0 hK hw (by decide) ly_m0 rfl inX7 10 (by decide) wf_X7_147 rfl rfl dX7_readsInto_13 ?_
  obtain ⟨q2, hq2, hf⟩ := bd_e hf
  refine x_backv (pc := 16) hw (x_runV (pc := 16) (As := [.int v1, .int v2, .int (q1.2.1 0 10)]) (rest := []) C0 hK hw hl.1 ⟨Nat.zero_le _, Nat.zero_le _⟩ (kX7_sets l D y ad hI v1 v2 (q1.2.1 0 10) q1.2 hq2) (by decide) ly_m0 rfl rfl wc_X7_sets wm_X7_63 wi_X7_sets ws_X7_sets wn_X7 ⟨rfl, rfl⟩ hd_X7_sets rfl ⟨Nat.le_of_ble_eq_true rfl, Nat.le_of_ble_eq_true rfl⟩ (Nat.le_of_ble_eq_true rfl) dX7_readsInto_16) (fun H locs hw => ?_)
  refine lv_iload (pc := 19) C0.1 C0.2.1 dX7_readsInto_19 (lv_at hl 0 rfl) ?_
  obtain ⟨hz, hf⟩ := gd_e hf
  exact x_zret (pc := 21) C0 hK hk hr hw hz (Option.some.inj hf) dX7_readsInto_21
def wX7_readsTray : List Cond := .code yX7_readsTray cX7_readsTray 2 (some .boolean) :: lwT
def rX7_readsTray : Room := { frames := 4, cells := 0, slots := 0, locals := 90 }
set_option maxRecDepth 100000 in
set_option maxHeartbeats 4000000 in
theorem kX7_readsTray (l : Launch) (D : va_G) (y : Nat → ClassId) (ad : Nat → Nat) (hI : XI ad 8)  (u : S) {o : Int32 × S} (hf : fX7_readsTray  u = some o) : Met l yX7_readsTray wX7_readsTray rX7_readsTray (va_Pc [.ref (ad 0)] (XW D y ad LM 8 u)) (XQi D y ad LM 8 o) 0 0 (XA ad 8) := by
  refine x_met (bytes := cX7_readsTray) (maxL := 2) (ret := (some .boolean)) (own := RX7) (by decide) rfl rfl (Nat.le_of_ble_eq_true rfl) (fun p e s m below meth c ls C0 hK hk hr hw hl => ?_)
  have hl : lv_has ls 2 [(0, .ref (ad 0))] := hl
  unfold fX7_readsTray at hf
  refine lv_aload_n (pc := 0) C0.1 C0.2.1 dX7_readsTray_0 rfl (lv_at hl 0 rfl) ?_
  obtain ⟨q1, hq1, hf⟩ := bd_e hf
  refine x_backp (pc := 1) hw (x_runV (pc := 1) (As := []) (rest := []) C0 hK hw hl.1 ⟨Nat.zero_le _, Nat.zero_le _⟩ (kX7_trays l D y ad hI  u hq1) (by decide) ly_m0 rfl rfl wc_X7_trays wm_X7_39 wi_X7_trays ws_X7_trays wn_X7 ⟨rfl, rfl⟩ hd_X7_trays rfl ⟨Nat.le_of_ble_eq_true rfl, Nat.le_of_ble_eq_true rfl⟩ (Nat.le_of_ble_eq_true rfl) dX7_readsTray_1) (fun H locs hw => ?_)
  refine lv_istore_n (pc := 4) (lv' := [(1, .int q1), (0, .ref (ad 0))]) C0.1 C0.2.1 dX7_readsTray_4 rfl hl (by decide) rfl (fun ls hl => ?_)
  refine lv_iload_n (pc := 5) C0.1 C0.2.1 dX7_readsTray_5 rfl (lv_at hl 0 rfl) ?_
  refine lv_bipush (v := 12) (pc := 6) C0.1 C0.2.1 dX7_readsTray_6 (by decide) ?_
  refine lv_icmp_ne (tgt := 40) (pc := 8) C0.1 C0.2.1 dX7_readsTray_8 (by decide) (fun hc => ?_) (fun hc => ?_)
  · have hf := if_f hf hc
    refine lv_aload_n (pc := 40) C0.1 C0.2.1 dX7_readsTray_40 rfl (lv_at hl 1 rfl) ?_
    refine lv_iload_n (pc := 41) C0.1 C0.2.1 dX7_readsTray_41 rfl (lv_at hl 0 rfl) ?_
    obtain ⟨q2, hq2, hf⟩ := bd_e hf
    refine x_backv (pc := 42) hw (x_runV (pc := 42) (As := [.int q1]) (rest := []) C0 hK hw hl.1 ⟨Nat.zero_le _, Nat.zero_le _⟩ (kX7_leaves l D y ad hI q1 u hq2) (by decide) ly_m0 rfl rfl wc_X7_leaves wm_X7_67 wi_X7_leaves ws_X7_leaves wn_X7 ⟨rfl, rfl⟩ hd_X7_leaves rfl ⟨Nat.le_of_ble_eq_true rfl, Nat.le_of_ble_eq_true rfl⟩ (Nat.le_of_ble_eq_true rfl) dX7_readsTray_42) (fun H locs hw => ?_)
    refine lv_aload_n (pc := 45) C0.1 C0.2.1 dX7_readsTray_45 rfl (lv_at hl 1 rfl) ?_
    refine lv_iload_n (pc := 46) C0.1 C0.2.1 dX7_readsTray_46 rfl (lv_at hl 0 rfl) ?_
    refine lv_iconst (v := 3) (pc := 47) C0.1 C0.2.1 dX7_readsTray_47 (by decide) ?_
    refine lv_iconst (v := 0) (pc := 48) C0.1 C0.2.1 dX7_readsTray_48 (by decide) ?_
    obtain ⟨q3, hq3, hf⟩ := bd_e hf
    refine x_backv (pc := 49) hw (x_runV (pc := 49) (As := [.int q1, .int 3, .int 0]) (rest := []) C0 hK hw hl.1 ⟨Nat.zero_le _, Nat.zero_le _⟩ (kX7_sets l D y ad hI q1 3 0 q2 hq3) (by decide) ly_m0 rfl rfl wc_X7_sets wm_X7_63 wi_X7_sets ws_X7_sets wn_X7 ⟨rfl, rfl⟩ hd_X7_sets rfl ⟨Nat.le_of_ble_eq_true rfl, Nat.le_of_ble_eq_true rfl⟩ (Nat.le_of_ble_eq_true rfl) dX7_readsTray_49) (fun H locs hw => ?_)
    refine lv_aload_n (pc := 52) C0.1 C0.2.1 dX7_readsTray_52 rfl (lv_at hl 1 rfl) ?_
    refine lv_iload_n (pc := 53) C0.1 C0.2.1 dX7_readsTray_53 rfl (lv_at hl 0 rfl) ?_
    refine lv_iconst (v := 4) (pc := 54) C0.1 C0.2.1 dX7_readsTray_54 (by decide) ?_
    refine lv_iconst (v := 0) (pc := 55) C0.1 C0.2.1 dX7_readsTray_55 (by decide) ?_
    obtain ⟨q4, hq4, hf⟩ := bd_e hf
    refine x_backv (pc := 56) hw (x_runV (pc := 56) (As := [.int q1, .int 4, .int 0]) (rest := []) C0 hK hw hl.1 ⟨Nat.zero_le _, Nat.zero_le _⟩ (kX7_sets l D y ad hI q1 4 0 q3 hq4) (by decide) ly_m0 rfl rfl wc_X7_sets wm_X7_63 wi_X7_sets ws_X7_sets wn_X7 ⟨rfl, rfl⟩ hd_X7_sets rfl ⟨Nat.le_of_ble_eq_true rfl, Nat.le_of_ble_eq_true rfl⟩ (Nat.le_of_ble_eq_true rfl) dX7_readsTray_56) (fun H locs hw => ?_)
    refine lv_aload_n (pc := 59) C0.1 C0.2.1 dX7_readsTray_59 rfl (lv_at hl 1 rfl) ?_
    refine lv_iload_n (pc := 60) C0.1 C0.2.1 dX7_readsTray_60 rfl (lv_at hl 0 rfl) ?_
    refine lv_iconst (v := 0) (pc := 61) C0.1 C0.2.1 dX7_readsTray_61 (by decide) ?_
    refine lv_bipush (v := 10) (pc := 62) C0.1 C0.2.1 dX7_readsTray_62 (by decide) ?_
    obtain ⟨q5, hq5, hf⟩ := bd_e hf
    refine x_back (pc := 64) hw (x_runV (pc := 64) (As := [.int q1, .int 0, .int 10]) (rest := []) C0 hK hw hl.1 ⟨Nat.zero_le _, Nat.zero_le _⟩ (kX7_readsInto l D y ad hI q1 0 10 q4 hq5) (by decide) ly_m0 rfl rfl wc_X7_readsInto wm_X7_157 wi_X7_readsInto ws_X7_readsInto wn_X7 ⟨rfl, rfl⟩ hd_X7_readsInto rfl ⟨Nat.le_of_ble_eq_true rfl, Nat.le_of_ble_eq_true rfl⟩ (Nat.le_of_ble_eq_true rfl) dX7_readsTray_64) (fun H locs hw => ?_)
    refine lv_if_eq (tgt := 110) (pc := 67) C0.1 C0.2.1 dX7_readsTray_67 (by decide) (fun hc => ?_) (fun hc => ?_)
    · have hf := if_t hf hc
      refine lv_iconst (v := 0) (pc := 110) C0.1 C0.2.1 dX7_readsTray_110 (by decide) ?_
      exact x_zret (pc := 111) C0 hK hk hr hw rfl (Option.some.inj hf) dX7_readsTray_111
    · have hf := if_f hf hc
      refine lv_aload_n (pc := 70) C0.1 C0.2.1 dX7_readsTray_70 rfl (lv_at hl 1 rfl) ?_
      refine lv_bipush (v := 120) (pc := 71) C0.1 C0.2.1 dX7_readsTray_71 (by decide) ?_
      obtain ⟨q6, hq6, hf⟩ := bd_e hf
      refine x_back (pc := 73) hw (x_runV (pc := 73) (As := [.int 120]) (rest := []) C0 hK hw hl.1 ⟨Nat.zero_le _, Nat.zero_le _⟩ (kX7_takes l D y ad hI 120 q5.2 hq6) (by decide) ly_m0 rfl rfl wc_X7_takes wm_X7_160 wi_X7_takes ws_X7_takes wn_X7 ⟨rfl, rfl⟩ hd_X7_takes rfl ⟨Nat.le_of_ble_eq_true rfl, Nat.le_of_ble_eq_true rfl⟩ (Nat.le_of_ble_eq_true rfl) dX7_readsTray_73) (fun H locs hw => ?_)
      refine lv_if_eq (tgt := 110) (pc := 76) C0.1 C0.2.1 dX7_readsTray_76 (by decide) (fun hc => ?_) (fun hc => ?_)
      · have hf := if_t hf hc
        refine lv_iconst (v := 0) (pc := 110) C0.1 C0.2.1 dX7_readsTray_110 (by decide) ?_
        exact x_zret (pc := 111) C0 hK hk hr hw rfl (Option.some.inj hf) dX7_readsTray_111
      · have hf := if_f hf hc
        refine lv_aload_n (pc := 79) C0.1 C0.2.1 dX7_readsTray_79 rfl (lv_at hl 1 rfl) ?_
        refine lv_iload_n (pc := 80) C0.1 C0.2.1 dX7_readsTray_80 rfl (lv_at hl 0 rfl) ?_
        refine lv_iconst (v := 1) (pc := 81) C0.1 C0.2.1 dX7_readsTray_81 (by decide) ?_
        refine lv_bipush (v := 10) (pc := 82) C0.1 C0.2.1 dX7_readsTray_82 (by decide) ?_
        obtain ⟨q7, hq7, hf⟩ := bd_e hf
        refine x_back (pc := 84) hw (x_runV (pc := 84) (As := [.int q1, .int 1, .int 10]) (rest := []) C0 hK hw hl.1 ⟨Nat.zero_le _, Nat.zero_le _⟩ (kX7_readsInto l D y ad hI q1 1 10 q6.2 hq7) (by decide) ly_m0 rfl rfl wc_X7_readsInto wm_X7_157 wi_X7_readsInto ws_X7_readsInto wn_X7 ⟨rfl, rfl⟩ hd_X7_readsInto rfl ⟨Nat.le_of_ble_eq_true rfl, Nat.le_of_ble_eq_true rfl⟩ (Nat.le_of_ble_eq_true rfl) dX7_readsTray_84) (fun H locs hw => ?_)
        refine lv_if_eq (tgt := 110) (pc := 87) C0.1 C0.2.1 dX7_readsTray_87 (by decide) (fun hc => ?_) (fun hc => ?_)
        · have hf := if_t hf hc
          refine lv_iconst (v := 0) (pc := 110) C0.1 C0.2.1 dX7_readsTray_110 (by decide) ?_
          exact x_zret (pc := 111) C0 hK hk hr hw rfl (Option.some.inj hf) dX7_readsTray_111
        · have hf := if_f hf hc
          refine lv_aload_n (pc := 90) C0.1 C0.2.1 dX7_readsTray_90 rfl (lv_at hl 1 rfl) ?_
          refine lv_bipush (v := 120) (pc := 91) C0.1 C0.2.1 dX7_readsTray_91 (by decide) ?_
          obtain ⟨q8, hq8, hf⟩ := bd_e hf
          refine x_back (pc := 93) hw (x_runV (pc := 93) (As := [.int 120]) (rest := []) C0 hK hw hl.1 ⟨Nat.zero_le _, Nat.zero_le _⟩ (kX7_takes l D y ad hI 120 q7.2 hq8) (by decide) ly_m0 rfl rfl wc_X7_takes wm_X7_160 wi_X7_takes ws_X7_takes wn_X7 ⟨rfl, rfl⟩ hd_X7_takes rfl ⟨Nat.le_of_ble_eq_true rfl, Nat.le_of_ble_eq_true rfl⟩ (Nat.le_of_ble_eq_true rfl) dX7_readsTray_93) (fun H locs hw => ?_)
          refine lv_if_eq (tgt := 110) (pc := 96) C0.1 C0.2.1 dX7_readsTray_96 (by decide) (fun hc => ?_) (fun hc => ?_)
          · have hf := if_t hf hc
            refine lv_iconst (v := 0) (pc := 110) C0.1 C0.2.1 dX7_readsTray_110 (by decide) ?_
            exact x_zret (pc := 111) C0 hK hk hr hw rfl (Option.some.inj hf) dX7_readsTray_111
          · have hf := if_f hf hc
            refine lv_aload_n (pc := 99) C0.1 C0.2.1 dX7_readsTray_99 rfl (lv_at hl 1 rfl) ?_
            refine lv_iload_n (pc := 100) C0.1 C0.2.1 dX7_readsTray_100 rfl (lv_at hl 0 rfl) ?_
            refine lv_iconst (v := 2) (pc := 101) C0.1 C0.2.1 dX7_readsTray_101 (by decide) ?_
            refine lv_bipush (v := 9) (pc := 102) C0.1 C0.2.1 dX7_readsTray_102 (by decide) ?_
            obtain ⟨q9, hq9, hf⟩ := bd_e hf
            refine x_back (pc := 104) hw (x_runV (pc := 104) (As := [.int q1, .int 2, .int 9]) (rest := []) C0 hK hw hl.1 ⟨Nat.zero_le _, Nat.zero_le _⟩ (kX7_readsInto l D y ad hI q1 2 9 q8.2 hq9) (by decide) ly_m0 rfl rfl wc_X7_readsInto wm_X7_157 wi_X7_readsInto ws_X7_readsInto wn_X7 ⟨rfl, rfl⟩ hd_X7_readsInto rfl ⟨Nat.le_of_ble_eq_true rfl, Nat.le_of_ble_eq_true rfl⟩ (Nat.le_of_ble_eq_true rfl) dX7_readsTray_104) (fun H locs hw => ?_)
            refine lv_if_ne (tgt := 112) (pc := 107) C0.1 C0.2.1 dX7_readsTray_107 (by decide) (fun hc => ?_) (fun hc => ?_)
            · have hf := if_f hf hc
              refine lv_aload_n (pc := 112) C0.1 C0.2.1 dX7_readsTray_112 rfl (lv_at hl 1 rfl) ?_
              obtain ⟨q10, hq10, hf⟩ := bd_e hf
              refine x_backp (pc := 113) hw (x_runV (pc := 113) (As := []) (rest := []) C0 hK hw hl.1 ⟨Nat.zero_le _, Nat.zero_le _⟩ (kX7_here l D y ad hI  q9.2 hq10) (by decide) ly_m0 rfl rfl wc_X7_here wm_X7_136 wi_X7_here ws_X7_here wn_X7 ⟨rfl, rfl⟩ hd_X7_here rfl ⟨Nat.le_of_ble_eq_true rfl, Nat.le_of_ble_eq_true rfl⟩ (Nat.le_of_ble_eq_true rfl) dX7_readsTray_113) (fun H locs hw => ?_)
              refine lv_bipush (v := 108) (pc := 116) C0.1 C0.2.1 dX7_readsTray_116 (by decide) ?_
              refine lv_icmp_ne (tgt := 138) (pc := 118) C0.1 C0.2.1 dX7_readsTray_118 (by decide) (fun hc => ?_) (fun hc => ?_)
              · have hf := if_f hf hc
                refine lv_aload_n (pc := 138) C0.1 C0.2.1 dX7_readsTray_138 rfl (lv_at hl 1 rfl) ?_
                obtain ⟨q11, hq11, hf⟩ := bd_e hf
                refine x_backp (pc := 139) hw (x_runV (pc := 139) (As := []) (rest := []) C0 hK hw hl.1 ⟨Nat.zero_le _, Nat.zero_le _⟩ (kX7_here l D y ad hI  q9.2 hq11) (by decide) ly_m0 rfl rfl wc_X7_here wm_X7_136 wi_X7_here ws_X7_here wn_X7 ⟨rfl, rfl⟩ hd_X7_here rfl ⟨Nat.le_of_ble_eq_true rfl, Nat.le_of_ble_eq_true rfl⟩ (Nat.le_of_ble_eq_true rfl) dX7_readsTray_139) (fun H locs hw => ?_)
                refine lv_bipush (v := 64) (pc := 142) C0.1 C0.2.1 dX7_readsTray_142 (by decide) ?_
                refine lv_icmp_ne (tgt := 180) (pc := 144) C0.1 C0.2.1 dX7_readsTray_144 (by decide) (fun hc => ?_) (fun hc => ?_)
                · have hf := if_f hf hc
                  refine lv_aload_n (pc := 180) C0.1 C0.2.1 dX7_readsTray_180 rfl (lv_at hl 1 rfl) ?_
                  refine x_get (pc := 181) (v := .ref (ad 1)) C0 hK hw (by decide) ly_m0 rfl inX7 0 (by decide) wf_X7_7 rfl rfl dX7_readsTray_181 ?_
                  refine lv_iconst (v := 4) (pc := 184) C0.1 C0.2.1 dX7_readsTray_184 (by decide) ?_
                  refine lv_dup2_11 (pc := 185) C0.1 C0.2.1 dX7_readsTray_185 rfl rfl ?_
                  obtain ⟨hi, hf⟩ := gd_e hf
                  refine x_iald (pc := 186) C0 hK hw (by decide) ly_m1 hi dX7_readsTray_186 ?_
                  refine lv_iconst (v := 1) (pc := 187) C0.1 C0.2.1 dX7_readsTray_187 (by decide) ?_
                  refine lv_iadd (pc := 188) C0.1 C0.2.1 dX7_readsTray_188 ?_
                  obtain ⟨hi, hf⟩ := gd_e hf
                  obtain ⟨u12, hu, hf⟩ := nm_f hf
                  refine x_iast (pc := 189) hI C0 hK hw (by decide) ly_m1 hi hu dX7_readsTray_189 (fun H locs hw => ?_)
                  refine lv_aload_n (pc := 190) C0.1 C0.2.1 dX7_readsTray_190 rfl (lv_at hl 1 rfl) ?_
                  refine lv_bipush (v := 59) (pc := 191) C0.1 C0.2.1 dX7_readsTray_191 (by decide) ?_
                  obtain ⟨q13, hq13, hf⟩ := bd_e hf
                  refine x_back (pc := 193) hw (x_runV (pc := 193) (As := [.int 59]) (rest := []) C0 hK hw hl.1 ⟨Nat.zero_le _, Nat.zero_le _⟩ (kX7_takes l D y ad hI 59 u12 hq13) (by decide) ly_m0 rfl rfl wc_X7_takes wm_X7_160 wi_X7_takes ws_X7_takes wn_X7 ⟨rfl, rfl⟩ hd_X7_takes rfl ⟨Nat.le_of_ble_eq_true rfl, Nat.le_of_ble_eq_true rfl⟩ (Nat.le_of_ble_eq_true rfl) dX7_readsTray_193) (fun H locs hw => ?_)
                  obtain ⟨hz, hf⟩ := gd_e hf
                  exact x_zret (pc := 196) C0 hK hk hr hw hz (Option.some.inj hf) dX7_readsTray_196
                · have hf := if_t hf hc
                  refine lv_aload_n (pc := 147) C0.1 C0.2.1 dX7_readsTray_147 rfl (lv_at hl 1 rfl) ?_
                  refine lv_dup (pc := 148) C0.1 C0.2.1 dX7_readsTray_148 rfl ?_
                  refine x_get (pc := 149) (v := .int (q9.2.1 0 9)) C0 hK hw (by decide) ly_m0 rfl inX7 9 (by decide) wf_X7_133 rfl rfl dX7_readsTray_149 ?_
                  refine lv_iconst (v := 1) (pc := 152) C0.1 C0.2.1 dX7_readsTray_152 (by decide) ?_
                  refine lv_iadd (pc := 153) C0.1 C0.2.1 dX7_readsTray_153 ?_
                  obtain ⟨u14, hu, hf⟩ := nm_f hf
                  refine x_put (pc := 154) hI C0 hK hw (by decide) ly_m0 rfl inX7 tyX7_ok nmX7 9 (by decide) wf_X7_133 rfl rfl rfl hu rfl rfl dX7_readsTray_154 (fun H locs hw => ?_)
                  refine lv_aload_n (pc := 157) C0.1 C0.2.1 dX7_readsTray_157 rfl (lv_at hl 1 rfl) ?_
                  refine lv_iconst (v := 1) (pc := 158) C0.1 C0.2.1 dX7_readsTray_158 (by decide) ?_
                  refine lv_iconst (v := 0) (pc := 159) C0.1 C0.2.1 dX7_readsTray_159 (by decide) ?_
                  refine lv_bipush (v := 9) (pc := 160) C0.1 C0.2.1 dX7_readsTray_160 (by decide) ?_
                  obtain ⟨q15, hq15, hf⟩ := bd_e hf
                  refine x_back (pc := 162) hw (x_runV (pc := 162) (As := [.int 1, .int 0, .int 9]) (rest := []) C0 hK hw hl.1 ⟨Nat.zero_le _, Nat.zero_le _⟩ (kX7_readsNumber l D y ad hI 1 0 9 u14 hq15) (by decide) ly_m0 rfl rfl wc_X7_readsNumber wm_X7_154 wi_X7_readsNumber ws_X7_readsNumber wn_X7 ⟨rfl, rfl⟩ hd_X7_readsNumber rfl ⟨Nat.le_of_ble_eq_true rfl, Nat.le_of_ble_eq_true rfl⟩ (Nat.le_of_ble_eq_true rfl) dX7_readsTray_162) (fun H locs hw => ?_)
                  refine lv_if_ne (tgt := 170) (pc := 165) C0.1 C0.2.1 dX7_readsTray_165 (by decide) (fun hc => ?_) (fun hc => ?_)
                  · have hf := if_f hf hc
                    refine lv_aload_n (pc := 170) C0.1 C0.2.1 dX7_readsTray_170 rfl (lv_at hl 1 rfl) ?_
                    refine lv_iload_n (pc := 171) C0.1 C0.2.1 dX7_readsTray_171 rfl (lv_at hl 0 rfl) ?_
                    refine lv_iconst (v := 3) (pc := 172) C0.1 C0.2.1 dX7_readsTray_172 (by decide) ?_
                    refine lv_aload_n (pc := 173) C0.1 C0.2.1 dX7_readsTray_173 rfl (lv_at hl 1 rfl) ?_
                    refine x_get (pc := 174) (v := .int (q15.2.1 0 10)) C0 hK hw (by decide) ly_m0 rfl inX7 10 (by decide) wf_X7_147 rfl rfl dX7_readsTray_174 ?_
                    obtain ⟨q16, hq16, hf⟩ := bd_e hf
                    refine x_backv (pc := 177) hw (x_runV (pc := 177) (As := [.int q1, .int 3, .int (q15.2.1 0 10)]) (rest := []) C0 hK hw hl.1 ⟨Nat.zero_le _, Nat.zero_le _⟩ (kX7_sets l D y ad hI q1 3 (q15.2.1 0 10) q15.2 hq16) (by decide) ly_m0 rfl rfl wc_X7_sets wm_X7_63 wi_X7_sets ws_X7_sets wn_X7 ⟨rfl, rfl⟩ hd_X7_sets rfl ⟨Nat.le_of_ble_eq_true rfl, Nat.le_of_ble_eq_true rfl⟩ (Nat.le_of_ble_eq_true rfl) dX7_readsTray_177) (fun H locs hw => ?_)
                    refine lv_aload_n (pc := 180) C0.1 C0.2.1 dX7_readsTray_180 rfl (lv_at hl 1 rfl) ?_
                    refine x_get (pc := 181) (v := .ref (ad 1)) C0 hK hw (by decide) ly_m0 rfl inX7 0 (by decide) wf_X7_7 rfl rfl dX7_readsTray_181 ?_
                    refine lv_iconst (v := 4) (pc := 184) C0.1 C0.2.1 dX7_readsTray_184 (by decide) ?_
                    refine lv_dup2_11 (pc := 185) C0.1 C0.2.1 dX7_readsTray_185 rfl rfl ?_
                    obtain ⟨hi, hf⟩ := gd_e hf
                    refine x_iald (pc := 186) C0 hK hw (by decide) ly_m1 hi dX7_readsTray_186 ?_
                    refine lv_iconst (v := 1) (pc := 187) C0.1 C0.2.1 dX7_readsTray_187 (by decide) ?_
                    refine lv_iadd (pc := 188) C0.1 C0.2.1 dX7_readsTray_188 ?_
                    obtain ⟨hi, hf⟩ := gd_e hf
                    obtain ⟨u17, hu, hf⟩ := nm_f hf
                    refine x_iast (pc := 189) hI C0 hK hw (by decide) ly_m1 hi hu dX7_readsTray_189 (fun H locs hw => ?_)
                    refine lv_aload_n (pc := 190) C0.1 C0.2.1 dX7_readsTray_190 rfl (lv_at hl 1 rfl) ?_
                    refine lv_bipush (v := 59) (pc := 191) C0.1 C0.2.1 dX7_readsTray_191 (by decide) ?_
                    obtain ⟨q18, hq18, hf⟩ := bd_e hf
                    refine x_back (pc := 193) hw (x_runV (pc := 193) (As := [.int 59]) (rest := []) C0 hK hw hl.1 ⟨Nat.zero_le _, Nat.zero_le _⟩ (kX7_takes l D y ad hI 59 u17 hq18) (by decide) ly_m0 rfl rfl wc_X7_takes wm_X7_160 wi_X7_takes ws_X7_takes wn_X7 ⟨rfl, rfl⟩ hd_X7_takes rfl ⟨Nat.le_of_ble_eq_true rfl, Nat.le_of_ble_eq_true rfl⟩ (Nat.le_of_ble_eq_true rfl) dX7_readsTray_193) (fun H locs hw => ?_)
                    obtain ⟨hz, hf⟩ := gd_e hf
                    exact x_zret (pc := 196) C0 hK hk hr hw hz (Option.some.inj hf) dX7_readsTray_196
                  · have hf := if_t hf hc
                    refine lv_iconst (v := 0) (pc := 168) C0.1 C0.2.1 dX7_readsTray_168 (by decide) ?_
                    exact x_zret (pc := 169) C0 hK hk hr hw rfl (Option.some.inj hf) dX7_readsTray_169
              · have hf := if_t hf hc
                refine lv_aload_n (pc := 121) C0.1 C0.2.1 dX7_readsTray_121 rfl (lv_at hl 1 rfl) ?_
                refine lv_iload_n (pc := 122) C0.1 C0.2.1 dX7_readsTray_122 rfl (lv_at hl 0 rfl) ?_
                refine lv_iconst (v := 4) (pc := 123) C0.1 C0.2.1 dX7_readsTray_123 (by decide) ?_
                refine lv_iconst (v := 1) (pc := 124) C0.1 C0.2.1 dX7_readsTray_124 (by decide) ?_
                obtain ⟨q19, hq19, hf⟩ := bd_e hf
                refine x_backv (pc := 125) hw (x_runV (pc := 125) (As := [.int q1, .int 4, .int 1]) (rest := []) C0 hK hw hl.1 ⟨Nat.zero_le _, Nat.zero_le _⟩ (kX7_sets l D y ad hI q1 4 1 q9.2 hq19) (by decide) ly_m0 rfl rfl wc_X7_sets wm_X7_63 wi_X7_sets ws_X7_sets wn_X7 ⟨rfl, rfl⟩ hd_X7_sets rfl ⟨Nat.le_of_ble_eq_true rfl, Nat.le_of_ble_eq_true rfl⟩ (Nat.le_of_ble_eq_true rfl) dX7_readsTray_125) (fun H locs hw => ?_)
                refine lv_aload_n (pc := 128) C0.1 C0.2.1 dX7_readsTray_128 rfl (lv_at hl 1 rfl) ?_
                refine lv_dup (pc := 129) C0.1 C0.2.1 dX7_readsTray_129 rfl ?_
                refine x_get (pc := 130) (v := .int (q19.1 0 9)) C0 hK hw (by decide) ly_m0 rfl inX7 9 (by decide) wf_X7_133 rfl rfl dX7_readsTray_130 ?_
                refine lv_iconst (v := 1) (pc := 133) C0.1 C0.2.1 dX7_readsTray_133 (by decide) ?_
                refine lv_iadd (pc := 134) C0.1 C0.2.1 dX7_readsTray_134 ?_
                obtain ⟨u20, hu, hf⟩ := nm_f hf
                refine x_put (pc := 135) hI C0 hK hw (by decide) ly_m0 rfl inX7 tyX7_ok nmX7 9 (by decide) wf_X7_133 rfl rfl rfl hu rfl rfl dX7_readsTray_135 (fun H locs hw => ?_)
                refine lv_aload_n (pc := 138) C0.1 C0.2.1 dX7_readsTray_138 rfl (lv_at hl 1 rfl) ?_
                obtain ⟨q21, hq21, hf⟩ := bd_e hf
                refine x_backp (pc := 139) hw (x_runV (pc := 139) (As := []) (rest := []) C0 hK hw hl.1 ⟨Nat.zero_le _, Nat.zero_le _⟩ (kX7_here l D y ad hI  u20 hq21) (by decide) ly_m0 rfl rfl wc_X7_here wm_X7_136 wi_X7_here ws_X7_here wn_X7 ⟨rfl, rfl⟩ hd_X7_here rfl ⟨Nat.le_of_ble_eq_true rfl, Nat.le_of_ble_eq_true rfl⟩ (Nat.le_of_ble_eq_true rfl) dX7_readsTray_139) (fun H locs hw => ?_)
                refine lv_bipush (v := 64) (pc := 142) C0.1 C0.2.1 dX7_readsTray_142 (by decide) ?_
                refine lv_icmp_ne (tgt := 180) (pc := 144) C0.1 C0.2.1 dX7_readsTray_144 (by decide) (fun hc => ?_) (fun hc => ?_)
                · have hf := if_f hf hc
                  refine lv_aload_n (pc := 180) C0.1 C0.2.1 dX7_readsTray_180 rfl (lv_at hl 1 rfl) ?_
                  refine x_get (pc := 181) (v := .ref (ad 1)) C0 hK hw (by decide) ly_m0 rfl inX7 0 (by decide) wf_X7_7 rfl rfl dX7_readsTray_181 ?_
                  refine lv_iconst (v := 4) (pc := 184) C0.1 C0.2.1 dX7_readsTray_184 (by decide) ?_
                  refine lv_dup2_11 (pc := 185) C0.1 C0.2.1 dX7_readsTray_185 rfl rfl ?_
                  obtain ⟨hi, hf⟩ := gd_e hf
                  refine x_iald (pc := 186) C0 hK hw (by decide) ly_m1 hi dX7_readsTray_186 ?_
                  refine lv_iconst (v := 1) (pc := 187) C0.1 C0.2.1 dX7_readsTray_187 (by decide) ?_
                  refine lv_iadd (pc := 188) C0.1 C0.2.1 dX7_readsTray_188 ?_
                  obtain ⟨hi, hf⟩ := gd_e hf
                  obtain ⟨u22, hu, hf⟩ := nm_f hf
                  refine x_iast (pc := 189) hI C0 hK hw (by decide) ly_m1 hi hu dX7_readsTray_189 (fun H locs hw => ?_)
                  refine lv_aload_n (pc := 190) C0.1 C0.2.1 dX7_readsTray_190 rfl (lv_at hl 1 rfl) ?_
                  refine lv_bipush (v := 59) (pc := 191) C0.1 C0.2.1 dX7_readsTray_191 (by decide) ?_
                  obtain ⟨q23, hq23, hf⟩ := bd_e hf
                  refine x_back (pc := 193) hw (x_runV (pc := 193) (As := [.int 59]) (rest := []) C0 hK hw hl.1 ⟨Nat.zero_le _, Nat.zero_le _⟩ (kX7_takes l D y ad hI 59 u22 hq23) (by decide) ly_m0 rfl rfl wc_X7_takes wm_X7_160 wi_X7_takes ws_X7_takes wn_X7 ⟨rfl, rfl⟩ hd_X7_takes rfl ⟨Nat.le_of_ble_eq_true rfl, Nat.le_of_ble_eq_true rfl⟩ (Nat.le_of_ble_eq_true rfl) dX7_readsTray_193) (fun H locs hw => ?_)
                  obtain ⟨hz, hf⟩ := gd_e hf
                  exact x_zret (pc := 196) C0 hK hk hr hw hz (Option.some.inj hf) dX7_readsTray_196
                · have hf := if_t hf hc
                  refine lv_aload_n (pc := 147) C0.1 C0.2.1 dX7_readsTray_147 rfl (lv_at hl 1 rfl) ?_
                  refine lv_dup (pc := 148) C0.1 C0.2.1 dX7_readsTray_148 rfl ?_
                  refine x_get (pc := 149) (v := .int (u20.1 0 9)) C0 hK hw (by decide) ly_m0 rfl inX7 9 (by decide) wf_X7_133 rfl rfl dX7_readsTray_149 ?_
                  refine lv_iconst (v := 1) (pc := 152) C0.1 C0.2.1 dX7_readsTray_152 (by decide) ?_
                  refine lv_iadd (pc := 153) C0.1 C0.2.1 dX7_readsTray_153 ?_
                  obtain ⟨u24, hu, hf⟩ := nm_f hf
                  refine x_put (pc := 154) hI C0 hK hw (by decide) ly_m0 rfl inX7 tyX7_ok nmX7 9 (by decide) wf_X7_133 rfl rfl rfl hu rfl rfl dX7_readsTray_154 (fun H locs hw => ?_)
                  refine lv_aload_n (pc := 157) C0.1 C0.2.1 dX7_readsTray_157 rfl (lv_at hl 1 rfl) ?_
                  refine lv_iconst (v := 1) (pc := 158) C0.1 C0.2.1 dX7_readsTray_158 (by decide) ?_
                  refine lv_iconst (v := 0) (pc := 159) C0.1 C0.2.1 dX7_readsTray_159 (by decide) ?_
                  refine lv_bipush (v := 9) (pc := 160) C0.1 C0.2.1 dX7_readsTray_160 (by decide) ?_
                  obtain ⟨q25, hq25, hf⟩ := bd_e hf
                  refine x_back (pc := 162) hw (x_runV (pc := 162) (As := [.int 1, .int 0, .int 9]) (rest := []) C0 hK hw hl.1 ⟨Nat.zero_le _, Nat.zero_le _⟩ (kX7_readsNumber l D y ad hI 1 0 9 u24 hq25) (by decide) ly_m0 rfl rfl wc_X7_readsNumber wm_X7_154 wi_X7_readsNumber ws_X7_readsNumber wn_X7 ⟨rfl, rfl⟩ hd_X7_readsNumber rfl ⟨Nat.le_of_ble_eq_true rfl, Nat.le_of_ble_eq_true rfl⟩ (Nat.le_of_ble_eq_true rfl) dX7_readsTray_162) (fun H locs hw => ?_)
                  refine lv_if_ne (tgt := 170) (pc := 165) C0.1 C0.2.1 dX7_readsTray_165 (by decide) (fun hc => ?_) (fun hc => ?_)
                  · have hf := if_f hf hc
                    refine lv_aload_n (pc := 170) C0.1 C0.2.1 dX7_readsTray_170 rfl (lv_at hl 1 rfl) ?_
                    refine lv_iload_n (pc := 171) C0.1 C0.2.1 dX7_readsTray_171 rfl (lv_at hl 0 rfl) ?_
                    refine lv_iconst (v := 3) (pc := 172) C0.1 C0.2.1 dX7_readsTray_172 (by decide) ?_
                    refine lv_aload_n (pc := 173) C0.1 C0.2.1 dX7_readsTray_173 rfl (lv_at hl 1 rfl) ?_
                    refine x_get (pc := 174) (v := .int (q25.2.1 0 10)) C0 hK hw (by decide) ly_m0 rfl inX7 10 (by decide) wf_X7_147 rfl rfl dX7_readsTray_174 ?_
                    obtain ⟨q26, hq26, hf⟩ := bd_e hf
                    refine x_backv (pc := 177) hw (x_runV (pc := 177) (As := [.int q1, .int 3, .int (q25.2.1 0 10)]) (rest := []) C0 hK hw hl.1 ⟨Nat.zero_le _, Nat.zero_le _⟩ (kX7_sets l D y ad hI q1 3 (q25.2.1 0 10) q25.2 hq26) (by decide) ly_m0 rfl rfl wc_X7_sets wm_X7_63 wi_X7_sets ws_X7_sets wn_X7 ⟨rfl, rfl⟩ hd_X7_sets rfl ⟨Nat.le_of_ble_eq_true rfl, Nat.le_of_ble_eq_true rfl⟩ (Nat.le_of_ble_eq_true rfl) dX7_readsTray_177) (fun H locs hw => ?_)
                    refine lv_aload_n (pc := 180) C0.1 C0.2.1 dX7_readsTray_180 rfl (lv_at hl 1 rfl) ?_
                    refine x_get (pc := 181) (v := .ref (ad 1)) C0 hK hw (by decide) ly_m0 rfl inX7 0 (by decide) wf_X7_7 rfl rfl dX7_readsTray_181 ?_
                    refine lv_iconst (v := 4) (pc := 184) C0.1 C0.2.1 dX7_readsTray_184 (by decide) ?_
                    refine lv_dup2_11 (pc := 185) C0.1 C0.2.1 dX7_readsTray_185 rfl rfl ?_
                    obtain ⟨hi, hf⟩ := gd_e hf
                    refine x_iald (pc := 186) C0 hK hw (by decide) ly_m1 hi dX7_readsTray_186 ?_
                    refine lv_iconst (v := 1) (pc := 187) C0.1 C0.2.1 dX7_readsTray_187 (by decide) ?_
                    refine lv_iadd (pc := 188) C0.1 C0.2.1 dX7_readsTray_188 ?_
                    obtain ⟨hi, hf⟩ := gd_e hf
                    obtain ⟨u27, hu, hf⟩ := nm_f hf
                    refine x_iast (pc := 189) hI C0 hK hw (by decide) ly_m1 hi hu dX7_readsTray_189 (fun H locs hw => ?_)
                    refine lv_aload_n (pc := 190) C0.1 C0.2.1 dX7_readsTray_190 rfl (lv_at hl 1 rfl) ?_
                    refine lv_bipush (v := 59) (pc := 191) C0.1 C0.2.1 dX7_readsTray_191 (by decide) ?_
                    obtain ⟨q28, hq28, hf⟩ := bd_e hf
                    refine x_back (pc := 193) hw (x_runV (pc := 193) (As := [.int 59]) (rest := []) C0 hK hw hl.1 ⟨Nat.zero_le _, Nat.zero_le _⟩ (kX7_takes l D y ad hI 59 u27 hq28) (by decide) ly_m0 rfl rfl wc_X7_takes wm_X7_160 wi_X7_takes ws_X7_takes wn_X7 ⟨rfl, rfl⟩ hd_X7_takes rfl ⟨Nat.le_of_ble_eq_true rfl, Nat.le_of_ble_eq_true rfl⟩ (Nat.le_of_ble_eq_true rfl) dX7_readsTray_193) (fun H locs hw => ?_)
                    obtain ⟨hz, hf⟩ := gd_e hf
                    exact x_zret (pc := 196) C0 hK hk hr hw hz (Option.some.inj hf) dX7_readsTray_196
                  · have hf := if_t hf hc
                    refine lv_iconst (v := 0) (pc := 168) C0.1 C0.2.1 dX7_readsTray_168 (by decide) ?_
                    exact x_zret (pc := 169) C0 hK hk hr hw rfl (Option.some.inj hf) dX7_readsTray_169
            · have hf := if_t hf hc
              refine lv_iconst (v := 0) (pc := 110) C0.1 C0.2.1 dX7_readsTray_110 (by decide) ?_
              exact x_zret (pc := 111) C0 hK hk hr hw rfl (Option.some.inj hf) dX7_readsTray_111
  · have hf := if_t hf hc
    refine lv_aload_n (pc := 11) C0.1 C0.2.1 dX7_readsTray_11 rfl (lv_at hl 1 rfl) ?_
    obtain ⟨q29, hq29, hf⟩ := bd_e hf
    refine x_backp (pc := 12) hw (x_runV (pc := 12) (As := []) (rest := []) C0 hK hw hl.1 ⟨Nat.zero_le _, Nat.zero_le _⟩ (kX7_isDigit l D y ad hI  u hq29) (by decide) ly_m0 rfl rfl wc_X7_isDigit wm_X7_150 wi_X7_isDigit ws_X7_isDigit wn_X7 ⟨rfl, rfl⟩ hd_X7_isDigit rfl ⟨Nat.le_of_ble_eq_true rfl, Nat.le_of_ble_eq_true rfl⟩ (Nat.le_of_ble_eq_true rfl) dX7_readsTray_12) (fun H locs hw => ?_)
    refine lv_if_eq (tgt := 30) (pc := 15) C0.1 C0.2.1 dX7_readsTray_15 (by decide) (fun hc => ?_) (fun hc => ?_)
    · have hf := if_t hf hc
      refine lv_aload_n (pc := 30) C0.1 C0.2.1 dX7_readsTray_30 rfl (lv_at hl 1 rfl) ?_
      refine lv_iconst (v := 1) (pc := 31) C0.1 C0.2.1 dX7_readsTray_31 (by decide) ?_
      refine lv_aload_n (pc := 32) C0.1 C0.2.1 dX7_readsTray_32 rfl (lv_at hl 1 rfl) ?_
      refine x_get (pc := 33) (v := .int (u.1 0 9)) C0 hK hw (by decide) ly_m0 rfl inX7 9 (by decide) wf_X7_133 rfl rfl dX7_readsTray_33 ?_
      obtain ⟨q30, hq30, hf⟩ := bd_e hf
      refine x_back (pc := 36) hw (x_runV (pc := 36) (As := [.int 1, .int (u.1 0 9)]) (rest := []) C0 hK hw hl.1 ⟨Nat.zero_le _, Nat.zero_le _⟩ (kX7_fails l D y ad hI 1 (u.1 0 9) u hq30) (by decide) ly_m0 rfl rfl wc_X7_fails wm_X7_144 wi_X7_fails ws_X7_fails wn_X7 ⟨rfl, rfl⟩ hd_X7_fails rfl ⟨Nat.le_of_ble_eq_true rfl, Nat.le_of_ble_eq_true rfl⟩ (Nat.le_of_ble_eq_true rfl) dX7_readsTray_36) (fun H locs hw => ?_)
      obtain ⟨hz, hf⟩ := gd_e hf
      exact x_zret (pc := 39) C0 hK hk hr hw hz (Option.some.inj hf) dX7_readsTray_39
    · have hf := if_f hf hc
      refine lv_aload_n (pc := 18) C0.1 C0.2.1 dX7_readsTray_18 rfl (lv_at hl 1 rfl) ?_
      refine lv_iconst (v := 3) (pc := 19) C0.1 C0.2.1 dX7_readsTray_19 (by decide) ?_
      refine lv_aload_n (pc := 20) C0.1 C0.2.1 dX7_readsTray_20 rfl (lv_at hl 1 rfl) ?_
      refine x_get (pc := 21) (v := .int (u.1 0 9)) C0 hK hw (by decide) ly_m0 rfl inX7 9 (by decide) wf_X7_133 rfl rfl dX7_readsTray_21 ?_
      obtain ⟨q31, hq31, hf⟩ := bd_e hf
      refine x_back (pc := 24) hw (x_runV (pc := 24) (As := [.int 3, .int (u.1 0 9)]) (rest := []) C0 hK hw hl.1 ⟨Nat.zero_le _, Nat.zero_le _⟩ (kX7_fails l D y ad hI 3 (u.1 0 9) u hq31) (by decide) ly_m0 rfl rfl wc_X7_fails wm_X7_144 wi_X7_fails ws_X7_fails wn_X7 ⟨rfl, rfl⟩ hd_X7_fails rfl ⟨Nat.le_of_ble_eq_true rfl, Nat.le_of_ble_eq_true rfl⟩ (Nat.le_of_ble_eq_true rfl) dX7_readsTray_24) (fun H locs hw => ?_)
      refine lv_goto (tgt := 39) (pc := 27) C0.1 C0.2.1 dX7_readsTray_27 (by decide) ?_
      obtain ⟨hz, hf⟩ := gd_e hf
      exact x_zret (pc := 39) C0 hK hk hr hw hz (Option.some.inj hf) dX7_readsTray_39
def wX7_recordsKept : List Cond := .code yX7_recordsKept cX7_recordsKept 4 none :: lwT
def rX7_recordsKept : Room := { frames := 2, cells := 0, slots := 0, locals := 44 }
set_option maxRecDepth 100000 in
set_option maxHeartbeats 4000000 in
theorem kX7_recordsKept (l : Launch) (D : va_G) (y : Nat → ClassId) (ad : Nat → Nat) (hI : XI ad 8) (v1 : Int32) (u : S) {o : S} (hf : fX7_recordsKept v1 u = some o) : Met l yX7_recordsKept wX7_recordsKept rX7_recordsKept (va_Pc [.ref (ad 0), .int v1] (XW D y ad LM 8 u)) (XQv D y ad LM 8 o) 0 0 (XA ad 8) := by
  refine x_met (bytes := cX7_recordsKept) (maxL := 4) (ret := none) (own := RX7) (by decide) rfl rfl (Nat.le_of_ble_eq_true rfl) (fun p e s m below meth c ls C0 hK hk hr hw hl => ?_)
  have hl : lv_has ls 4 [(0, .ref (ad 0)), (1, .int v1)] := hl
  unfold fX7_recordsKept at hf
  refine lv_iconst (v := 0) (pc := 0) C0.1 C0.2.1 dX7_recordsKept_0 (by decide) ?_
  refine lv_istore_n (pc := 1) (lv' := [(2, .int 0), (0, .ref (ad 0)), (1, .int v1)]) C0.1 C0.2.1 dX7_recordsKept_1 rfl hl (by decide) rfl (fun ls hl => ?_)
  obtain ⟨e1, he1, hf⟩ := bd_e hf
  refine X_loop (pc := 2) (xpc := 50) (fu := fun a1 => a1.2) (fl := fun a1 => [(2, .int a1.1), (0, .ref (ad 0)), (1, .int v1)]) (fun a1 r hf hE hG H locs ls hw hl => ?_) he1 (fun H locs ls hw hl => ?_) hw hl
  · unfold gX7_recordsKept_2 at hf
    refine lv_iload_n (pc := 2) C0.1 C0.2.1 dX7_recordsKept_2 rfl (lv_at hl 0 rfl) ?_
    refine lv_bipush (v := 125) (pc := 3) C0.1 C0.2.1 dX7_recordsKept_3 (by decide) ?_
    refine lv_icmp_ge (tgt := 50) (pc := 5) C0.1 C0.2.1 dX7_recordsKept_5 (by decide) (fun hc => ?_) (fun hc => ?_)
    · have hf := if_t hf hc
      exact hE _ (Option.some.inj hf).symm H locs ls hw (lv_sub hl [0, 1, 2] rfl)
    · have hf := if_f hf hc
      refine lv_aload_n (pc := 8) C0.1 C0.2.1 dX7_recordsKept_8 rfl (lv_at hl 1 rfl) ?_
      refine x_get (pc := 9) (v := .ref (ad 1)) C0 hK hw (by decide) ly_m0 rfl inX7 0 (by decide) wf_X7_7 rfl rfl dX7_recordsKept_9 ?_
      refine lv_iload_n (pc := 12) C0.1 C0.2.1 dX7_recordsKept_12 rfl (lv_at hl 0 rfl) ?_
      obtain ⟨hi, hf⟩ := gd_e hf
      refine x_iald (pc := 13) C0 hK hw (by decide) ly_m1 hi dX7_recordsKept_13 ?_
      refine lv_istore_n (pc := 14) (lv' := [(3, .int (a1.2.1 1 a1.1.toNatClampNeg)), (2, .int a1.1), (0, .ref (ad 0)), (1, .int v1)]) C0.1 C0.2.1 dX7_recordsKept_14 rfl hl (by decide) rfl (fun ls hl => ?_)
      refine lv_aload_n (pc := 15) C0.1 C0.2.1 dX7_recordsKept_15 rfl (lv_at hl 2 rfl) ?_
      refine x_get (pc := 16) (v := .ref (ad 1)) C0 hK hw (by decide) ly_m0 rfl inX7 0 (by decide) wf_X7_7 rfl rfl dX7_recordsKept_16 ?_
      refine lv_iload_n (pc := 19) C0.1 C0.2.1 dX7_recordsKept_19 rfl (lv_at hl 1 rfl) ?_
      refine lv_aload_n (pc := 20) C0.1 C0.2.1 dX7_recordsKept_20 rfl (lv_at hl 2 rfl) ?_
      refine x_get (pc := 21) (v := .ref (ad 1)) C0 hK hw (by decide) ly_m0 rfl inX7 0 (by decide) wf_X7_7 rfl rfl dX7_recordsKept_21 ?_
      refine lv_bipush (v := 125) (pc := 24) C0.1 C0.2.1 dX7_recordsKept_24 (by decide) ?_
      refine lv_iload_n (pc := 26) C0.1 C0.2.1 dX7_recordsKept_26 rfl (lv_at hl 3 rfl) ?_
      refine lv_imul (pc := 27) C0.1 C0.2.1 dX7_recordsKept_27 ?_
      refine lv_iload_n (pc := 28) C0.1 C0.2.1 dX7_recordsKept_28 rfl (lv_at hl 1 rfl) ?_
      refine lv_iadd (pc := 29) C0.1 C0.2.1 dX7_recordsKept_29 ?_
      obtain ⟨hi, hf⟩ := gd_e hf
      refine x_iald (pc := 30) C0 hK hw (by decide) ly_m1 hi dX7_recordsKept_30 ?_
      obtain ⟨hi, hf⟩ := gd_e hf
      obtain ⟨u2, hu, hf⟩ := nm_f hf
      refine x_iast (pc := 31) hI C0 hK hw (by decide) ly_m1 hi hu dX7_recordsKept_31 (fun H locs hw => ?_)
      refine lv_aload_n (pc := 32) C0.1 C0.2.1 dX7_recordsKept_32 rfl (lv_at hl 2 rfl) ?_
      refine x_get (pc := 33) (v := .ref (ad 1)) C0 hK hw (by decide) ly_m0 rfl inX7 0 (by decide) wf_X7_7 rfl rfl dX7_recordsKept_33 ?_
      refine lv_bipush (v := 125) (pc := 36) C0.1 C0.2.1 dX7_recordsKept_36 (by decide) ?_
      refine lv_iload_n (pc := 38) C0.1 C0.2.1 dX7_recordsKept_38 rfl (lv_at hl 3 rfl) ?_
      refine lv_imul (pc := 39) C0.1 C0.2.1 dX7_recordsKept_39 ?_
      refine lv_iload_n (pc := 40) C0.1 C0.2.1 dX7_recordsKept_40 rfl (lv_at hl 1 rfl) ?_
      refine lv_iadd (pc := 41) C0.1 C0.2.1 dX7_recordsKept_41 ?_
      refine lv_iload_n (pc := 42) C0.1 C0.2.1 dX7_recordsKept_42 rfl (lv_at hl 0 rfl) ?_
      obtain ⟨hi, hf⟩ := gd_e hf
      obtain ⟨u3, hu, hf⟩ := nm_f hf
      refine x_iast (pc := 43) hI C0 hK hw (by decide) ly_m1 hi hu dX7_recordsKept_43 (fun H locs hw => ?_)
      refine lv_iinc (pc := 44) (v := a1.1 + 1) (lv' := [(2, .int (a1.1 + 1)), (3, .int (a1.2.1 1 a1.1.toNatClampNeg)), (0, .ref (ad 0)), (1, .int v1)]) C0.1 C0.2.1 dX7_recordsKept_44 hl (k := 1) rfl rfl (by decide) rfl (fun ls hl => ?_)
      refine lv_goto (tgt := 2) (pc := 47) C0.1 C0.2.1 dX7_recordsKept_47 (by decide) ?_
      exact hG _ (Option.some.inj hf).symm H locs ls hw (lv_sub hl [0, 2, 3] rfl)
  · skip
    refine lv_aload_n (pc := 50) C0.1 C0.2.1 dX7_recordsKept_50 rfl (lv_at hl 1 rfl) ?_
    obtain ⟨q4, hq4, hf⟩ := bd_e hf
    refine x_backv (pc := 51) hw (x_runV (pc := 51) (As := []) (rest := []) C0 hK hw hl.1 ⟨Nat.zero_le _, Nat.zero_le _⟩ (kX7_records l D y ad hI  e1.2 hq4) (by decide) ly_m0 rfl rfl wc_X7_records wm_X7_104 wi_X7_records ws_X7_records wn_X7 ⟨rfl, rfl⟩ hd_X7_records rfl ⟨Nat.le_of_ble_eq_true rfl, Nat.le_of_ble_eq_true rfl⟩ (Nat.le_of_ble_eq_true rfl) dX7_recordsKept_51) (fun H locs hw => ?_)
    refine lv_aload_n (pc := 54) C0.1 C0.2.1 dX7_recordsKept_54 rfl (lv_at hl 1 rfl) ?_
    refine lv_iload_n (pc := 55) C0.1 C0.2.1 dX7_recordsKept_55 rfl (lv_at hl 2 rfl) ?_
    refine lv_iconst (v := 0) (pc := 56) C0.1 C0.2.1 dX7_recordsKept_56 (by decide) ?_
    obtain ⟨q5, hq5, hf⟩ := bd_e hf
    refine x_backv (pc := 57) hw (x_runV (pc := 57) (As := [.int v1, .int 0]) (rest := []) C0 hK hw hl.1 ⟨Nat.zero_le _, Nat.zero_le _⟩ (kX7_copies l D y ad hI v1 0 q4 hq5) (by decide) ly_m0 rfl rfl wc_X7_copies wm_X7_35 wi_X7_copies ws_X7_copies wn_X7 ⟨rfl, rfl⟩ hd_X7_copies rfl ⟨Nat.le_of_ble_eq_true rfl, Nat.le_of_ble_eq_true rfl⟩ (Nat.le_of_ble_eq_true rfl) dX7_recordsKept_57) (fun H locs hw => ?_)
    exact x_vret (pc := 60) C0 hK hk hr hw (Option.some.inj hf) dX7_recordsKept_60
def wX7_load : List Cond := .code yX7_load cX7_load 2 (some .int) :: lwT
def rX7_load : Room := { frames := 5, cells := 0, slots := 0, locals := 111 }
set_option maxRecDepth 100000 in
set_option maxHeartbeats 4000000 in
theorem kX7_load (l : Launch) (D : va_G) (y : Nat → ClassId) (ad : Nat → Nat) (hI : XI ad 8)  (u : S) {o : Int32 × S} (hf : fX7_load  u = some o) : Met l yX7_load wX7_load rX7_load (va_Pc [.ref (ad 0)] (XW D y ad LM 8 u)) (XQi D y ad LM 8 o) 0 0 (XA ad 8) := by
  refine x_met (bytes := cX7_load) (maxL := 2) (ret := (some .int)) (own := RX7) (by decide) rfl rfl (Nat.le_of_ble_eq_true rfl) (fun p e s m below meth c ls C0 hK hk hr hw hl => ?_)
  have hl : lv_has ls 2 [(0, .ref (ad 0))] := hl
  unfold fX7_load at hf
  refine lv_aload_n (pc := 0) C0.1 C0.2.1 dX7_load_0 rfl (lv_at hl 0 rfl) ?_
  refine lv_iconst (v := 0) (pc := 1) C0.1 C0.2.1 dX7_load_1 (by decide) ?_
  refine lv_bipush (v := 9) (pc := 2) C0.1 C0.2.1 dX7_load_2 (by decide) ?_
  obtain ⟨q1, hq1, hf⟩ := bd_e hf
  refine x_backv (pc := 4) hw (x_runV (pc := 4) (As := [.int 0, .int 9]) (rest := []) C0 hK hw hl.1 ⟨Nat.zero_le _, Nat.zero_le _⟩ (kX7_copies l D y ad hI 0 9 u hq1) (by decide) ly_m0 rfl rfl wc_X7_copies wm_X7_35 wi_X7_copies ws_X7_copies wn_X7 ⟨rfl, rfl⟩ hd_X7_copies rfl ⟨Nat.le_of_ble_eq_true rfl, Nat.le_of_ble_eq_true rfl⟩ (Nat.le_of_ble_eq_true rfl) dX7_load_4) (fun H locs hw => ?_)
  refine lv_aload_n (pc := 7) C0.1 C0.2.1 dX7_load_7 rfl (lv_at hl 0 rfl) ?_
  refine lv_iconst (v := 0) (pc := 8) C0.1 C0.2.1 dX7_load_8 (by decide) ?_
  obtain ⟨u2, hu, hf⟩ := nm_f hf
  refine x_put (pc := 9) hI C0 hK hw (by decide) ly_m0 rfl inX7 tyX7_ok nmX7 7 (by decide) wf_X7_139 rfl rfl rfl hu rfl rfl dX7_load_9 (fun H locs hw => ?_)
  refine lv_aload_n (pc := 12) C0.1 C0.2.1 dX7_load_12 rfl (lv_at hl 0 rfl) ?_
  refine lv_iconst (v := 0) (pc := 13) C0.1 C0.2.1 dX7_load_13 (by decide) ?_
  obtain ⟨u3, hu, hf⟩ := nm_f hf
  refine x_put (pc := 14) hI C0 hK hw (by decide) ly_m0 rfl inX7 tyX7_ok nmX7 9 (by decide) wf_X7_133 rfl rfl rfl hu rfl rfl dX7_load_14 (fun H locs hw => ?_)
  refine lv_aload_n (pc := 17) C0.1 C0.2.1 dX7_load_17 rfl (lv_at hl 0 rfl) ?_
  refine x_get (pc := 18) (v := .ref (ad 1)) C0 hK hw (by decide) ly_m0 rfl inX7 0 (by decide) wf_X7_7 rfl rfl dX7_load_18 ?_
  refine lv_iconst (v := 4) (pc := 21) C0.1 C0.2.1 dX7_load_21 (by decide) ?_
  refine lv_iconst (v := 0) (pc := 22) C0.1 C0.2.1 dX7_load_22 (by decide) ?_
  obtain ⟨hi, hf⟩ := gd_e hf
  obtain ⟨u4, hu, hf⟩ := nm_f hf
  refine x_iast (pc := 23) hI C0 hK hw (by decide) ly_m1 hi hu dX7_load_23 (fun H locs hw => ?_)
  refine lv_iconst (v := 1) (pc := 24) C0.1 C0.2.1 dX7_load_24 (by decide) ?_
  refine lv_istore_n (pc := 25) (lv' := [(1, .int 1), (0, .ref (ad 0))]) C0.1 C0.2.1 dX7_load_25 rfl hl (by decide) rfl (fun ls hl => ?_)
  obtain ⟨e5, he5, hf⟩ := bd_e hf
  refine X_loop (pc := 26) (xpc := 49) (fu := fun a1 => a1.2) (fl := fun a1 => [(1, .int a1.1), (0, .ref (ad 0))]) (fun a1 r hf hE hG H locs ls hw hl => ?_) he5 (fun H locs ls hw hl => ?_) hw hl
  · unfold gX7_load_26 at hf
    refine lv_iload_n (pc := 26) C0.1 C0.2.1 dX7_load_26 rfl (lv_at hl 0 rfl) ?_
    refine lv_if_eq (tgt := 49) (pc := 27) C0.1 C0.2.1 dX7_load_27 (by decide) (fun hc => ?_) (fun hc => ?_)
    · have hf := if_t hf hc
      exact hE _ (Option.some.inj hf).symm H locs ls hw (lv_sub hl [0, 1] rfl)
    · have hf := if_f hf hc
      refine lv_aload_n (pc := 30) C0.1 C0.2.1 dX7_load_30 rfl (lv_at hl 1 rfl) ?_
      refine x_get (pc := 31) (v := .int (a1.2.1 0 9)) C0 hK hw (by decide) ly_m0 rfl inX7 9 (by decide) wf_X7_133 rfl rfl dX7_load_31 ?_
      refine lv_aload_n (pc := 34) C0.1 C0.2.1 dX7_load_34 rfl (lv_at hl 1 rfl) ?_
      refine x_get (pc := 35) (v := .int (a1.2.1 0 6)) C0 hK hw (by decide) ly_m0 rfl inX7 6 (by decide) wf_X7_130 rfl rfl dX7_load_35 ?_
      refine lv_icmp_ge (tgt := 49) (pc := 38) C0.1 C0.2.1 dX7_load_38 (by decide) (fun hc => ?_) (fun hc => ?_)
      · have hf := if_t hf hc
        exact hE _ (Option.some.inj hf).symm H locs ls hw (lv_sub hl [0, 1] rfl)
      · have hf := if_f hf hc
        refine lv_aload_n (pc := 41) C0.1 C0.2.1 dX7_load_41 rfl (lv_at hl 1 rfl) ?_
        obtain ⟨q6, hq6, hf⟩ := bd_e hf
        refine x_back (pc := 42) hw (x_runV (pc := 42) (As := []) (rest := []) C0 hK hw hl.1 ⟨Nat.zero_le _, Nat.zero_le _⟩ (kX7_readsTray l D y ad hI  a1.2 hq6) (by decide) ly_m0 rfl rfl wc_X7_readsTray wm_X7_163 wi_X7_readsTray ws_X7_readsTray wn_X7 ⟨rfl, rfl⟩ hd_X7_readsTray rfl ⟨Nat.le_of_ble_eq_true rfl, Nat.le_of_ble_eq_true rfl⟩ (Nat.le_of_ble_eq_true rfl) dX7_load_42) (fun H locs hw => ?_)
        refine lv_istore_n (pc := 45) (lv' := [(1, .int q6.1), (0, .ref (ad 0))]) C0.1 C0.2.1 dX7_load_45 rfl hl (by decide) rfl (fun ls hl => ?_)
        refine lv_goto (tgt := 26) (pc := 46) C0.1 C0.2.1 dX7_load_46 (by decide) ?_
        exact hG _ (Option.some.inj hf).symm H locs ls hw (lv_sub hl [0, 1] rfl)
  · skip
    refine lv_iload_n (pc := 49) C0.1 C0.2.1 dX7_load_49 rfl (lv_at hl 0 rfl) ?_
    refine lv_if_ne (tgt := 68) (pc := 50) C0.1 C0.2.1 dX7_load_50 (by decide) (fun hc => ?_) (fun hc => ?_)
    · have hf := if_f hf hc
      refine lv_aload_n (pc := 68) C0.1 C0.2.1 dX7_load_68 rfl (lv_at hl 1 rfl) ?_
      refine lv_bipush (v := 9) (pc := 69) C0.1 C0.2.1 dX7_load_69 (by decide) ?_
      obtain ⟨q7, hq7, hf⟩ := bd_e hf
      refine x_backv (pc := 71) hw (x_runV (pc := 71) (As := [.int 9]) (rest := []) C0 hK hw hl.1 ⟨Nat.zero_le _, Nat.zero_le _⟩ (kX7_recordsKept l D y ad hI 9 e5.2 hq7) (by decide) ly_m0 rfl rfl wc_X7_recordsKept wm_X7_166 wi_X7_recordsKept ws_X7_recordsKept wn_X7 ⟨rfl, rfl⟩ hd_X7_recordsKept rfl ⟨Nat.le_of_ble_eq_true rfl, Nat.le_of_ble_eq_true rfl⟩ (Nat.le_of_ble_eq_true rfl) dX7_load_71) (fun H locs hw => ?_)
      refine lv_aload_n (pc := 74) C0.1 C0.2.1 dX7_load_74 rfl (lv_at hl 1 rfl) ?_
      obtain ⟨q8, hq8, hf⟩ := bd_e hf
      refine x_backp (pc := 75) hw (x_runV (pc := 75) (As := []) (rest := []) C0 hK hw hl.1 ⟨Nat.zero_le _, Nat.zero_le _⟩ (kX7_trays l D y ad hI  q7 hq8) (by decide) ly_m0 rfl rfl wc_X7_trays wm_X7_39 wi_X7_trays ws_X7_trays wn_X7 ⟨rfl, rfl⟩ hd_X7_trays rfl ⟨Nat.le_of_ble_eq_true rfl, Nat.le_of_ble_eq_true rfl⟩ (Nat.le_of_ble_eq_true rfl) dX7_load_75) (fun H locs hw => ?_)
      exact x_iret (pc := 78) C0 hK hk hr hw (Option.some.inj hf) dX7_load_78
    · have hf := if_t hf hc
      refine lv_aload_n (pc := 53) C0.1 C0.2.1 dX7_load_53 rfl (lv_at hl 1 rfl) ?_
      refine lv_bipush (v := 9) (pc := 54) C0.1 C0.2.1 dX7_load_54 (by decide) ?_
      refine lv_iconst (v := 0) (pc := 56) C0.1 C0.2.1 dX7_load_56 (by decide) ?_
      obtain ⟨q9, hq9, hf⟩ := bd_e hf
      refine x_backv (pc := 57) hw (x_runV (pc := 57) (As := [.int 9, .int 0]) (rest := []) C0 hK hw hl.1 ⟨Nat.zero_le _, Nat.zero_le _⟩ (kX7_copies l D y ad hI 9 0 e5.2 hq9) (by decide) ly_m0 rfl rfl wc_X7_copies wm_X7_35 wi_X7_copies ws_X7_copies wn_X7 ⟨rfl, rfl⟩ hd_X7_copies rfl ⟨Nat.le_of_ble_eq_true rfl, Nat.le_of_ble_eq_true rfl⟩ (Nat.le_of_ble_eq_true rfl) dX7_load_57) (fun H locs hw => ?_)
      refine lv_bipush (v := (-10)) (pc := 60) C0.1 C0.2.1 dX7_load_60 (by decide) ?_
      refine lv_aload_n (pc := 62) C0.1 C0.2.1 dX7_load_62 rfl (lv_at hl 1 rfl) ?_
      refine x_get (pc := 63) (v := .int (q9.1 0 8)) C0 hK hw (by decide) ly_m0 rfl inX7 8 (by decide) wf_X7_141 rfl rfl dX7_load_63 ?_
      refine lv_isub (pc := 66) C0.1 C0.2.1 dX7_load_66 ?_
      exact x_iret (pc := 67) C0 hK hk hr hw (Option.some.inj hf) dX7_load_67
def wX7_faultKind : List Cond := .code yX7_faultKind cX7_faultKind 1 (some .int) :: lwT
def rX7_faultKind : Room := { frames := 0, cells := 0, slots := 0, locals := 0 }
set_option maxRecDepth 100000 in
set_option maxHeartbeats 4000000 in
theorem kX7_faultKind (l : Launch) (D : va_G) (y : Nat → ClassId) (ad : Nat → Nat) (hI : XI ad 8)  (u : S) {o : Int32} (hf : fX7_faultKind  u = some o) : Met l yX7_faultKind wX7_faultKind rX7_faultKind (va_Pc [.ref (ad 0)] (XW D y ad LM 8 u)) (XQi D y ad LM 8 (o, u)) 0 0 (XA ad 8) := by
  refine x_met (bytes := cX7_faultKind) (maxL := 1) (ret := (some .int)) (own := RX7) (by decide) rfl rfl (Nat.le_of_ble_eq_true rfl) (fun p e s m below meth c ls C0 hK hk hr hw hl => ?_)
  have hl : lv_has ls 1 [(0, .ref (ad 0))] := hl
  unfold fX7_faultKind at hf
  refine lv_aload_n (pc := 0) C0.1 C0.2.1 dX7_faultKind_0 rfl (lv_at hl 0 rfl) ?_
  refine x_get (pc := 1) (v := .int (u.1 0 7)) C0 hK hw (by decide) ly_m0 rfl inX7 7 (by decide) wf_X7_139 rfl rfl dX7_faultKind_1 ?_
  exact x_iret (pc := 4) C0 hK hk hr hw (congrArg (fun z => (z, u)) (Option.some.inj hf)) dX7_faultKind_4
def wX7_setBox : List Cond := .code yX7_setBox cX7_setBox 5 (some .int) :: lwT
def rX7_setBox : Room := { frames := 3, cells := 0, slots := 0, locals := 66 }
set_option maxRecDepth 100000 in
set_option maxHeartbeats 4000000 in
theorem kX7_setBox (l : Launch) (D : va_G) (y : Nat → ClassId) (ad : Nat → Nat) (hI : XI ad 8) (v1 : Int32) (v2 : Int32) (v3 : Int32) (u : S) {o : Int32 × S} (hf : fX7_setBox v1 v2 v3 u = some o) : Met l yX7_setBox wX7_setBox rX7_setBox (va_Pc [.ref (ad 0), .int v1, .int v2, .int v3] (XW D y ad LM 8 u)) (XQi D y ad LM 8 o) 0 0 (XA ad 8) := by
  refine x_met (bytes := cX7_setBox) (maxL := 5) (ret := (some .int)) (own := RX7) (by decide) rfl rfl (Nat.le_of_ble_eq_true rfl) (fun p e s m below meth c ls C0 hK hk hr hw hl => ?_)
  have hl : lv_has ls 5 [(0, .ref (ad 0)), (1, .int v1), (2, .int v2), (3, .int v3)] := hl
  unfold fX7_setBox at hf
  refine lv_iload_n (pc := 0) C0.1 C0.2.1 dX7_setBox_0 rfl (lv_at hl 1 rfl) ?_
  refine lv_iconst (v := 2) (pc := 1) C0.1 C0.2.1 dX7_setBox_1 (by decide) ?_
  refine lv_bipush (v := 10) (pc := 2) C0.1 C0.2.1 dX7_setBox_2 (by decide) ?_
  obtain ⟨q1, hq1, hf⟩ := bd_e hf
  refine x_backp (pc := 4) hw (x_runS (pc := 4) (As := [.int v1, .int 2, .int 10]) (rest := []) C0 hK hw hl.1 ⟨Nat.zero_le _, Nat.zero_le _⟩ (kX7_in l D y ad hI v1 2 10 u hq1) rfl wc_X7_in wm_X7_43 wt_X7_in wn_X7 ⟨rfl, rfl⟩ hd_X7_in rfl ⟨Nat.le_of_ble_eq_true rfl, Nat.le_of_ble_eq_true rfl⟩ (Nat.le_of_ble_eq_true rfl) dX7_setBox_4) (fun H locs hw => ?_)
  refine lv_if_eq (tgt := 30) (pc := 7) C0.1 C0.2.1 dX7_setBox_7 (by decide) (fun hc => ?_) (fun hc => ?_)
  · have hf := if_t hf hc
    refine lv_iconst (v := (-1)) (pc := 30) C0.1 C0.2.1 dX7_setBox_30 (by decide) ?_
    exact x_iret (pc := 31) C0 hK hk hr hw (Option.some.inj hf) dX7_setBox_31
  · have hf := if_f hf hc
    refine lv_iload_n (pc := 10) C0.1 C0.2.1 dX7_setBox_10 rfl (lv_at hl 2 rfl) ?_
    refine lv_iconst (v := 2) (pc := 11) C0.1 C0.2.1 dX7_setBox_11 (by decide) ?_
    refine lv_bipush (v := 10) (pc := 12) C0.1 C0.2.1 dX7_setBox_12 (by decide) ?_
    obtain ⟨q2, hq2, hf⟩ := bd_e hf
    refine x_backp (pc := 14) hw (x_runS (pc := 14) (As := [.int v2, .int 2, .int 10]) (rest := []) C0 hK hw hl.1 ⟨Nat.zero_le _, Nat.zero_le _⟩ (kX7_in l D y ad hI v2 2 10 u hq2) rfl wc_X7_in wm_X7_43 wt_X7_in wn_X7 ⟨rfl, rfl⟩ hd_X7_in rfl ⟨Nat.le_of_ble_eq_true rfl, Nat.le_of_ble_eq_true rfl⟩ (Nat.le_of_ble_eq_true rfl) dX7_setBox_14) (fun H locs hw => ?_)
    refine lv_if_eq (tgt := 30) (pc := 17) C0.1 C0.2.1 dX7_setBox_17 (by decide) (fun hc => ?_) (fun hc => ?_)
    · have hf := if_t hf hc
      refine lv_iconst (v := (-1)) (pc := 30) C0.1 C0.2.1 dX7_setBox_30 (by decide) ?_
      exact x_iret (pc := 31) C0 hK hk hr hw (Option.some.inj hf) dX7_setBox_31
    · have hf := if_f hf hc
      refine lv_iload_n (pc := 20) C0.1 C0.2.1 dX7_setBox_20 rfl (lv_at hl 3 rfl) ?_
      refine lv_iconst (v := 1) (pc := 21) C0.1 C0.2.1 dX7_setBox_21 (by decide) ?_
      refine lv_bipush (v := 30) (pc := 22) C0.1 C0.2.1 dX7_setBox_22 (by decide) ?_
      obtain ⟨q3, hq3, hf⟩ := bd_e hf
      refine x_backp (pc := 24) hw (x_runS (pc := 24) (As := [.int v3, .int 1, .int 30]) (rest := []) C0 hK hw hl.1 ⟨Nat.zero_le _, Nat.zero_le _⟩ (kX7_in l D y ad hI v3 1 30 u hq3) rfl wc_X7_in wm_X7_43 wt_X7_in wn_X7 ⟨rfl, rfl⟩ hd_X7_in rfl ⟨Nat.le_of_ble_eq_true rfl, Nat.le_of_ble_eq_true rfl⟩ (Nat.le_of_ble_eq_true rfl) dX7_setBox_24) (fun H locs hw => ?_)
      refine lv_if_ne (tgt := 32) (pc := 27) C0.1 C0.2.1 dX7_setBox_27 (by decide) (fun hc => ?_) (fun hc => ?_)
      · have hf := if_f hf hc
        refine lv_aload_n (pc := 32) C0.1 C0.2.1 dX7_setBox_32 rfl (lv_at hl 0 rfl) ?_
        obtain ⟨q4, hq4, hf⟩ := bd_e hf
        refine x_backv (pc := 33) hw (x_runV (pc := 33) (As := []) (rest := []) C0 hK hw hl.1 ⟨Nat.zero_le _, Nat.zero_le _⟩ (kX7_records l D y ad hI  u hq4) (by decide) ly_m0 rfl rfl wc_X7_records wm_X7_104 wi_X7_records ws_X7_records wn_X7 ⟨rfl, rfl⟩ hd_X7_records rfl ⟨Nat.le_of_ble_eq_true rfl, Nat.le_of_ble_eq_true rfl⟩ (Nat.le_of_ble_eq_true rfl) dX7_setBox_33) (fun H locs hw => ?_)
        refine lv_aload_n (pc := 36) C0.1 C0.2.1 dX7_setBox_36 rfl (lv_at hl 0 rfl) ?_
        obtain ⟨q5, hq5, hf⟩ := bd_e hf
        refine x_backp (pc := 37) hw (x_runV (pc := 37) (As := []) (rest := []) C0 hK hw hl.1 ⟨Nat.zero_le _, Nat.zero_le _⟩ (kX7_inBox l D y ad hI  q4 hq5) (by decide) ly_m0 rfl rfl wc_X7_inBox wm_X7_169 wi_X7_inBox ws_X7_inBox wn_X7 ⟨rfl, rfl⟩ hd_X7_inBox rfl ⟨Nat.le_of_ble_eq_true rfl, Nat.le_of_ble_eq_true rfl⟩ (Nat.le_of_ble_eq_true rfl) dX7_setBox_37) (fun H locs hw => ?_)
        refine lv_istore (pc := 40) (lv' := [(4, .int q5), (0, .ref (ad 0)), (1, .int v1), (2, .int v2), (3, .int v3)]) C0.1 C0.2.1 dX7_setBox_40 hl (by decide) rfl (fun ls hl => ?_)
        refine lv_aload_n (pc := 42) C0.1 C0.2.1 dX7_setBox_42 rfl (lv_at hl 1 rfl) ?_
        obtain ⟨q6, hq6, hf⟩ := bd_e hf
        refine x_backv (pc := 43) hw (x_runV (pc := 43) (As := []) (rest := []) C0 hK hw hl.1 ⟨Nat.zero_le _, Nat.zero_le _⟩ (kX7_empties l D y ad hI  q4 hq6) (by decide) ly_m0 rfl rfl wc_X7_empties wm_X7_172 wi_X7_empties ws_X7_empties wn_X7 ⟨rfl, rfl⟩ hd_X7_empties rfl ⟨Nat.le_of_ble_eq_true rfl, Nat.le_of_ble_eq_true rfl⟩ (Nat.le_of_ble_eq_true rfl) dX7_setBox_43) (fun H locs hw => ?_)
        refine lv_aload_n (pc := 46) C0.1 C0.2.1 dX7_setBox_46 rfl (lv_at hl 1 rfl) ?_
        refine x_get (pc := 47) (v := .ref (ad 1)) C0 hK hw (by decide) ly_m0 rfl inX7 0 (by decide) wf_X7_7 rfl rfl dX7_setBox_47 ?_
        refine lv_iconst (v := 0) (pc := 50) C0.1 C0.2.1 dX7_setBox_50 (by decide) ?_
        refine lv_iload_n (pc := 51) C0.1 C0.2.1 dX7_setBox_51 rfl (lv_at hl 2 rfl) ?_
        obtain ⟨hi, hf⟩ := gd_e hf
        obtain ⟨u7, hu, hf⟩ := nm_f hf
        refine x_iast (pc := 52) hI C0 hK hw (by decide) ly_m1 hi hu dX7_setBox_52 (fun H locs hw => ?_)
        refine lv_aload_n (pc := 53) C0.1 C0.2.1 dX7_setBox_53 rfl (lv_at hl 1 rfl) ?_
        refine x_get (pc := 54) (v := .ref (ad 1)) C0 hK hw (by decide) ly_m0 rfl inX7 0 (by decide) wf_X7_7 rfl rfl dX7_setBox_54 ?_
        refine lv_iconst (v := 1) (pc := 57) C0.1 C0.2.1 dX7_setBox_57 (by decide) ?_
        refine lv_iload_n (pc := 58) C0.1 C0.2.1 dX7_setBox_58 rfl (lv_at hl 3 rfl) ?_
        obtain ⟨hi, hf⟩ := gd_e hf
        obtain ⟨u8, hu, hf⟩ := nm_f hf
        refine x_iast (pc := 59) hI C0 hK hw (by decide) ly_m1 hi hu dX7_setBox_59 (fun H locs hw => ?_)
        refine lv_aload_n (pc := 60) C0.1 C0.2.1 dX7_setBox_60 rfl (lv_at hl 1 rfl) ?_
        refine x_get (pc := 61) (v := .ref (ad 1)) C0 hK hw (by decide) ly_m0 rfl inX7 0 (by decide) wf_X7_7 rfl rfl dX7_setBox_61 ?_
        refine lv_iconst (v := 2) (pc := 64) C0.1 C0.2.1 dX7_setBox_64 (by decide) ?_
        refine lv_iload_n (pc := 65) C0.1 C0.2.1 dX7_setBox_65 rfl (lv_at hl 4 rfl) ?_
        obtain ⟨hi, hf⟩ := gd_e hf
        obtain ⟨u9, hu, hf⟩ := nm_f hf
        refine x_iast (pc := 66) hI C0 hK hw (by decide) ly_m1 hi hu dX7_setBox_66 (fun H locs hw => ?_)
        refine lv_iload (pc := 67) C0.1 C0.2.1 dX7_setBox_67 (lv_at hl 0 rfl) ?_
        exact x_iret (pc := 69) C0 hK hk hr hw (Option.some.inj hf) dX7_setBox_69
      · have hf := if_t hf hc
        refine lv_iconst (v := (-1)) (pc := 30) C0.1 C0.2.1 dX7_setBox_30 (by decide) ?_
        exact x_iret (pc := 31) C0 hK hk hr hw (Option.some.inj hf) dX7_setBox_31
def wX7_setShare : List Cond := .code yX7_setShare cX7_setShare 3 (some .int) :: lwT
def rX7_setShare : Room := { frames := 2, cells := 0, slots := 0, locals := 44 }
set_option maxRecDepth 100000 in
set_option maxHeartbeats 4000000 in
theorem kX7_setShare (l : Launch) (D : va_G) (y : Nat → ClassId) (ad : Nat → Nat) (hI : XI ad 8) (v1 : Int32) (u : S) {o : Int32 × S} (hf : fX7_setShare v1 u = some o) : Met l yX7_setShare wX7_setShare rX7_setShare (va_Pc [.ref (ad 0), .int v1] (XW D y ad LM 8 u)) (XQi D y ad LM 8 o) 0 0 (XA ad 8) := by
  refine x_met (bytes := cX7_setShare) (maxL := 3) (ret := (some .int)) (own := RX7) (by decide) rfl rfl (Nat.le_of_ble_eq_true rfl) (fun p e s m below meth c ls C0 hK hk hr hw hl => ?_)
  have hl : lv_has ls 3 [(0, .ref (ad 0)), (1, .int v1)] := hl
  unfold fX7_setShare at hf
  refine lv_iload_n (pc := 0) C0.1 C0.2.1 dX7_setShare_0 rfl (lv_at hl 1 rfl) ?_
  refine lv_iconst (v := 0) (pc := 1) C0.1 C0.2.1 dX7_setShare_1 (by decide) ?_
  refine lv_bipush (v := 100) (pc := 2) C0.1 C0.2.1 dX7_setShare_2 (by decide) ?_
  obtain ⟨q1, hq1, hf⟩ := bd_e hf
  refine x_backp (pc := 4) hw (x_runS (pc := 4) (As := [.int v1, .int 0, .int 100]) (rest := []) C0 hK hw hl.1 ⟨Nat.zero_le _, Nat.zero_le _⟩ (kX7_in l D y ad hI v1 0 100 u hq1) rfl wc_X7_in wm_X7_43 wt_X7_in wn_X7 ⟨rfl, rfl⟩ hd_X7_in rfl ⟨Nat.le_of_ble_eq_true rfl, Nat.le_of_ble_eq_true rfl⟩ (Nat.le_of_ble_eq_true rfl) dX7_setShare_4) (fun H locs hw => ?_)
  refine lv_if_ne (tgt := 12) (pc := 7) C0.1 C0.2.1 dX7_setShare_7 (by decide) (fun hc => ?_) (fun hc => ?_)
  · have hf := if_f hf hc
    refine lv_aload_n (pc := 12) C0.1 C0.2.1 dX7_setShare_12 rfl (lv_at hl 0 rfl) ?_
    obtain ⟨q2, hq2, hf⟩ := bd_e hf
    refine x_backv (pc := 13) hw (x_runV (pc := 13) (As := []) (rest := []) C0 hK hw hl.1 ⟨Nat.zero_le _, Nat.zero_le _⟩ (kX7_records l D y ad hI  u hq2) (by decide) ly_m0 rfl rfl wc_X7_records wm_X7_104 wi_X7_records ws_X7_records wn_X7 ⟨rfl, rfl⟩ hd_X7_records rfl ⟨Nat.le_of_ble_eq_true rfl, Nat.le_of_ble_eq_true rfl⟩ (Nat.le_of_ble_eq_true rfl) dX7_setShare_13) (fun H locs hw => ?_)
    refine lv_aload_n (pc := 16) C0.1 C0.2.1 dX7_setShare_16 rfl (lv_at hl 0 rfl) ?_
    refine x_get (pc := 17) (v := .ref (ad 1)) C0 hK hw (by decide) ly_m0 rfl inX7 0 (by decide) wf_X7_7 rfl rfl dX7_setShare_17 ?_
    refine lv_iconst (v := 3) (pc := 20) C0.1 C0.2.1 dX7_setShare_20 (by decide) ?_
    obtain ⟨hi, hf⟩ := gd_e hf
    refine x_iald (pc := 21) C0 hK hw (by decide) ly_m1 hi dX7_setShare_21 ?_
    refine lv_istore_n (pc := 22) (lv' := [(2, .int (q2.1 1 (3 : Int32).toNatClampNeg)), (0, .ref (ad 0)), (1, .int v1)]) C0.1 C0.2.1 dX7_setShare_22 rfl hl (by decide) rfl (fun ls hl => ?_)
    refine lv_aload_n (pc := 23) C0.1 C0.2.1 dX7_setShare_23 rfl (lv_at hl 1 rfl) ?_
    refine x_get (pc := 24) (v := .ref (ad 1)) C0 hK hw (by decide) ly_m0 rfl inX7 0 (by decide) wf_X7_7 rfl rfl dX7_setShare_24 ?_
    refine lv_iconst (v := 3) (pc := 27) C0.1 C0.2.1 dX7_setShare_27 (by decide) ?_
    refine lv_iload_n (pc := 28) C0.1 C0.2.1 dX7_setShare_28 rfl (lv_at hl 2 rfl) ?_
    obtain ⟨hi, hf⟩ := gd_e hf
    obtain ⟨u3, hu, hf⟩ := nm_f hf
    refine x_iast (pc := 29) hI C0 hK hw (by decide) ly_m1 hi hu dX7_setShare_29 (fun H locs hw => ?_)
    refine lv_iload_n (pc := 30) C0.1 C0.2.1 dX7_setShare_30 rfl (lv_at hl 0 rfl) ?_
    exact x_iret (pc := 31) C0 hK hk hr hw (Option.some.inj hf) dX7_setShare_31
  · have hf := if_t hf hc
    refine lv_iconst (v := (-1)) (pc := 10) C0.1 C0.2.1 dX7_setShare_10 (by decide) ?_
    exact x_iret (pc := 11) C0 hK hk hr hw (Option.some.inj hf) dX7_setShare_11
def wX7_add : List Cond := .code yX7_add cX7_add 6 (some .int) :: lwT
def rX7_add : Room := { frames := 2, cells := 0, slots := 0, locals := 45 }
set_option maxRecDepth 100000 in
set_option maxHeartbeats 4000000 in
theorem kX7_add (l : Launch) (D : va_G) (y : Nat → ClassId) (ad : Nat → Nat) (hI : XI ad 8) (v1 : Int32) (v2 : Int32) (v3 : Int32) (v4 : Int32) (u : S) {o : Int32 × S} (hf : fX7_add v1 v2 v3 v4 u = some o) : Met l yX7_add wX7_add rX7_add (va_Pc [.ref (ad 0), .int v1, .int v2, .int v3, .int v4] (XW D y ad LM 8 u)) (XQi D y ad LM 8 o) 0 0 (XA ad 8) := by
  refine x_met (bytes := cX7_add) (maxL := 6) (ret := (some .int)) (own := RX7) (by decide) rfl rfl (Nat.le_of_ble_eq_true rfl) (fun p e s m below meth c ls C0 hK hk hr hw hl => ?_)
  have hl : lv_has ls 6 [(0, .ref (ad 0)), (1, .int v1), (2, .int v2), (3, .int v3), (4, .int v4)] := hl
  unfold fX7_add at hf
  refine lv_iload_n (pc := 0) C0.1 C0.2.1 dX7_add_0 rfl (lv_at hl 1 rfl) ?_
  refine lv_iconst (v := 1) (pc := 1) C0.1 C0.2.1 dX7_add_1 (by decide) ?_
  refine lv_bipush (v := 10) (pc := 2) C0.1 C0.2.1 dX7_add_2 (by decide) ?_
  obtain ⟨q1, hq1, hf⟩ := bd_e hf
  refine x_backp (pc := 4) hw (x_runS (pc := 4) (As := [.int v1, .int 1, .int 10]) (rest := []) C0 hK hw hl.1 ⟨Nat.zero_le _, Nat.zero_le _⟩ (kX7_in l D y ad hI v1 1 10 u hq1) rfl wc_X7_in wm_X7_43 wt_X7_in wn_X7 ⟨rfl, rfl⟩ hd_X7_in rfl ⟨Nat.le_of_ble_eq_true rfl, Nat.le_of_ble_eq_true rfl⟩ (Nat.le_of_ble_eq_true rfl) dX7_add_4) (fun H locs hw => ?_)
  refine lv_if_eq (tgt := 41) (pc := 7) C0.1 C0.2.1 dX7_add_7 (by decide) (fun hc => ?_) (fun hc => ?_)
  · have hf := if_t hf hc
    refine lv_iconst (v := (-1)) (pc := 41) C0.1 C0.2.1 dX7_add_41 (by decide) ?_
    exact x_iret (pc := 42) C0 hK hk hr hw (Option.some.inj hf) dX7_add_42
  · have hf := if_f hf hc
    refine lv_iload_n (pc := 10) C0.1 C0.2.1 dX7_add_10 rfl (lv_at hl 2 rfl) ?_
    refine lv_iconst (v := 1) (pc := 11) C0.1 C0.2.1 dX7_add_11 (by decide) ?_
    refine lv_bipush (v := 10) (pc := 12) C0.1 C0.2.1 dX7_add_12 (by decide) ?_
    obtain ⟨q2, hq2, hf⟩ := bd_e hf
    refine x_backp (pc := 14) hw (x_runS (pc := 14) (As := [.int v2, .int 1, .int 10]) (rest := []) C0 hK hw hl.1 ⟨Nat.zero_le _, Nat.zero_le _⟩ (kX7_in l D y ad hI v2 1 10 u hq2) rfl wc_X7_in wm_X7_43 wt_X7_in wn_X7 ⟨rfl, rfl⟩ hd_X7_in rfl ⟨Nat.le_of_ble_eq_true rfl, Nat.le_of_ble_eq_true rfl⟩ (Nat.le_of_ble_eq_true rfl) dX7_add_14) (fun H locs hw => ?_)
    refine lv_if_eq (tgt := 41) (pc := 17) C0.1 C0.2.1 dX7_add_17 (by decide) (fun hc => ?_) (fun hc => ?_)
    · have hf := if_t hf hc
      refine lv_iconst (v := (-1)) (pc := 41) C0.1 C0.2.1 dX7_add_41 (by decide) ?_
      exact x_iret (pc := 42) C0 hK hk hr hw (Option.some.inj hf) dX7_add_42
    · have hf := if_f hf hc
      refine lv_iload_n (pc := 20) C0.1 C0.2.1 dX7_add_20 rfl (lv_at hl 3 rfl) ?_
      refine lv_iconst (v := 1) (pc := 21) C0.1 C0.2.1 dX7_add_21 (by decide) ?_
      refine lv_bipush (v := 9) (pc := 22) C0.1 C0.2.1 dX7_add_22 (by decide) ?_
      obtain ⟨q3, hq3, hf⟩ := bd_e hf
      refine x_backp (pc := 24) hw (x_runS (pc := 24) (As := [.int v3, .int 1, .int 9]) (rest := []) C0 hK hw hl.1 ⟨Nat.zero_le _, Nat.zero_le _⟩ (kX7_in l D y ad hI v3 1 9 u hq3) rfl wc_X7_in wm_X7_43 wt_X7_in wn_X7 ⟨rfl, rfl⟩ hd_X7_in rfl ⟨Nat.le_of_ble_eq_true rfl, Nat.le_of_ble_eq_true rfl⟩ (Nat.le_of_ble_eq_true rfl) dX7_add_24) (fun H locs hw => ?_)
      refine lv_if_eq (tgt := 41) (pc := 27) C0.1 C0.2.1 dX7_add_27 (by decide) (fun hc => ?_) (fun hc => ?_)
      · have hf := if_t hf hc
        refine lv_iconst (v := (-1)) (pc := 41) C0.1 C0.2.1 dX7_add_41 (by decide) ?_
        exact x_iret (pc := 42) C0 hK hk hr hw (Option.some.inj hf) dX7_add_42
      · have hf := if_f hf hc
        refine lv_iload (pc := 30) C0.1 C0.2.1 dX7_add_30 (lv_at hl 4 rfl) ?_
        refine lv_iconst (v := 0) (pc := 32) C0.1 C0.2.1 dX7_add_32 (by decide) ?_
        refine lv_bipush (v := 9) (pc := 33) C0.1 C0.2.1 dX7_add_33 (by decide) ?_
        obtain ⟨q4, hq4, hf⟩ := bd_e hf
        refine x_backp (pc := 35) hw (x_runS (pc := 35) (As := [.int v4, .int 0, .int 9]) (rest := []) C0 hK hw hl.1 ⟨Nat.zero_le _, Nat.zero_le _⟩ (kX7_in l D y ad hI v4 0 9 u hq4) rfl wc_X7_in wm_X7_43 wt_X7_in wn_X7 ⟨rfl, rfl⟩ hd_X7_in rfl ⟨Nat.le_of_ble_eq_true rfl, Nat.le_of_ble_eq_true rfl⟩ (Nat.le_of_ble_eq_true rfl) dX7_add_35) (fun H locs hw => ?_)
        refine lv_if_ne (tgt := 43) (pc := 38) C0.1 C0.2.1 dX7_add_38 (by decide) (fun hc => ?_) (fun hc => ?_)
        · have hf := if_f hf hc
          refine lv_aload_n (pc := 43) C0.1 C0.2.1 dX7_add_43 rfl (lv_at hl 0 rfl) ?_
          obtain ⟨q5, hq5, hf⟩ := bd_e hf
          refine x_backp (pc := 44) hw (x_runV (pc := 44) (As := []) (rest := []) C0 hK hw hl.1 ⟨Nat.zero_le _, Nat.zero_le _⟩ (kX7_trays l D y ad hI  u hq5) (by decide) ly_m0 rfl rfl wc_X7_trays wm_X7_39 wi_X7_trays ws_X7_trays wn_X7 ⟨rfl, rfl⟩ hd_X7_trays rfl ⟨Nat.le_of_ble_eq_true rfl, Nat.le_of_ble_eq_true rfl⟩ (Nat.le_of_ble_eq_true rfl) dX7_add_44) (fun H locs hw => ?_)
          refine lv_bipush (v := 12) (pc := 47) C0.1 C0.2.1 dX7_add_47 (by decide) ?_
          refine lv_icmp_ne (tgt := 55) (pc := 49) C0.1 C0.2.1 dX7_add_49 (by decide) (fun hc => ?_) (fun hc => ?_)
          · have hf := if_f hf hc
            refine lv_aload_n (pc := 55) C0.1 C0.2.1 dX7_add_55 rfl (lv_at hl 0 rfl) ?_
            obtain ⟨q6, hq6, hf⟩ := bd_e hf
            refine x_backv (pc := 56) hw (x_runV (pc := 56) (As := []) (rest := []) C0 hK hw hl.1 ⟨Nat.zero_le _, Nat.zero_le _⟩ (kX7_records l D y ad hI  u hq6) (by decide) ly_m0 rfl rfl wc_X7_records wm_X7_104 wi_X7_records ws_X7_records wn_X7 ⟨rfl, rfl⟩ hd_X7_records rfl ⟨Nat.le_of_ble_eq_true rfl, Nat.le_of_ble_eq_true rfl⟩ (Nat.le_of_ble_eq_true rfl) dX7_add_56) (fun H locs hw => ?_)
            refine lv_aload_n (pc := 59) C0.1 C0.2.1 dX7_add_59 rfl (lv_at hl 0 rfl) ?_
            obtain ⟨q7, hq7, hf⟩ := bd_e hf
            refine x_backp (pc := 60) hw (x_runV (pc := 60) (As := []) (rest := []) C0 hK hw hl.1 ⟨Nat.zero_le _, Nat.zero_le _⟩ (kX7_trays l D y ad hI  q6 hq7) (by decide) ly_m0 rfl rfl wc_X7_trays wm_X7_39 wi_X7_trays ws_X7_trays wn_X7 ⟨rfl, rfl⟩ hd_X7_trays rfl ⟨Nat.le_of_ble_eq_true rfl, Nat.le_of_ble_eq_true rfl⟩ (Nat.le_of_ble_eq_true rfl) dX7_add_60) (fun H locs hw => ?_)
            refine lv_istore (pc := 63) (lv' := [(5, .int q7), (0, .ref (ad 0)), (1, .int v1), (2, .int v2), (3, .int v3), (4, .int v4)]) C0.1 C0.2.1 dX7_add_63 hl (by decide) rfl (fun ls hl => ?_)
            refine lv_aload_n (pc := 65) C0.1 C0.2.1 dX7_add_65 rfl (lv_at hl 1 rfl) ?_
            refine lv_iload (pc := 66) C0.1 C0.2.1 dX7_add_66 (lv_at hl 0 rfl) ?_
            obtain ⟨q8, hq8, hf⟩ := bd_e hf
            refine x_backv (pc := 68) hw (x_runV (pc := 68) (As := [.int q7]) (rest := []) C0 hK hw hl.1 ⟨Nat.zero_le _, Nat.zero_le _⟩ (kX7_leaves l D y ad hI q7 q6 hq8) (by decide) ly_m0 rfl rfl wc_X7_leaves wm_X7_67 wi_X7_leaves ws_X7_leaves wn_X7 ⟨rfl, rfl⟩ hd_X7_leaves rfl ⟨Nat.le_of_ble_eq_true rfl, Nat.le_of_ble_eq_true rfl⟩ (Nat.le_of_ble_eq_true rfl) dX7_add_68) (fun H locs hw => ?_)
            refine lv_aload_n (pc := 71) C0.1 C0.2.1 dX7_add_71 rfl (lv_at hl 1 rfl) ?_
            refine lv_iload (pc := 72) C0.1 C0.2.1 dX7_add_72 (lv_at hl 0 rfl) ?_
            refine lv_iconst (v := 0) (pc := 74) C0.1 C0.2.1 dX7_add_74 (by decide) ?_
            refine lv_iload_n (pc := 75) C0.1 C0.2.1 dX7_add_75 rfl (lv_at hl 2 rfl) ?_
            obtain ⟨q9, hq9, hf⟩ := bd_e hf
            refine x_backv (pc := 76) hw (x_runV (pc := 76) (As := [.int q7, .int 0, .int v1]) (rest := []) C0 hK hw hl.1 ⟨Nat.zero_le _, Nat.zero_le _⟩ (kX7_sets l D y ad hI q7 0 v1 q8 hq9) (by decide) ly_m0 rfl rfl wc_X7_sets wm_X7_63 wi_X7_sets ws_X7_sets wn_X7 ⟨rfl, rfl⟩ hd_X7_sets rfl ⟨Nat.le_of_ble_eq_true rfl, Nat.le_of_ble_eq_true rfl⟩ (Nat.le_of_ble_eq_true rfl) dX7_add_76) (fun H locs hw => ?_)
            refine lv_aload_n (pc := 79) C0.1 C0.2.1 dX7_add_79 rfl (lv_at hl 1 rfl) ?_
            refine lv_iload (pc := 80) C0.1 C0.2.1 dX7_add_80 (lv_at hl 0 rfl) ?_
            refine lv_iconst (v := 1) (pc := 82) C0.1 C0.2.1 dX7_add_82 (by decide) ?_
            refine lv_iload_n (pc := 83) C0.1 C0.2.1 dX7_add_83 rfl (lv_at hl 3 rfl) ?_
            obtain ⟨q10, hq10, hf⟩ := bd_e hf
            refine x_backv (pc := 84) hw (x_runV (pc := 84) (As := [.int q7, .int 1, .int v2]) (rest := []) C0 hK hw hl.1 ⟨Nat.zero_le _, Nat.zero_le _⟩ (kX7_sets l D y ad hI q7 1 v2 q9 hq10) (by decide) ly_m0 rfl rfl wc_X7_sets wm_X7_63 wi_X7_sets ws_X7_sets wn_X7 ⟨rfl, rfl⟩ hd_X7_sets rfl ⟨Nat.le_of_ble_eq_true rfl, Nat.le_of_ble_eq_true rfl⟩ (Nat.le_of_ble_eq_true rfl) dX7_add_84) (fun H locs hw => ?_)
            refine lv_aload_n (pc := 87) C0.1 C0.2.1 dX7_add_87 rfl (lv_at hl 1 rfl) ?_
            refine lv_iload (pc := 88) C0.1 C0.2.1 dX7_add_88 (lv_at hl 0 rfl) ?_
            refine lv_iconst (v := 2) (pc := 90) C0.1 C0.2.1 dX7_add_90 (by decide) ?_
            refine lv_iload_n (pc := 91) C0.1 C0.2.1 dX7_add_91 rfl (lv_at hl 4 rfl) ?_
            obtain ⟨q11, hq11, hf⟩ := bd_e hf
            refine x_backv (pc := 92) hw (x_runV (pc := 92) (As := [.int q7, .int 2, .int v3]) (rest := []) C0 hK hw hl.1 ⟨Nat.zero_le _, Nat.zero_le _⟩ (kX7_sets l D y ad hI q7 2 v3 q10 hq11) (by decide) ly_m0 rfl rfl wc_X7_sets wm_X7_63 wi_X7_sets ws_X7_sets wn_X7 ⟨rfl, rfl⟩ hd_X7_sets rfl ⟨Nat.le_of_ble_eq_true rfl, Nat.le_of_ble_eq_true rfl⟩ (Nat.le_of_ble_eq_true rfl) dX7_add_92) (fun H locs hw => ?_)
            refine lv_aload_n (pc := 95) C0.1 C0.2.1 dX7_add_95 rfl (lv_at hl 1 rfl) ?_
            refine lv_iload (pc := 96) C0.1 C0.2.1 dX7_add_96 (lv_at hl 0 rfl) ?_
            refine lv_iconst (v := 3) (pc := 98) C0.1 C0.2.1 dX7_add_98 (by decide) ?_
            refine lv_iload (pc := 99) C0.1 C0.2.1 dX7_add_99 (lv_at hl 5 rfl) ?_
            obtain ⟨q12, hq12, hf⟩ := bd_e hf
            refine x_backv (pc := 101) hw (x_runV (pc := 101) (As := [.int q7, .int 3, .int v4]) (rest := []) C0 hK hw hl.1 ⟨Nat.zero_le _, Nat.zero_le _⟩ (kX7_sets l D y ad hI q7 3 v4 q11 hq12) (by decide) ly_m0 rfl rfl wc_X7_sets wm_X7_63 wi_X7_sets ws_X7_sets wn_X7 ⟨rfl, rfl⟩ hd_X7_sets rfl ⟨Nat.le_of_ble_eq_true rfl, Nat.le_of_ble_eq_true rfl⟩ (Nat.le_of_ble_eq_true rfl) dX7_add_101) (fun H locs hw => ?_)
            refine lv_aload_n (pc := 104) C0.1 C0.2.1 dX7_add_104 rfl (lv_at hl 1 rfl) ?_
            refine lv_iload (pc := 105) C0.1 C0.2.1 dX7_add_105 (lv_at hl 0 rfl) ?_
            refine lv_iconst (v := 4) (pc := 107) C0.1 C0.2.1 dX7_add_107 (by decide) ?_
            refine lv_iconst (v := 0) (pc := 108) C0.1 C0.2.1 dX7_add_108 (by decide) ?_
            obtain ⟨q13, hq13, hf⟩ := bd_e hf
            refine x_backv (pc := 109) hw (x_runV (pc := 109) (As := [.int q7, .int 4, .int 0]) (rest := []) C0 hK hw hl.1 ⟨Nat.zero_le _, Nat.zero_le _⟩ (kX7_sets l D y ad hI q7 4 0 q12 hq13) (by decide) ly_m0 rfl rfl wc_X7_sets wm_X7_63 wi_X7_sets ws_X7_sets wn_X7 ⟨rfl, rfl⟩ hd_X7_sets rfl ⟨Nat.le_of_ble_eq_true rfl, Nat.le_of_ble_eq_true rfl⟩ (Nat.le_of_ble_eq_true rfl) dX7_add_109) (fun H locs hw => ?_)
            refine lv_aload_n (pc := 112) C0.1 C0.2.1 dX7_add_112 rfl (lv_at hl 1 rfl) ?_
            refine x_get (pc := 113) (v := .ref (ad 1)) C0 hK hw (by decide) ly_m0 rfl inX7 0 (by decide) wf_X7_7 rfl rfl dX7_add_113 ?_
            refine lv_iconst (v := 4) (pc := 116) C0.1 C0.2.1 dX7_add_116 (by decide) ?_
            refine lv_dup2_11 (pc := 117) C0.1 C0.2.1 dX7_add_117 rfl rfl ?_
            obtain ⟨hi, hf⟩ := gd_e hf
            refine x_iald (pc := 118) C0 hK hw (by decide) ly_m1 hi dX7_add_118 ?_
            refine lv_iconst (v := 1) (pc := 119) C0.1 C0.2.1 dX7_add_119 (by decide) ?_
            refine lv_iadd (pc := 120) C0.1 C0.2.1 dX7_add_120 ?_
            obtain ⟨hi, hf⟩ := gd_e hf
            obtain ⟨u14, hu, hf⟩ := nm_f hf
            refine x_iast (pc := 121) hI C0 hK hw (by decide) ly_m1 hi hu dX7_add_121 (fun H locs hw => ?_)
            refine lv_iload (pc := 122) C0.1 C0.2.1 dX7_add_122 (lv_at hl 0 rfl) ?_
            exact x_iret (pc := 124) C0 hK hk hr hw (Option.some.inj hf) dX7_add_124
          · have hf := if_t hf hc
            refine lv_bipush (v := (-3)) (pc := 52) C0.1 C0.2.1 dX7_add_52 (by decide) ?_
            exact x_iret (pc := 54) C0 hK hk hr hw (Option.some.inj hf) dX7_add_54
        · have hf := if_t hf hc
          refine lv_iconst (v := (-1)) (pc := 41) C0.1 C0.2.1 dX7_add_41 (by decide) ?_
          exact x_iret (pc := 42) C0 hK hk hr hw (Option.some.inj hf) dX7_add_42
def wX7_drop : List Cond := .code yX7_drop cX7_drop 3 (some .int) :: lwT
def rX7_drop : Room := { frames := 2, cells := 0, slots := 0, locals := 44 }
set_option maxRecDepth 100000 in
set_option maxHeartbeats 4000000 in
theorem kX7_drop (l : Launch) (D : va_G) (y : Nat → ClassId) (ad : Nat → Nat) (hI : XI ad 8) (v1 : Int32) (u : S) {o : Int32 × S} (hf : fX7_drop v1 u = some o) : Met l yX7_drop wX7_drop rX7_drop (va_Pc [.ref (ad 0), .int v1] (XW D y ad LM 8 u)) (XQi D y ad LM 8 o) 0 0 (XA ad 8) := by
  refine x_met (bytes := cX7_drop) (maxL := 3) (ret := (some .int)) (own := RX7) (by decide) rfl rfl (Nat.le_of_ble_eq_true rfl) (fun p e s m below meth c ls C0 hK hk hr hw hl => ?_)
  have hl : lv_has ls 3 [(0, .ref (ad 0)), (1, .int v1)] := hl
  unfold fX7_drop at hf
  refine lv_aload_n (pc := 0) C0.1 C0.2.1 dX7_drop_0 rfl (lv_at hl 0 rfl) ?_
  refine lv_iload_n (pc := 1) C0.1 C0.2.1 dX7_drop_1 rfl (lv_at hl 1 rfl) ?_
  obtain ⟨q1, hq1, hf⟩ := bd_e hf
  refine x_backp (pc := 2) hw (x_runV (pc := 2) (As := [.int v1]) (rest := []) C0 hK hw hl.1 ⟨Nat.zero_le _, Nat.zero_le _⟩ (kX7_isTray l D y ad hI v1 u hq1) (by decide) ly_m0 rfl rfl wc_X7_isTray wm_X7_94 wi_X7_isTray ws_X7_isTray wn_X7 ⟨rfl, rfl⟩ hd_X7_isTray rfl ⟨Nat.le_of_ble_eq_true rfl, Nat.le_of_ble_eq_true rfl⟩ (Nat.le_of_ble_eq_true rfl) dX7_drop_2) (fun H locs hw => ?_)
  refine lv_if_ne (tgt := 10) (pc := 5) C0.1 C0.2.1 dX7_drop_5 (by decide) (fun hc => ?_) (fun hc => ?_)
  · have hf := if_f hf hc
    refine lv_aload_n (pc := 10) C0.1 C0.2.1 dX7_drop_10 rfl (lv_at hl 0 rfl) ?_
    refine lv_iload_n (pc := 11) C0.1 C0.2.1 dX7_drop_11 rfl (lv_at hl 1 rfl) ?_
    obtain ⟨q2, hq2, hf⟩ := bd_e hf
    refine x_backp (pc := 12) hw (x_runV (pc := 12) (As := [.int v1]) (rest := []) C0 hK hw hl.1 ⟨Nat.zero_le _, Nat.zero_le _⟩ (kX7_isIn l D y ad hI v1 u hq2) (by decide) ly_m0 rfl rfl wc_X7_isIn wm_X7_71 wi_X7_isIn ws_X7_isIn wn_X7 ⟨rfl, rfl⟩ hd_X7_isIn rfl ⟨Nat.le_of_ble_eq_true rfl, Nat.le_of_ble_eq_true rfl⟩ (Nat.le_of_ble_eq_true rfl) dX7_drop_12) (fun H locs hw => ?_)
    refine lv_if_eq (tgt := 21) (pc := 15) C0.1 C0.2.1 dX7_drop_15 (by decide) (fun hc => ?_) (fun hc => ?_)
    · have hf := if_t hf hc
      refine lv_aload_n (pc := 21) C0.1 C0.2.1 dX7_drop_21 rfl (lv_at hl 0 rfl) ?_
      obtain ⟨q3, hq3, hf⟩ := bd_e hf
      refine x_backv (pc := 22) hw (x_runV (pc := 22) (As := []) (rest := []) C0 hK hw hl.1 ⟨Nat.zero_le _, Nat.zero_le _⟩ (kX7_records l D y ad hI  u hq3) (by decide) ly_m0 rfl rfl wc_X7_records wm_X7_104 wi_X7_records ws_X7_records wn_X7 ⟨rfl, rfl⟩ hd_X7_records rfl ⟨Nat.le_of_ble_eq_true rfl, Nat.le_of_ble_eq_true rfl⟩ (Nat.le_of_ble_eq_true rfl) dX7_drop_22) (fun H locs hw => ?_)
      refine lv_aload_n (pc := 25) C0.1 C0.2.1 dX7_drop_25 rfl (lv_at hl 0 rfl) ?_
      refine x_get (pc := 26) (v := .ref (ad 1)) C0 hK hw (by decide) ly_m0 rfl inX7 0 (by decide) wf_X7_7 rfl rfl dX7_drop_26 ?_
      refine lv_iconst (v := 4) (pc := 29) C0.1 C0.2.1 dX7_drop_29 (by decide) ?_
      refine lv_dup2_11 (pc := 30) C0.1 C0.2.1 dX7_drop_30 rfl rfl ?_
      obtain ⟨hi, hf⟩ := gd_e hf
      refine x_iald (pc := 31) C0 hK hw (by decide) ly_m1 hi dX7_drop_31 ?_
      refine lv_iconst (v := 1) (pc := 32) C0.1 C0.2.1 dX7_drop_32 (by decide) ?_
      refine lv_isub (pc := 33) C0.1 C0.2.1 dX7_drop_33 ?_
      obtain ⟨hi, hf⟩ := gd_e hf
      obtain ⟨u4, hu, hf⟩ := nm_f hf
      refine x_iast (pc := 34) hI C0 hK hw (by decide) ly_m1 hi hu dX7_drop_34 (fun H locs hw => ?_)
      refine lv_iconst (v := 5) (pc := 35) C0.1 C0.2.1 dX7_drop_35 (by decide) ?_
      refine lv_bipush (v := 10) (pc := 36) C0.1 C0.2.1 dX7_drop_36 (by decide) ?_
      refine lv_iload_n (pc := 38) C0.1 C0.2.1 dX7_drop_38 rfl (lv_at hl 1 rfl) ?_
      refine lv_imul (pc := 39) C0.1 C0.2.1 dX7_drop_39 ?_
      refine lv_iadd (pc := 40) C0.1 C0.2.1 dX7_drop_40 ?_
      refine lv_istore_n (pc := 41) (lv' := [(2, .int (5 + (10 * v1))), (0, .ref (ad 0)), (1, .int v1)]) C0.1 C0.2.1 dX7_drop_41 rfl hl (by decide) rfl (fun ls hl => ?_)
      obtain ⟨e5, he5, hf⟩ := bd_e hf
      refine X_loop (pc := 42) (xpc := 76) (fu := fun a1 => a1.2) (fl := fun a1 => [(2, .int a1.1), (0, .ref (ad 0)), (1, .int v1)]) (fun a1 r hf hE hG H locs ls hw hl => ?_) he5 (fun H locs ls hw hl => ?_) hw hl
      · unfold gX7_drop_42 at hf
        refine lv_iload_n (pc := 42) C0.1 C0.2.1 dX7_drop_42 rfl (lv_at hl 0 rfl) ?_
        refine lv_iconst (v := 5) (pc := 43) C0.1 C0.2.1 dX7_drop_43 (by decide) ?_
        refine lv_bipush (v := 10) (pc := 44) C0.1 C0.2.1 dX7_drop_44 (by decide) ?_
        refine lv_aload_n (pc := 46) C0.1 C0.2.1 dX7_drop_46 rfl (lv_at hl 1 rfl) ?_
        obtain ⟨q6, hq6, hf⟩ := bd_e hf
        refine x_backp (pc := 47) hw (x_runV (pc := 47) (As := []) (rest := [.int 10, .int 5, .int a1.1]) C0 hK hw hl.1 ⟨Nat.zero_le _, Nat.zero_le _⟩ (kX7_trays l D y ad hI  a1.2 hq6) (by decide) ly_m0 rfl rfl wc_X7_trays wm_X7_39 wi_X7_trays ws_X7_trays wn_X7 ⟨rfl, rfl⟩ hd_X7_trays rfl ⟨Nat.le_of_ble_eq_true rfl, Nat.le_of_ble_eq_true rfl⟩ (Nat.le_of_ble_eq_true rfl) dX7_drop_47) (fun H locs hw => ?_)
        refine lv_imul (pc := 50) C0.1 C0.2.1 dX7_drop_50 ?_
        refine lv_iadd (pc := 51) C0.1 C0.2.1 dX7_drop_51 ?_
        refine lv_icmp_ge (tgt := 76) (pc := 52) C0.1 C0.2.1 dX7_drop_52 (by decide) (fun hc => ?_) (fun hc => ?_)
        · have hf := if_t hf hc
          exact hE _ (Option.some.inj hf).symm H locs ls hw (lv_sub hl [0, 1, 2] rfl)
        · have hf := if_f hf hc
          refine lv_aload_n (pc := 55) C0.1 C0.2.1 dX7_drop_55 rfl (lv_at hl 1 rfl) ?_
          refine x_get (pc := 56) (v := .ref (ad 1)) C0 hK hw (by decide) ly_m0 rfl inX7 0 (by decide) wf_X7_7 rfl rfl dX7_drop_56 ?_
          refine lv_iload_n (pc := 59) C0.1 C0.2.1 dX7_drop_59 rfl (lv_at hl 0 rfl) ?_
          refine lv_aload_n (pc := 60) C0.1 C0.2.1 dX7_drop_60 rfl (lv_at hl 1 rfl) ?_
          refine x_get (pc := 61) (v := .ref (ad 1)) C0 hK hw (by decide) ly_m0 rfl inX7 0 (by decide) wf_X7_7 rfl rfl dX7_drop_61 ?_
          refine lv_iload_n (pc := 64) C0.1 C0.2.1 dX7_drop_64 rfl (lv_at hl 0 rfl) ?_
          refine lv_bipush (v := 10) (pc := 65) C0.1 C0.2.1 dX7_drop_65 (by decide) ?_
          refine lv_iadd (pc := 67) C0.1 C0.2.1 dX7_drop_67 ?_
          obtain ⟨hi, hf⟩ := gd_e hf
          refine x_iald (pc := 68) C0 hK hw (by decide) ly_m1 hi dX7_drop_68 ?_
          obtain ⟨hi, hf⟩ := gd_e hf
          obtain ⟨u7, hu, hf⟩ := nm_f hf
          refine x_iast (pc := 69) hI C0 hK hw (by decide) ly_m1 hi hu dX7_drop_69 (fun H locs hw => ?_)
          refine lv_iinc (pc := 70) (v := a1.1 + 1) (lv' := [(2, .int (a1.1 + 1)), (0, .ref (ad 0)), (1, .int v1)]) C0.1 C0.2.1 dX7_drop_70 hl (k := 0) rfl rfl (by decide) rfl (fun ls hl => ?_)
          refine lv_goto (tgt := 42) (pc := 73) C0.1 C0.2.1 dX7_drop_73 (by decide) ?_
          exact hG _ (Option.some.inj hf).symm H locs ls hw (lv_sub hl [0, 1, 2] rfl)
      · skip
        refine lv_aload_n (pc := 76) C0.1 C0.2.1 dX7_drop_76 rfl (lv_at hl 1 rfl) ?_
        obtain ⟨q8, hq8, hf⟩ := bd_e hf
        refine x_backp (pc := 77) hw (x_runV (pc := 77) (As := []) (rest := []) C0 hK hw hl.1 ⟨Nat.zero_le _, Nat.zero_le _⟩ (kX7_trays l D y ad hI  e5.2 hq8) (by decide) ly_m0 rfl rfl wc_X7_trays wm_X7_39 wi_X7_trays ws_X7_trays wn_X7 ⟨rfl, rfl⟩ hd_X7_trays rfl ⟨Nat.le_of_ble_eq_true rfl, Nat.le_of_ble_eq_true rfl⟩ (Nat.le_of_ble_eq_true rfl) dX7_drop_77) (fun H locs hw => ?_)
        exact x_iret (pc := 80) C0 hK hk hr hw (Option.some.inj hf) dX7_drop_80
    · have hf := if_f hf hc
      refine lv_bipush (v := (-2)) (pc := 18) C0.1 C0.2.1 dX7_drop_18 (by decide) ?_
      exact x_iret (pc := 20) C0 hK hk hr hw (Option.some.inj hf) dX7_drop_20
  · have hf := if_t hf hc
    refine lv_iconst (v := (-1)) (pc := 8) C0.1 C0.2.1 dX7_drop_8 (by decide) ?_
    exact x_iret (pc := 9) C0 hK hk hr hw (Option.some.inj hf) dX7_drop_9
def wX7_setTray : List Cond := .code yX7_setTray cX7_setTray 5 (some .int) :: lwT
def rX7_setTray : Room := { frames := 2, cells := 0, slots := 0, locals := 44 }
set_option maxRecDepth 100000 in
set_option maxHeartbeats 4000000 in
theorem kX7_setTray (l : Launch) (D : va_G) (y : Nat → ClassId) (ad : Nat → Nat) (hI : XI ad 8) (v1 : Int32) (v2 : Int32) (v3 : Int32) (u : S) {o : Int32 × S} (hf : fX7_setTray v1 v2 v3 u = some o) : Met l yX7_setTray wX7_setTray rX7_setTray (va_Pc [.ref (ad 0), .int v1, .int v2, .int v3] (XW D y ad LM 8 u)) (XQi D y ad LM 8 o) 0 0 (XA ad 8) := by
  refine x_met (bytes := cX7_setTray) (maxL := 5) (ret := (some .int)) (own := RX7) (by decide) rfl rfl (Nat.le_of_ble_eq_true rfl) (fun p e s m below meth c ls C0 hK hk hr hw hl => ?_)
  have hl : lv_has ls 5 [(0, .ref (ad 0)), (1, .int v1), (2, .int v2), (3, .int v3)] := hl
  unfold fX7_setTray at hf
  refine lv_aload_n (pc := 0) C0.1 C0.2.1 dX7_setTray_0 rfl (lv_at hl 0 rfl) ?_
  refine lv_iload_n (pc := 1) C0.1 C0.2.1 dX7_setTray_1 rfl (lv_at hl 1 rfl) ?_
  obtain ⟨q1, hq1, hf⟩ := bd_e hf
  refine x_backp (pc := 2) hw (x_runV (pc := 2) (As := [.int v1]) (rest := []) C0 hK hw hl.1 ⟨Nat.zero_le _, Nat.zero_le _⟩ (kX7_isTray l D y ad hI v1 u hq1) (by decide) ly_m0 rfl rfl wc_X7_isTray wm_X7_94 wi_X7_isTray ws_X7_isTray wn_X7 ⟨rfl, rfl⟩ hd_X7_isTray rfl ⟨Nat.le_of_ble_eq_true rfl, Nat.le_of_ble_eq_true rfl⟩ (Nat.le_of_ble_eq_true rfl) dX7_setTray_2) (fun H locs hw => ?_)
  refine lv_if_eq (tgt := 35) (pc := 5) C0.1 C0.2.1 dX7_setTray_5 (by decide) (fun hc => ?_) (fun hc => ?_)
  · have hf := if_t hf hc
    refine lv_iconst (v := (-1)) (pc := 35) C0.1 C0.2.1 dX7_setTray_35 (by decide) ?_
    exact x_iret (pc := 36) C0 hK hk hr hw (Option.some.inj hf) dX7_setTray_36
  · have hf := if_f hf hc
    refine lv_iload_n (pc := 8) C0.1 C0.2.1 dX7_setTray_8 rfl (lv_at hl 2 rfl) ?_
    refine lv_iconst (v := 0) (pc := 9) C0.1 C0.2.1 dX7_setTray_9 (by decide) ?_
    refine lv_iconst (v := 1) (pc := 10) C0.1 C0.2.1 dX7_setTray_10 (by decide) ?_
    obtain ⟨q2, hq2, hf⟩ := bd_e hf
    refine x_backp (pc := 11) hw (x_runS (pc := 11) (As := [.int v2, .int 0, .int 1]) (rest := []) C0 hK hw hl.1 ⟨Nat.zero_le _, Nat.zero_le _⟩ (kX7_in l D y ad hI v2 0 1 u hq2) rfl wc_X7_in wm_X7_43 wt_X7_in wn_X7 ⟨rfl, rfl⟩ hd_X7_in rfl ⟨Nat.le_of_ble_eq_true rfl, Nat.le_of_ble_eq_true rfl⟩ (Nat.le_of_ble_eq_true rfl) dX7_setTray_11) (fun H locs hw => ?_)
    refine lv_if_eq (tgt := 35) (pc := 14) C0.1 C0.2.1 dX7_setTray_14 (by decide) (fun hc => ?_) (fun hc => ?_)
    · have hf := if_t hf hc
      refine lv_iconst (v := (-1)) (pc := 35) C0.1 C0.2.1 dX7_setTray_35 (by decide) ?_
      exact x_iret (pc := 36) C0 hK hk hr hw (Option.some.inj hf) dX7_setTray_36
    · have hf := if_f hf hc
      refine lv_iload_n (pc := 17) C0.1 C0.2.1 dX7_setTray_17 rfl (lv_at hl 3 rfl) ?_
      refine lv_iconst (v := 0) (pc := 18) C0.1 C0.2.1 dX7_setTray_18 (by decide) ?_
      refine lv_iload_n (pc := 19) C0.1 C0.2.1 dX7_setTray_19 rfl (lv_at hl 2 rfl) ?_
      refine lv_if_ne (tgt := 28) (pc := 20) C0.1 C0.2.1 dX7_setTray_20 (by decide) (fun hc => ?_) (fun hc => ?_)
      · have hf := if_f hf hc
        refine lv_iconst (v := 1) (pc := 28) C0.1 C0.2.1 dX7_setTray_28 (by decide) ?_
        obtain ⟨q3, hq3, hf⟩ := bd_e hf
        refine x_backp (pc := 29) hw (x_runS (pc := 29) (As := [.int v3, .int 0, .int 1]) (rest := []) C0 hK hw hl.1 ⟨Nat.zero_le _, Nat.zero_le _⟩ (kX7_in l D y ad hI v3 0 1 u hq3) rfl wc_X7_in wm_X7_43 wt_X7_in wn_X7 ⟨rfl, rfl⟩ hd_X7_in rfl ⟨Nat.le_of_ble_eq_true rfl, Nat.le_of_ble_eq_true rfl⟩ (Nat.le_of_ble_eq_true rfl) dX7_setTray_29) (fun H locs hw => ?_)
        refine lv_if_ne (tgt := 37) (pc := 32) C0.1 C0.2.1 dX7_setTray_32 (by decide) (fun hc => ?_) (fun hc => ?_)
        · have hf := if_f hf hc
          refine lv_iload_n (pc := 37) C0.1 C0.2.1 dX7_setTray_37 rfl (lv_at hl 2 rfl) ?_
          refine lv_iconst (v := 1) (pc := 38) C0.1 C0.2.1 dX7_setTray_38 (by decide) ?_
          refine lv_icmp_ne (tgt := 53) (pc := 39) C0.1 C0.2.1 dX7_setTray_39 (by decide) (fun hc => ?_) (fun hc => ?_)
          · have hf := if_f hf hc
            refine lv_aload_n (pc := 53) C0.1 C0.2.1 dX7_setTray_53 rfl (lv_at hl 0 rfl) ?_
            obtain ⟨q4, hq4, hf⟩ := bd_e hf
            refine x_backv (pc := 54) hw (x_runV (pc := 54) (As := []) (rest := []) C0 hK hw hl.1 ⟨Nat.zero_le _, Nat.zero_le _⟩ (kX7_records l D y ad hI  u hq4) (by decide) ly_m0 rfl rfl wc_X7_records wm_X7_104 wi_X7_records ws_X7_records wn_X7 ⟨rfl, rfl⟩ hd_X7_records rfl ⟨Nat.le_of_ble_eq_true rfl, Nat.le_of_ble_eq_true rfl⟩ (Nat.le_of_ble_eq_true rfl) dX7_setTray_54) (fun H locs hw => ?_)
            refine lv_aload_n (pc := 57) C0.1 C0.2.1 dX7_setTray_57 rfl (lv_at hl 0 rfl) ?_
            refine lv_iload_n (pc := 58) C0.1 C0.2.1 dX7_setTray_58 rfl (lv_at hl 1 rfl) ?_
            refine lv_iconst (v := 3) (pc := 59) C0.1 C0.2.1 dX7_setTray_59 (by decide) ?_
            refine lv_iload_n (pc := 60) C0.1 C0.2.1 dX7_setTray_60 rfl (lv_at hl 2 rfl) ?_
            refine lv_iadd (pc := 61) C0.1 C0.2.1 dX7_setTray_61 ?_
            obtain ⟨q5, hq5, hf⟩ := bd_e hf
            refine x_backp (pc := 62) hw (x_runV (pc := 62) (As := [.int v1, .int (3 + v2)]) (rest := []) C0 hK hw hl.1 ⟨Nat.zero_le _, Nat.zero_le _⟩ (kX7_of l D y ad hI v1 (3 + v2) q4 hq5) (by decide) ly_m0 rfl rfl wc_X7_of wm_X7_47 wi_X7_of ws_X7_of wn_X7 ⟨rfl, rfl⟩ hd_X7_of rfl ⟨Nat.le_of_ble_eq_true rfl, Nat.le_of_ble_eq_true rfl⟩ (Nat.le_of_ble_eq_true rfl) dX7_setTray_62) (fun H locs hw => ?_)
            refine lv_istore (pc := 65) (lv' := [(4, .int q5), (0, .ref (ad 0)), (1, .int v1), (2, .int v2), (3, .int v3)]) C0.1 C0.2.1 dX7_setTray_65 hl (by decide) rfl (fun ls hl => ?_)
            refine lv_aload_n (pc := 67) C0.1 C0.2.1 dX7_setTray_67 rfl (lv_at hl 1 rfl) ?_
            refine lv_iload_n (pc := 68) C0.1 C0.2.1 dX7_setTray_68 rfl (lv_at hl 2 rfl) ?_
            refine lv_iconst (v := 3) (pc := 69) C0.1 C0.2.1 dX7_setTray_69 (by decide) ?_
            refine lv_iload_n (pc := 70) C0.1 C0.2.1 dX7_setTray_70 rfl (lv_at hl 3 rfl) ?_
            refine lv_iadd (pc := 71) C0.1 C0.2.1 dX7_setTray_71 ?_
            refine lv_iload_n (pc := 72) C0.1 C0.2.1 dX7_setTray_72 rfl (lv_at hl 4 rfl) ?_
            obtain ⟨q6, hq6, hf⟩ := bd_e hf
            refine x_backv (pc := 73) hw (x_runV (pc := 73) (As := [.int v1, .int (3 + v2), .int v3]) (rest := []) C0 hK hw hl.1 ⟨Nat.zero_le _, Nat.zero_le _⟩ (kX7_sets l D y ad hI v1 (3 + v2) v3 q4 hq6) (by decide) ly_m0 rfl rfl wc_X7_sets wm_X7_63 wi_X7_sets ws_X7_sets wn_X7 ⟨rfl, rfl⟩ hd_X7_sets rfl ⟨Nat.le_of_ble_eq_true rfl, Nat.le_of_ble_eq_true rfl⟩ (Nat.le_of_ble_eq_true rfl) dX7_setTray_73) (fun H locs hw => ?_)
            refine lv_iload (pc := 76) C0.1 C0.2.1 dX7_setTray_76 (lv_at hl 0 rfl) ?_
            exact x_iret (pc := 78) C0 hK hk hr hw (Option.some.inj hf) dX7_setTray_78
          · have hf := if_t hf hc
            refine lv_aload_n (pc := 42) C0.1 C0.2.1 dX7_setTray_42 rfl (lv_at hl 0 rfl) ?_
            refine lv_iload_n (pc := 43) C0.1 C0.2.1 dX7_setTray_43 rfl (lv_at hl 1 rfl) ?_
            obtain ⟨q7, hq7, hf⟩ := bd_e hf
            refine x_backp (pc := 44) hw (x_runV (pc := 44) (As := [.int v1]) (rest := []) C0 hK hw hl.1 ⟨Nat.zero_le _, Nat.zero_le _⟩ (kX7_isIn l D y ad hI v1 u hq7) (by decide) ly_m0 rfl rfl wc_X7_isIn wm_X7_71 wi_X7_isIn ws_X7_isIn wn_X7 ⟨rfl, rfl⟩ hd_X7_isIn rfl ⟨Nat.le_of_ble_eq_true rfl, Nat.le_of_ble_eq_true rfl⟩ (Nat.le_of_ble_eq_true rfl) dX7_setTray_44) (fun H locs hw => ?_)
            refine lv_if_eq (tgt := 53) (pc := 47) C0.1 C0.2.1 dX7_setTray_47 (by decide) (fun hc => ?_) (fun hc => ?_)
            · have hf := if_t hf hc
              refine lv_aload_n (pc := 53) C0.1 C0.2.1 dX7_setTray_53 rfl (lv_at hl 0 rfl) ?_
              obtain ⟨q8, hq8, hf⟩ := bd_e hf
              refine x_backv (pc := 54) hw (x_runV (pc := 54) (As := []) (rest := []) C0 hK hw hl.1 ⟨Nat.zero_le _, Nat.zero_le _⟩ (kX7_records l D y ad hI  u hq8) (by decide) ly_m0 rfl rfl wc_X7_records wm_X7_104 wi_X7_records ws_X7_records wn_X7 ⟨rfl, rfl⟩ hd_X7_records rfl ⟨Nat.le_of_ble_eq_true rfl, Nat.le_of_ble_eq_true rfl⟩ (Nat.le_of_ble_eq_true rfl) dX7_setTray_54) (fun H locs hw => ?_)
              refine lv_aload_n (pc := 57) C0.1 C0.2.1 dX7_setTray_57 rfl (lv_at hl 0 rfl) ?_
              refine lv_iload_n (pc := 58) C0.1 C0.2.1 dX7_setTray_58 rfl (lv_at hl 1 rfl) ?_
              refine lv_iconst (v := 3) (pc := 59) C0.1 C0.2.1 dX7_setTray_59 (by decide) ?_
              refine lv_iload_n (pc := 60) C0.1 C0.2.1 dX7_setTray_60 rfl (lv_at hl 2 rfl) ?_
              refine lv_iadd (pc := 61) C0.1 C0.2.1 dX7_setTray_61 ?_
              obtain ⟨q9, hq9, hf⟩ := bd_e hf
              refine x_backp (pc := 62) hw (x_runV (pc := 62) (As := [.int v1, .int (3 + v2)]) (rest := []) C0 hK hw hl.1 ⟨Nat.zero_le _, Nat.zero_le _⟩ (kX7_of l D y ad hI v1 (3 + v2) q8 hq9) (by decide) ly_m0 rfl rfl wc_X7_of wm_X7_47 wi_X7_of ws_X7_of wn_X7 ⟨rfl, rfl⟩ hd_X7_of rfl ⟨Nat.le_of_ble_eq_true rfl, Nat.le_of_ble_eq_true rfl⟩ (Nat.le_of_ble_eq_true rfl) dX7_setTray_62) (fun H locs hw => ?_)
              refine lv_istore (pc := 65) (lv' := [(4, .int q9), (0, .ref (ad 0)), (1, .int v1), (2, .int v2), (3, .int v3)]) C0.1 C0.2.1 dX7_setTray_65 hl (by decide) rfl (fun ls hl => ?_)
              refine lv_aload_n (pc := 67) C0.1 C0.2.1 dX7_setTray_67 rfl (lv_at hl 1 rfl) ?_
              refine lv_iload_n (pc := 68) C0.1 C0.2.1 dX7_setTray_68 rfl (lv_at hl 2 rfl) ?_
              refine lv_iconst (v := 3) (pc := 69) C0.1 C0.2.1 dX7_setTray_69 (by decide) ?_
              refine lv_iload_n (pc := 70) C0.1 C0.2.1 dX7_setTray_70 rfl (lv_at hl 3 rfl) ?_
              refine lv_iadd (pc := 71) C0.1 C0.2.1 dX7_setTray_71 ?_
              refine lv_iload_n (pc := 72) C0.1 C0.2.1 dX7_setTray_72 rfl (lv_at hl 4 rfl) ?_
              obtain ⟨q10, hq10, hf⟩ := bd_e hf
              refine x_backv (pc := 73) hw (x_runV (pc := 73) (As := [.int v1, .int (3 + v2), .int v3]) (rest := []) C0 hK hw hl.1 ⟨Nat.zero_le _, Nat.zero_le _⟩ (kX7_sets l D y ad hI v1 (3 + v2) v3 q8 hq10) (by decide) ly_m0 rfl rfl wc_X7_sets wm_X7_63 wi_X7_sets ws_X7_sets wn_X7 ⟨rfl, rfl⟩ hd_X7_sets rfl ⟨Nat.le_of_ble_eq_true rfl, Nat.le_of_ble_eq_true rfl⟩ (Nat.le_of_ble_eq_true rfl) dX7_setTray_73) (fun H locs hw => ?_)
              refine lv_iload (pc := 76) C0.1 C0.2.1 dX7_setTray_76 (lv_at hl 0 rfl) ?_
              exact x_iret (pc := 78) C0 hK hk hr hw (Option.some.inj hf) dX7_setTray_78
            · have hf := if_f hf hc
              refine lv_bipush (v := (-2)) (pc := 50) C0.1 C0.2.1 dX7_setTray_50 (by decide) ?_
              exact x_iret (pc := 52) C0 hK hk hr hw (Option.some.inj hf) dX7_setTray_52
        · have hf := if_t hf hc
          refine lv_iconst (v := (-1)) (pc := 35) C0.1 C0.2.1 dX7_setTray_35 (by decide) ?_
          exact x_iret (pc := 36) C0 hK hk hr hw (Option.some.inj hf) dX7_setTray_36
      · have hf := if_t hf hc
        refine lv_bipush (v := 9) (pc := 23) C0.1 C0.2.1 dX7_setTray_23 (by decide) ?_
        refine lv_goto (tgt := 29) (pc := 25) C0.1 C0.2.1 dX7_setTray_25 (by decide) ?_
        obtain ⟨q11, hq11, hf⟩ := bd_e hf
        refine x_backp (pc := 29) hw (x_runS (pc := 29) (As := [.int v3, .int 0, .int 9]) (rest := []) C0 hK hw hl.1 ⟨Nat.zero_le _, Nat.zero_le _⟩ (kX7_in l D y ad hI v3 0 9 u hq11) rfl wc_X7_in wm_X7_43 wt_X7_in wn_X7 ⟨rfl, rfl⟩ hd_X7_in rfl ⟨Nat.le_of_ble_eq_true rfl, Nat.le_of_ble_eq_true rfl⟩ (Nat.le_of_ble_eq_true rfl) dX7_setTray_29) (fun H locs hw => ?_)
        refine lv_if_ne (tgt := 37) (pc := 32) C0.1 C0.2.1 dX7_setTray_32 (by decide) (fun hc => ?_) (fun hc => ?_)
        · have hf := if_f hf hc
          refine lv_iload_n (pc := 37) C0.1 C0.2.1 dX7_setTray_37 rfl (lv_at hl 2 rfl) ?_
          refine lv_iconst (v := 1) (pc := 38) C0.1 C0.2.1 dX7_setTray_38 (by decide) ?_
          refine lv_icmp_ne (tgt := 53) (pc := 39) C0.1 C0.2.1 dX7_setTray_39 (by decide) (fun hc => ?_) (fun hc => ?_)
          · have hf := if_f hf hc
            refine lv_aload_n (pc := 53) C0.1 C0.2.1 dX7_setTray_53 rfl (lv_at hl 0 rfl) ?_
            obtain ⟨q12, hq12, hf⟩ := bd_e hf
            refine x_backv (pc := 54) hw (x_runV (pc := 54) (As := []) (rest := []) C0 hK hw hl.1 ⟨Nat.zero_le _, Nat.zero_le _⟩ (kX7_records l D y ad hI  u hq12) (by decide) ly_m0 rfl rfl wc_X7_records wm_X7_104 wi_X7_records ws_X7_records wn_X7 ⟨rfl, rfl⟩ hd_X7_records rfl ⟨Nat.le_of_ble_eq_true rfl, Nat.le_of_ble_eq_true rfl⟩ (Nat.le_of_ble_eq_true rfl) dX7_setTray_54) (fun H locs hw => ?_)
            refine lv_aload_n (pc := 57) C0.1 C0.2.1 dX7_setTray_57 rfl (lv_at hl 0 rfl) ?_
            refine lv_iload_n (pc := 58) C0.1 C0.2.1 dX7_setTray_58 rfl (lv_at hl 1 rfl) ?_
            refine lv_iconst (v := 3) (pc := 59) C0.1 C0.2.1 dX7_setTray_59 (by decide) ?_
            refine lv_iload_n (pc := 60) C0.1 C0.2.1 dX7_setTray_60 rfl (lv_at hl 2 rfl) ?_
            refine lv_iadd (pc := 61) C0.1 C0.2.1 dX7_setTray_61 ?_
            obtain ⟨q13, hq13, hf⟩ := bd_e hf
            refine x_backp (pc := 62) hw (x_runV (pc := 62) (As := [.int v1, .int (3 + v2)]) (rest := []) C0 hK hw hl.1 ⟨Nat.zero_le _, Nat.zero_le _⟩ (kX7_of l D y ad hI v1 (3 + v2) q12 hq13) (by decide) ly_m0 rfl rfl wc_X7_of wm_X7_47 wi_X7_of ws_X7_of wn_X7 ⟨rfl, rfl⟩ hd_X7_of rfl ⟨Nat.le_of_ble_eq_true rfl, Nat.le_of_ble_eq_true rfl⟩ (Nat.le_of_ble_eq_true rfl) dX7_setTray_62) (fun H locs hw => ?_)
            refine lv_istore (pc := 65) (lv' := [(4, .int q13), (0, .ref (ad 0)), (1, .int v1), (2, .int v2), (3, .int v3)]) C0.1 C0.2.1 dX7_setTray_65 hl (by decide) rfl (fun ls hl => ?_)
            refine lv_aload_n (pc := 67) C0.1 C0.2.1 dX7_setTray_67 rfl (lv_at hl 1 rfl) ?_
            refine lv_iload_n (pc := 68) C0.1 C0.2.1 dX7_setTray_68 rfl (lv_at hl 2 rfl) ?_
            refine lv_iconst (v := 3) (pc := 69) C0.1 C0.2.1 dX7_setTray_69 (by decide) ?_
            refine lv_iload_n (pc := 70) C0.1 C0.2.1 dX7_setTray_70 rfl (lv_at hl 3 rfl) ?_
            refine lv_iadd (pc := 71) C0.1 C0.2.1 dX7_setTray_71 ?_
            refine lv_iload_n (pc := 72) C0.1 C0.2.1 dX7_setTray_72 rfl (lv_at hl 4 rfl) ?_
            obtain ⟨q14, hq14, hf⟩ := bd_e hf
            refine x_backv (pc := 73) hw (x_runV (pc := 73) (As := [.int v1, .int (3 + v2), .int v3]) (rest := []) C0 hK hw hl.1 ⟨Nat.zero_le _, Nat.zero_le _⟩ (kX7_sets l D y ad hI v1 (3 + v2) v3 q12 hq14) (by decide) ly_m0 rfl rfl wc_X7_sets wm_X7_63 wi_X7_sets ws_X7_sets wn_X7 ⟨rfl, rfl⟩ hd_X7_sets rfl ⟨Nat.le_of_ble_eq_true rfl, Nat.le_of_ble_eq_true rfl⟩ (Nat.le_of_ble_eq_true rfl) dX7_setTray_73) (fun H locs hw => ?_)
            refine lv_iload (pc := 76) C0.1 C0.2.1 dX7_setTray_76 (lv_at hl 0 rfl) ?_
            exact x_iret (pc := 78) C0 hK hk hr hw (Option.some.inj hf) dX7_setTray_78
          · have hf := if_t hf hc
            refine lv_aload_n (pc := 42) C0.1 C0.2.1 dX7_setTray_42 rfl (lv_at hl 0 rfl) ?_
            refine lv_iload_n (pc := 43) C0.1 C0.2.1 dX7_setTray_43 rfl (lv_at hl 1 rfl) ?_
            obtain ⟨q15, hq15, hf⟩ := bd_e hf
            refine x_backp (pc := 44) hw (x_runV (pc := 44) (As := [.int v1]) (rest := []) C0 hK hw hl.1 ⟨Nat.zero_le _, Nat.zero_le _⟩ (kX7_isIn l D y ad hI v1 u hq15) (by decide) ly_m0 rfl rfl wc_X7_isIn wm_X7_71 wi_X7_isIn ws_X7_isIn wn_X7 ⟨rfl, rfl⟩ hd_X7_isIn rfl ⟨Nat.le_of_ble_eq_true rfl, Nat.le_of_ble_eq_true rfl⟩ (Nat.le_of_ble_eq_true rfl) dX7_setTray_44) (fun H locs hw => ?_)
            refine lv_if_eq (tgt := 53) (pc := 47) C0.1 C0.2.1 dX7_setTray_47 (by decide) (fun hc => ?_) (fun hc => ?_)
            · have hf := if_t hf hc
              refine lv_aload_n (pc := 53) C0.1 C0.2.1 dX7_setTray_53 rfl (lv_at hl 0 rfl) ?_
              obtain ⟨q16, hq16, hf⟩ := bd_e hf
              refine x_backv (pc := 54) hw (x_runV (pc := 54) (As := []) (rest := []) C0 hK hw hl.1 ⟨Nat.zero_le _, Nat.zero_le _⟩ (kX7_records l D y ad hI  u hq16) (by decide) ly_m0 rfl rfl wc_X7_records wm_X7_104 wi_X7_records ws_X7_records wn_X7 ⟨rfl, rfl⟩ hd_X7_records rfl ⟨Nat.le_of_ble_eq_true rfl, Nat.le_of_ble_eq_true rfl⟩ (Nat.le_of_ble_eq_true rfl) dX7_setTray_54) (fun H locs hw => ?_)
              refine lv_aload_n (pc := 57) C0.1 C0.2.1 dX7_setTray_57 rfl (lv_at hl 0 rfl) ?_
              refine lv_iload_n (pc := 58) C0.1 C0.2.1 dX7_setTray_58 rfl (lv_at hl 1 rfl) ?_
              refine lv_iconst (v := 3) (pc := 59) C0.1 C0.2.1 dX7_setTray_59 (by decide) ?_
              refine lv_iload_n (pc := 60) C0.1 C0.2.1 dX7_setTray_60 rfl (lv_at hl 2 rfl) ?_
              refine lv_iadd (pc := 61) C0.1 C0.2.1 dX7_setTray_61 ?_
              obtain ⟨q17, hq17, hf⟩ := bd_e hf
              refine x_backp (pc := 62) hw (x_runV (pc := 62) (As := [.int v1, .int (3 + v2)]) (rest := []) C0 hK hw hl.1 ⟨Nat.zero_le _, Nat.zero_le _⟩ (kX7_of l D y ad hI v1 (3 + v2) q16 hq17) (by decide) ly_m0 rfl rfl wc_X7_of wm_X7_47 wi_X7_of ws_X7_of wn_X7 ⟨rfl, rfl⟩ hd_X7_of rfl ⟨Nat.le_of_ble_eq_true rfl, Nat.le_of_ble_eq_true rfl⟩ (Nat.le_of_ble_eq_true rfl) dX7_setTray_62) (fun H locs hw => ?_)
              refine lv_istore (pc := 65) (lv' := [(4, .int q17), (0, .ref (ad 0)), (1, .int v1), (2, .int v2), (3, .int v3)]) C0.1 C0.2.1 dX7_setTray_65 hl (by decide) rfl (fun ls hl => ?_)
              refine lv_aload_n (pc := 67) C0.1 C0.2.1 dX7_setTray_67 rfl (lv_at hl 1 rfl) ?_
              refine lv_iload_n (pc := 68) C0.1 C0.2.1 dX7_setTray_68 rfl (lv_at hl 2 rfl) ?_
              refine lv_iconst (v := 3) (pc := 69) C0.1 C0.2.1 dX7_setTray_69 (by decide) ?_
              refine lv_iload_n (pc := 70) C0.1 C0.2.1 dX7_setTray_70 rfl (lv_at hl 3 rfl) ?_
              refine lv_iadd (pc := 71) C0.1 C0.2.1 dX7_setTray_71 ?_
              refine lv_iload_n (pc := 72) C0.1 C0.2.1 dX7_setTray_72 rfl (lv_at hl 4 rfl) ?_
              obtain ⟨q18, hq18, hf⟩ := bd_e hf
              refine x_backv (pc := 73) hw (x_runV (pc := 73) (As := [.int v1, .int (3 + v2), .int v3]) (rest := []) C0 hK hw hl.1 ⟨Nat.zero_le _, Nat.zero_le _⟩ (kX7_sets l D y ad hI v1 (3 + v2) v3 q16 hq18) (by decide) ly_m0 rfl rfl wc_X7_sets wm_X7_63 wi_X7_sets ws_X7_sets wn_X7 ⟨rfl, rfl⟩ hd_X7_sets rfl ⟨Nat.le_of_ble_eq_true rfl, Nat.le_of_ble_eq_true rfl⟩ (Nat.le_of_ble_eq_true rfl) dX7_setTray_73) (fun H locs hw => ?_)
              refine lv_iload (pc := 76) C0.1 C0.2.1 dX7_setTray_76 (lv_at hl 0 rfl) ?_
              exact x_iret (pc := 78) C0 hK hk hr hw (Option.some.inj hf) dX7_setTray_78
            · have hf := if_f hf hc
              refine lv_bipush (v := (-2)) (pc := 50) C0.1 C0.2.1 dX7_setTray_50 (by decide) ?_
              exact x_iret (pc := 52) C0 hK hk hr hw (Option.some.inj hf) dX7_setTray_52
        · have hf := if_t hf hc
          refine lv_iconst (v := (-1)) (pc := 35) C0.1 C0.2.1 dX7_setTray_35 (by decide) ?_
          exact x_iret (pc := 36) C0 hK hk hr hw (Option.some.inj hf) dX7_setTray_36
def wX7_takeOut : List Cond := .code yX7_takeOut cX7_takeOut 3 (some .int) :: lwT
def rX7_takeOut : Room := { frames := 6, cells := 0, slots := 0, locals := 138 }
set_option maxRecDepth 100000 in
set_option maxHeartbeats 4000000 in
theorem kX7_takeOut (l : Launch) (D : va_G) (y : Nat → ClassId) (ad : Nat → Nat) (hI : XI ad 8) (v1 : Int32) (u : S) {o : Int32 × S} (hf : fX7_takeOut v1 u = some o) : Met l yX7_takeOut wX7_takeOut rX7_takeOut (va_Pc [.ref (ad 0), .int v1] (XW D y ad LM 8 u)) (XQi D y ad LM 8 o) 0 0 (XA ad 8) := by
  refine x_met (bytes := cX7_takeOut) (maxL := 3) (ret := (some .int)) (own := RX7) (by decide) rfl rfl (Nat.le_of_ble_eq_true rfl) (fun p e s m below meth c ls C0 hK hk hr hw hl => ?_)
  have hl : lv_has ls 3 [(0, .ref (ad 0)), (1, .int v1)] := hl
  unfold fX7_takeOut at hf
  refine lv_aload_n (pc := 0) C0.1 C0.2.1 dX7_takeOut_0 rfl (lv_at hl 0 rfl) ?_
  refine lv_iload_n (pc := 1) C0.1 C0.2.1 dX7_takeOut_1 rfl (lv_at hl 1 rfl) ?_
  obtain ⟨q1, hq1, hf⟩ := bd_e hf
  refine x_backp (pc := 2) hw (x_runV (pc := 2) (As := [.int v1]) (rest := []) C0 hK hw hl.1 ⟨Nat.zero_le _, Nat.zero_le _⟩ (kX7_isTray l D y ad hI v1 u hq1) (by decide) ly_m0 rfl rfl wc_X7_isTray wm_X7_94 wi_X7_isTray ws_X7_isTray wn_X7 ⟨rfl, rfl⟩ hd_X7_isTray rfl ⟨Nat.le_of_ble_eq_true rfl, Nat.le_of_ble_eq_true rfl⟩ (Nat.le_of_ble_eq_true rfl) dX7_takeOut_2) (fun H locs hw => ?_)
  refine lv_if_ne (tgt := 10) (pc := 5) C0.1 C0.2.1 dX7_takeOut_5 (by decide) (fun hc => ?_) (fun hc => ?_)
  · have hf := if_f hf hc
    refine lv_aload_n (pc := 10) C0.1 C0.2.1 dX7_takeOut_10 rfl (lv_at hl 0 rfl) ?_
    refine lv_iload_n (pc := 11) C0.1 C0.2.1 dX7_takeOut_11 rfl (lv_at hl 1 rfl) ?_
    obtain ⟨q2, hq2, hf⟩ := bd_e hf
    refine x_backp (pc := 12) hw (x_runV (pc := 12) (As := [.int v1]) (rest := []) C0 hK hw hl.1 ⟨Nat.zero_le _, Nat.zero_le _⟩ (kX7_isIn l D y ad hI v1 u hq2) (by decide) ly_m0 rfl rfl wc_X7_isIn wm_X7_71 wi_X7_isIn ws_X7_isIn wn_X7 ⟨rfl, rfl⟩ hd_X7_isIn rfl ⟨Nat.le_of_ble_eq_true rfl, Nat.le_of_ble_eq_true rfl⟩ (Nat.le_of_ble_eq_true rfl) dX7_takeOut_12) (fun H locs hw => ?_)
    refine lv_if_eq (tgt := 26) (pc := 15) C0.1 C0.2.1 dX7_takeOut_15 (by decide) (fun hc => ?_) (fun hc => ?_)
    · have hf := if_t hf hc
      refine lv_bipush (v := (-2)) (pc := 26) C0.1 C0.2.1 dX7_takeOut_26 (by decide) ?_
      exact x_iret (pc := 28) C0 hK hk hr hw (Option.some.inj hf) dX7_takeOut_28
    · have hf := if_f hf hc
      refine lv_aload_n (pc := 18) C0.1 C0.2.1 dX7_takeOut_18 rfl (lv_at hl 0 rfl) ?_
      refine lv_iload_n (pc := 19) C0.1 C0.2.1 dX7_takeOut_19 rfl (lv_at hl 1 rfl) ?_
      obtain ⟨q3, hq3, hf⟩ := bd_e hf
      refine x_backp (pc := 20) hw (x_runV (pc := 20) (As := [.int v1]) (rest := []) C0 hK hw hl.1 ⟨Nat.zero_le _, Nat.zero_le _⟩ (kX7_above l D y ad hI v1 u hq3) (by decide) ly_m0 rfl rfl wc_X7_above wm_X7_118 wi_X7_above ws_X7_above wn_X7 ⟨rfl, rfl⟩ hd_X7_above rfl ⟨Nat.le_of_ble_eq_true rfl, Nat.le_of_ble_eq_true rfl⟩ (Nat.le_of_ble_eq_true rfl) dX7_takeOut_20) (fun H locs hw => ?_)
      refine lv_if_eq (tgt := 29) (pc := 23) C0.1 C0.2.1 dX7_takeOut_23 (by decide) (fun hc => ?_) (fun hc => ?_)
      · have hf := if_t hf hc
        refine lv_aload_n (pc := 29) C0.1 C0.2.1 dX7_takeOut_29 rfl (lv_at hl 0 rfl) ?_
        obtain ⟨q4, hq4, hf⟩ := bd_e hf
        refine x_backv (pc := 30) hw (x_runV (pc := 30) (As := []) (rest := []) C0 hK hw hl.1 ⟨Nat.zero_le _, Nat.zero_le _⟩ (kX7_records l D y ad hI  u hq4) (by decide) ly_m0 rfl rfl wc_X7_records wm_X7_104 wi_X7_records ws_X7_records wn_X7 ⟨rfl, rfl⟩ hd_X7_records rfl ⟨Nat.le_of_ble_eq_true rfl, Nat.le_of_ble_eq_true rfl⟩ (Nat.le_of_ble_eq_true rfl) dX7_takeOut_30) (fun H locs hw => ?_)
        refine lv_aload_n (pc := 33) C0.1 C0.2.1 dX7_takeOut_33 rfl (lv_at hl 0 rfl) ?_
        refine lv_iload_n (pc := 34) C0.1 C0.2.1 dX7_takeOut_34 rfl (lv_at hl 1 rfl) ?_
        refine lv_bipush (v := 9) (pc := 35) C0.1 C0.2.1 dX7_takeOut_35 (by decide) ?_
        obtain ⟨q5, hq5, hf⟩ := bd_e hf
        refine x_backp (pc := 37) hw (x_runV (pc := 37) (As := [.int v1, .int 9]) (rest := []) C0 hK hw hl.1 ⟨Nat.zero_le _, Nat.zero_le _⟩ (kX7_of l D y ad hI v1 9 q4 hq5) (by decide) ly_m0 rfl rfl wc_X7_of wm_X7_47 wi_X7_of ws_X7_of wn_X7 ⟨rfl, rfl⟩ hd_X7_of rfl ⟨Nat.le_of_ble_eq_true rfl, Nat.le_of_ble_eq_true rfl⟩ (Nat.le_of_ble_eq_true rfl) dX7_takeOut_37) (fun H locs hw => ?_)
        refine lv_istore_n (pc := 40) (lv' := [(2, .int q5), (0, .ref (ad 0)), (1, .int v1)]) C0.1 C0.2.1 dX7_takeOut_40 rfl hl (by decide) rfl (fun ls hl => ?_)
        refine lv_aload_n (pc := 41) C0.1 C0.2.1 dX7_takeOut_41 rfl (lv_at hl 1 rfl) ?_
        refine lv_iload_n (pc := 42) C0.1 C0.2.1 dX7_takeOut_42 rfl (lv_at hl 2 rfl) ?_
        obtain ⟨q6, hq6, hf⟩ := bd_e hf
        refine x_backv (pc := 43) hw (x_runV (pc := 43) (As := [.int v1]) (rest := []) C0 hK hw hl.1 ⟨Nat.zero_le _, Nat.zero_le _⟩ (kX7_leaves l D y ad hI v1 q4 hq6) (by decide) ly_m0 rfl rfl wc_X7_leaves wm_X7_67 wi_X7_leaves ws_X7_leaves wn_X7 ⟨rfl, rfl⟩ hd_X7_leaves rfl ⟨Nat.le_of_ble_eq_true rfl, Nat.le_of_ble_eq_true rfl⟩ (Nat.le_of_ble_eq_true rfl) dX7_takeOut_43) (fun H locs hw => ?_)
        refine lv_iload_n (pc := 46) C0.1 C0.2.1 dX7_takeOut_46 rfl (lv_at hl 0 rfl) ?_
        exact x_iret (pc := 47) C0 hK hk hr hw (Option.some.inj hf) dX7_takeOut_47
      · have hf := if_f hf hc
        refine lv_bipush (v := (-2)) (pc := 26) C0.1 C0.2.1 dX7_takeOut_26 (by decide) ?_
        exact x_iret (pc := 28) C0 hK hk hr hw (Option.some.inj hf) dX7_takeOut_28
  · have hf := if_t hf hc
    refine lv_iconst (v := (-1)) (pc := 8) C0.1 C0.2.1 dX7_takeOut_8 (by decide) ?_
    exact x_iret (pc := 9) C0 hK hk hr hw (Option.some.inj hf) dX7_takeOut_9
def wX7_empty : List Cond := .code yX7_empty cX7_empty 2 (some .int) :: lwT
def rX7_empty : Room := { frames := 3, cells := 0, slots := 0, locals := 66 }
set_option maxRecDepth 100000 in
set_option maxHeartbeats 4000000 in
theorem kX7_empty (l : Launch) (D : va_G) (y : Nat → ClassId) (ad : Nat → Nat) (hI : XI ad 8)  (u : S) {o : Int32 × S} (hf : fX7_empty  u = some o) : Met l yX7_empty wX7_empty rX7_empty (va_Pc [.ref (ad 0)] (XW D y ad LM 8 u)) (XQi D y ad LM 8 o) 0 0 (XA ad 8) := by
  refine x_met (bytes := cX7_empty) (maxL := 2) (ret := (some .int)) (own := RX7) (by decide) rfl rfl (Nat.le_of_ble_eq_true rfl) (fun p e s m below meth c ls C0 hK hk hr hw hl => ?_)
  have hl : lv_has ls 2 [(0, .ref (ad 0))] := hl
  unfold fX7_empty at hf
  refine lv_aload_n (pc := 0) C0.1 C0.2.1 dX7_empty_0 rfl (lv_at hl 0 rfl) ?_
  obtain ⟨q1, hq1, hf⟩ := bd_e hf
  refine x_backv (pc := 1) hw (x_runV (pc := 1) (As := []) (rest := []) C0 hK hw hl.1 ⟨Nat.zero_le _, Nat.zero_le _⟩ (kX7_records l D y ad hI  u hq1) (by decide) ly_m0 rfl rfl wc_X7_records wm_X7_104 wi_X7_records ws_X7_records wn_X7 ⟨rfl, rfl⟩ hd_X7_records rfl ⟨Nat.le_of_ble_eq_true rfl, Nat.le_of_ble_eq_true rfl⟩ (Nat.le_of_ble_eq_true rfl) dX7_empty_1) (fun H locs hw => ?_)
  refine lv_aload_n (pc := 4) C0.1 C0.2.1 dX7_empty_4 rfl (lv_at hl 0 rfl) ?_
  obtain ⟨q2, hq2, hf⟩ := bd_e hf
  refine x_backp (pc := 5) hw (x_runV (pc := 5) (As := []) (rest := []) C0 hK hw hl.1 ⟨Nat.zero_le _, Nat.zero_le _⟩ (kX7_inBox l D y ad hI  q1 hq2) (by decide) ly_m0 rfl rfl wc_X7_inBox wm_X7_169 wi_X7_inBox ws_X7_inBox wn_X7 ⟨rfl, rfl⟩ hd_X7_inBox rfl ⟨Nat.le_of_ble_eq_true rfl, Nat.le_of_ble_eq_true rfl⟩ (Nat.le_of_ble_eq_true rfl) dX7_empty_5) (fun H locs hw => ?_)
  refine lv_istore_n (pc := 8) (lv' := [(1, .int q2), (0, .ref (ad 0))]) C0.1 C0.2.1 dX7_empty_8 rfl hl (by decide) rfl (fun ls hl => ?_)
  refine lv_aload_n (pc := 9) C0.1 C0.2.1 dX7_empty_9 rfl (lv_at hl 1 rfl) ?_
  obtain ⟨q3, hq3, hf⟩ := bd_e hf
  refine x_backv (pc := 10) hw (x_runV (pc := 10) (As := []) (rest := []) C0 hK hw hl.1 ⟨Nat.zero_le _, Nat.zero_le _⟩ (kX7_empties l D y ad hI  q1 hq3) (by decide) ly_m0 rfl rfl wc_X7_empties wm_X7_172 wi_X7_empties ws_X7_empties wn_X7 ⟨rfl, rfl⟩ hd_X7_empties rfl ⟨Nat.le_of_ble_eq_true rfl, Nat.le_of_ble_eq_true rfl⟩ (Nat.le_of_ble_eq_true rfl) dX7_empty_10) (fun H locs hw => ?_)
  refine lv_iload_n (pc := 13) C0.1 C0.2.1 dX7_empty_13 rfl (lv_at hl 0 rfl) ?_
  exact x_iret (pc := 14) C0 hK hk hr hw (Option.some.inj hf) dX7_empty_14
def wX7_tray : List Cond := .code yX7_tray cX7_tray 3 (some .int) :: lwT
def rX7_tray : Room := { frames := 7, cells := 0, slots := 0, locals := 162 }
set_option maxRecDepth 100000 in
set_option maxHeartbeats 4000000 in
theorem kX7_tray (l : Launch) (D : va_G) (y : Nat → ClassId) (ad : Nat → Nat) (hI : XI ad 8) (v1 : Int32) (v2 : Int32) (u : S) {o : Int32} (hf : fX7_tray v1 v2 u = some o) : Met l yX7_tray wX7_tray rX7_tray (va_Pc [.ref (ad 0), .int v1, .int v2] (XW D y ad LM 8 u)) (XQi D y ad LM 8 (o, u)) 0 0 (XA ad 8) := by
  refine x_met (bytes := cX7_tray) (maxL := 3) (ret := (some .int)) (own := RX7) (by decide) rfl rfl (Nat.le_of_ble_eq_true rfl) (fun p e s m below meth c ls C0 hK hk hr hw hl => ?_)
  have hl : lv_has ls 3 [(0, .ref (ad 0)), (1, .int v1), (2, .int v2)] := hl
  unfold fX7_tray at hf
  refine lv_aload_n (pc := 0) C0.1 C0.2.1 dX7_tray_0 rfl (lv_at hl 0 rfl) ?_
  refine lv_iload_n (pc := 1) C0.1 C0.2.1 dX7_tray_1 rfl (lv_at hl 1 rfl) ?_
  obtain ⟨q1, hq1, hf⟩ := bd_e hf
  refine x_backp (pc := 2) hw (x_runV (pc := 2) (As := [.int v1]) (rest := []) C0 hK hw hl.1 ⟨Nat.zero_le _, Nat.zero_le _⟩ (kX7_isTray l D y ad hI v1 u hq1) (by decide) ly_m0 rfl rfl wc_X7_isTray wm_X7_94 wi_X7_isTray ws_X7_isTray wn_X7 ⟨rfl, rfl⟩ hd_X7_isTray rfl ⟨Nat.le_of_ble_eq_true rfl, Nat.le_of_ble_eq_true rfl⟩ (Nat.le_of_ble_eq_true rfl) dX7_tray_2) (fun H locs hw => ?_)
  refine lv_if_eq (tgt := 18) (pc := 5) C0.1 C0.2.1 dX7_tray_5 (by decide) (fun hc => ?_) (fun hc => ?_)
  · have hf := if_t hf hc
    refine lv_iconst (v := (-1)) (pc := 18) C0.1 C0.2.1 dX7_tray_18 (by decide) ?_
    exact x_iret (pc := 19) C0 hK hk hr hw (congrArg (fun z => (z, u)) (Option.some.inj hf)) dX7_tray_19
  · have hf := if_f hf hc
    refine lv_iload_n (pc := 8) C0.1 C0.2.1 dX7_tray_8 rfl (lv_at hl 2 rfl) ?_
    refine lv_iconst (v := 0) (pc := 9) C0.1 C0.2.1 dX7_tray_9 (by decide) ?_
    refine lv_bipush (v := 15) (pc := 10) C0.1 C0.2.1 dX7_tray_10 (by decide) ?_
    obtain ⟨q2, hq2, hf⟩ := bd_e hf
    refine x_backp (pc := 12) hw (x_runS (pc := 12) (As := [.int v2, .int 0, .int 15]) (rest := []) C0 hK hw hl.1 ⟨Nat.zero_le _, Nat.zero_le _⟩ (kX7_in l D y ad hI v2 0 15 u hq2) rfl wc_X7_in wm_X7_43 wt_X7_in wn_X7 ⟨rfl, rfl⟩ hd_X7_in rfl ⟨Nat.le_of_ble_eq_true rfl, Nat.le_of_ble_eq_true rfl⟩ (Nat.le_of_ble_eq_true rfl) dX7_tray_12) (fun H locs hw => ?_)
    refine lv_if_ne (tgt := 20) (pc := 15) C0.1 C0.2.1 dX7_tray_15 (by decide) (fun hc => ?_) (fun hc => ?_)
    · have hf := if_f hf hc
      refine lv_iload_n (pc := 20) C0.1 C0.2.1 dX7_tray_20 rfl (lv_at hl 2 rfl) ?_
      refine lv_bipush (v := 7) (pc := 21) C0.1 C0.2.1 dX7_tray_21 (by decide) ?_
      refine lv_icmp_ge (tgt := 33) (pc := 23) C0.1 C0.2.1 dX7_tray_23 (by decide) (fun hc => ?_) (fun hc => ?_)
      · have hf := if_t hf hc
        refine lv_aload_n (pc := 33) C0.1 C0.2.1 dX7_tray_33 rfl (lv_at hl 0 rfl) ?_
        refine lv_iload_n (pc := 34) C0.1 C0.2.1 dX7_tray_34 rfl (lv_at hl 1 rfl) ?_
        obtain ⟨q3, hq3, hf⟩ := bd_e hf
        refine x_backp (pc := 35) hw (x_runV (pc := 35) (As := [.int v1]) (rest := []) C0 hK hw hl.1 ⟨Nat.zero_le _, Nat.zero_le _⟩ (kX7_isIn l D y ad hI v1 u hq3) (by decide) ly_m0 rfl rfl wc_X7_isIn wm_X7_71 wi_X7_isIn ws_X7_isIn wn_X7 ⟨rfl, rfl⟩ hd_X7_isIn rfl ⟨Nat.le_of_ble_eq_true rfl, Nat.le_of_ble_eq_true rfl⟩ (Nat.le_of_ble_eq_true rfl) dX7_tray_35) (fun H locs hw => ?_)
        refine lv_if_ne (tgt := 44) (pc := 38) C0.1 C0.2.1 dX7_tray_38 (by decide) (fun hc => ?_) (fun hc => ?_)
        · have hf := if_f hf hc
          refine lv_iload_n (pc := 44) C0.1 C0.2.1 dX7_tray_44 rfl (lv_at hl 2 rfl) ?_
          by_cases hc7 : v2 = 7
          · have hf := if_t hf hc7
            refine lv_tableIn (tgt := 92) (pc := 45) C0.1 C0.2.1 dX7_tray_45 (by rw [hc7]; decide) (by rw [hc7]; decide) (by rw [hc7]; rfl) (by decide) ?_
            refine lv_aload_n (pc := 92) C0.1 C0.2.1 dX7_tray_92 rfl (lv_at hl 0 rfl) ?_
            refine lv_iload_n (pc := 93) C0.1 C0.2.1 dX7_tray_93 rfl (lv_at hl 1 rfl) ?_
            refine lv_iload_n (pc := 94) C0.1 C0.2.1 dX7_tray_94 rfl (lv_at hl 2 rfl) ?_
            obtain ⟨q4, hq4, hf⟩ := bd_e hf
            refine x_backp (pc := 95) hw (x_runV (pc := 95) (As := [.int v1, .int v2]) (rest := []) C0 hK hw hl.1 ⟨Nat.zero_le _, Nat.zero_le _⟩ (kX7_of l D y ad hI v1 v2 u hq4) (by decide) ly_m0 rfl rfl wc_X7_of wm_X7_47 wi_X7_of ws_X7_of wn_X7 ⟨rfl, rfl⟩ hd_X7_of rfl ⟨Nat.le_of_ble_eq_true rfl, Nat.le_of_ble_eq_true rfl⟩ (Nat.le_of_ble_eq_true rfl) dX7_tray_95) (fun H locs hw => ?_)
            exact x_iret (pc := 98) C0 hK hk hr hw (congrArg (fun z => (z, u)) (Option.some.inj hf)) dX7_tray_98
          · have hf := if_f hf hc7
            by_cases hc8 : v2 = 8
            · have hf := if_t hf hc8
              refine lv_tableIn (tgt := 92) (pc := 45) C0.1 C0.2.1 dX7_tray_45 (by rw [hc8]; decide) (by rw [hc8]; decide) (by rw [hc8]; rfl) (by decide) ?_
              refine lv_aload_n (pc := 92) C0.1 C0.2.1 dX7_tray_92 rfl (lv_at hl 0 rfl) ?_
              refine lv_iload_n (pc := 93) C0.1 C0.2.1 dX7_tray_93 rfl (lv_at hl 1 rfl) ?_
              refine lv_iload_n (pc := 94) C0.1 C0.2.1 dX7_tray_94 rfl (lv_at hl 2 rfl) ?_
              obtain ⟨q5, hq5, hf⟩ := bd_e hf
              refine x_backp (pc := 95) hw (x_runV (pc := 95) (As := [.int v1, .int v2]) (rest := []) C0 hK hw hl.1 ⟨Nat.zero_le _, Nat.zero_le _⟩ (kX7_of l D y ad hI v1 v2 u hq5) (by decide) ly_m0 rfl rfl wc_X7_of wm_X7_47 wi_X7_of ws_X7_of wn_X7 ⟨rfl, rfl⟩ hd_X7_of rfl ⟨Nat.le_of_ble_eq_true rfl, Nat.le_of_ble_eq_true rfl⟩ (Nat.le_of_ble_eq_true rfl) dX7_tray_95) (fun H locs hw => ?_)
              exact x_iret (pc := 98) C0 hK hk hr hw (congrArg (fun z => (z, u)) (Option.some.inj hf)) dX7_tray_98
            · have hf := if_f hf hc8
              by_cases hc9 : v2 = 9
              · have hf := if_t hf hc9
                refine lv_tableIn (tgt := 92) (pc := 45) C0.1 C0.2.1 dX7_tray_45 (by rw [hc9]; decide) (by rw [hc9]; decide) (by rw [hc9]; rfl) (by decide) ?_
                refine lv_aload_n (pc := 92) C0.1 C0.2.1 dX7_tray_92 rfl (lv_at hl 0 rfl) ?_
                refine lv_iload_n (pc := 93) C0.1 C0.2.1 dX7_tray_93 rfl (lv_at hl 1 rfl) ?_
                refine lv_iload_n (pc := 94) C0.1 C0.2.1 dX7_tray_94 rfl (lv_at hl 2 rfl) ?_
                obtain ⟨q6, hq6, hf⟩ := bd_e hf
                refine x_backp (pc := 95) hw (x_runV (pc := 95) (As := [.int v1, .int v2]) (rest := []) C0 hK hw hl.1 ⟨Nat.zero_le _, Nat.zero_le _⟩ (kX7_of l D y ad hI v1 v2 u hq6) (by decide) ly_m0 rfl rfl wc_X7_of wm_X7_47 wi_X7_of ws_X7_of wn_X7 ⟨rfl, rfl⟩ hd_X7_of rfl ⟨Nat.le_of_ble_eq_true rfl, Nat.le_of_ble_eq_true rfl⟩ (Nat.le_of_ble_eq_true rfl) dX7_tray_95) (fun H locs hw => ?_)
                exact x_iret (pc := 98) C0 hK hk hr hw (congrArg (fun z => (z, u)) (Option.some.inj hf)) dX7_tray_98
              · have hf := if_f hf hc9
                by_cases hc10 : v2 = 10
                · have hf := if_t hf hc10
                  refine lv_tableIn (tgt := 99) (pc := 45) C0.1 C0.2.1 dX7_tray_45 (by rw [hc10]; decide) (by rw [hc10]; decide) (by rw [hc10]; rfl) (by decide) ?_
                  refine lv_aload_n (pc := 99) C0.1 C0.2.1 dX7_tray_99 rfl (lv_at hl 0 rfl) ?_
                  refine lv_iload_n (pc := 100) C0.1 C0.2.1 dX7_tray_100 rfl (lv_at hl 1 rfl) ?_
                  obtain ⟨q7, hq7, hf⟩ := bd_e hf
                  refine x_backp (pc := 101) hw (x_runV (pc := 101) (As := [.int v1]) (rest := []) C0 hK hw hl.1 ⟨Nat.zero_le _, Nat.zero_le _⟩ (kX7_top l D y ad hI v1 u hq7) (by decide) ly_m0 rfl rfl wc_X7_top wm_X7_78 wi_X7_top ws_X7_top wn_X7 ⟨rfl, rfl⟩ hd_X7_top rfl ⟨Nat.le_of_ble_eq_true rfl, Nat.le_of_ble_eq_true rfl⟩ (Nat.le_of_ble_eq_true rfl) dX7_tray_101) (fun H locs hw => ?_)
                  exact x_iret (pc := 104) C0 hK hk hr hw (congrArg (fun z => (z, u)) (Option.some.inj hf)) dX7_tray_104
                · have hf := if_f hf hc10
                  by_cases hc11 : v2 = 11
                  · have hf := if_t hf hc11
                    refine lv_tableIn (tgt := 105) (pc := 45) C0.1 C0.2.1 dX7_tray_45 (by rw [hc11]; decide) (by rw [hc11]; decide) (by rw [hc11]; rfl) (by decide) ?_
                    refine lv_aload_n (pc := 105) C0.1 C0.2.1 dX7_tray_105 rfl (lv_at hl 0 rfl) ?_
                    refine lv_iload_n (pc := 106) C0.1 C0.2.1 dX7_tray_106 rfl (lv_at hl 1 rfl) ?_
                    obtain ⟨q8, hq8, hf⟩ := bd_e hf
                    refine x_backp (pc := 107) hw (x_runV (pc := 107) (As := [.int v1]) (rest := []) C0 hK hw hl.1 ⟨Nat.zero_le _, Nat.zero_le _⟩ (kX7_lift l D y ad hI v1 u hq8) (by decide) ly_m0 rfl rfl wc_X7_lift wm_X7_124 wi_X7_lift ws_X7_lift wn_X7 ⟨rfl, rfl⟩ hd_X7_lift rfl ⟨Nat.le_of_ble_eq_true rfl, Nat.le_of_ble_eq_true rfl⟩ (Nat.le_of_ble_eq_true rfl) dX7_tray_107) (fun H locs hw => ?_)
                    exact x_iret (pc := 110) C0 hK hk hr hw (congrArg (fun z => (z, u)) (Option.some.inj hf)) dX7_tray_110
                  · have hf := if_f hf hc11
                    by_cases hc12 : v2 = 12
                    · have hf := if_t hf hc12
                      refine lv_tableIn (tgt := 111) (pc := 45) C0.1 C0.2.1 dX7_tray_45 (by rw [hc12]; decide) (by rw [hc12]; decide) (by rw [hc12]; rfl) (by decide) ?_
                      refine lv_aload_n (pc := 111) C0.1 C0.2.1 dX7_tray_111 rfl (lv_at hl 0 rfl) ?_
                      refine lv_iload_n (pc := 112) C0.1 C0.2.1 dX7_tray_112 rfl (lv_at hl 1 rfl) ?_
                      obtain ⟨q9, hq9, hf⟩ := bd_e hf
                      refine x_backp (pc := 113) hw (x_runV (pc := 113) (As := [.int v1]) (rest := []) C0 hK hw hl.1 ⟨Nat.zero_le _, Nat.zero_le _⟩ (kX7_fault l D y ad hI v1 u hq9) (by decide) ly_m0 rfl rfl wc_X7_fault wm_X7_121 wi_X7_fault ws_X7_fault wn_X7 ⟨rfl, rfl⟩ hd_X7_fault rfl ⟨Nat.le_of_ble_eq_true rfl, Nat.le_of_ble_eq_true rfl⟩ (Nat.le_of_ble_eq_true rfl) dX7_tray_113) (fun H locs hw => ?_)
                      exact x_iret (pc := 116) C0 hK hk hr hw (congrArg (fun z => (z, u)) (Option.some.inj hf)) dX7_tray_116
                    · have hf := if_f hf hc12
                      by_cases hc13 : v2 = 13
                      · have hf := if_t hf hc13
                        refine lv_tableIn (tgt := 117) (pc := 45) C0.1 C0.2.1 dX7_tray_45 (by rw [hc13]; decide) (by rw [hc13]; decide) (by rw [hc13]; rfl) (by decide) ?_
                        refine lv_aload_n (pc := 117) C0.1 C0.2.1 dX7_tray_117 rfl (lv_at hl 0 rfl) ?_
                        refine lv_iload_n (pc := 118) C0.1 C0.2.1 dX7_tray_118 rfl (lv_at hl 1 rfl) ?_
                        obtain ⟨q10, hq10, hf⟩ := bd_e hf
                        refine x_backp (pc := 119) hw (x_runV (pc := 119) (As := [.int v1]) (rest := []) C0 hK hw hl.1 ⟨Nat.zero_le _, Nat.zero_le _⟩ (kX7_above l D y ad hI v1 u hq10) (by decide) ly_m0 rfl rfl wc_X7_above wm_X7_118 wi_X7_above ws_X7_above wn_X7 ⟨rfl, rfl⟩ hd_X7_above rfl ⟨Nat.le_of_ble_eq_true rfl, Nat.le_of_ble_eq_true rfl⟩ (Nat.le_of_ble_eq_true rfl) dX7_tray_119) (fun H locs hw => ?_)
                        refine lv_if_ne (tgt := 129) (pc := 122) C0.1 C0.2.1 dX7_tray_122 (by decide) (fun hc => ?_) (fun hc => ?_)
                        · have hf := if_f hf hc
                          refine lv_iconst (v := 0) (pc := 129) C0.1 C0.2.1 dX7_tray_129 (by decide) ?_
                          exact x_iret (pc := 130) C0 hK hk hr hw (congrArg (fun z => (z, u)) (Option.some.inj hf)) dX7_tray_130
                        · have hf := if_t hf hc
                          refine lv_iconst (v := 1) (pc := 125) C0.1 C0.2.1 dX7_tray_125 (by decide) ?_
                          refine lv_goto (tgt := 130) (pc := 126) C0.1 C0.2.1 dX7_tray_126 (by decide) ?_
                          exact x_iret (pc := 130) C0 hK hk hr hw (congrArg (fun z => (z, u)) (Option.some.inj hf)) dX7_tray_130
                      · have hf := if_f hf hc13
                        by_cases hc14 : v2 = 14
                        · have hf := if_t hf hc14
                          refine lv_tableIn (tgt := 131) (pc := 45) C0.1 C0.2.1 dX7_tray_45 (by rw [hc14]; decide) (by rw [hc14]; decide) (by rw [hc14]; rfl) (by decide) ?_
                          refine lv_aload_n (pc := 131) C0.1 C0.2.1 dX7_tray_131 rfl (lv_at hl 0 rfl) ?_
                          refine lv_iload_n (pc := 132) C0.1 C0.2.1 dX7_tray_132 rfl (lv_at hl 1 rfl) ?_
                          obtain ⟨q11, hq11, hf⟩ := bd_e hf
                          refine x_backp (pc := 133) hw (x_runV (pc := 133) (As := [.int v1]) (rest := []) C0 hK hw hl.1 ⟨Nat.zero_le _, Nat.zero_le _⟩ (kX7_above l D y ad hI v1 u hq11) (by decide) ly_m0 rfl rfl wc_X7_above wm_X7_118 wi_X7_above ws_X7_above wn_X7 ⟨rfl, rfl⟩ hd_X7_above rfl ⟨Nat.le_of_ble_eq_true rfl, Nat.le_of_ble_eq_true rfl⟩ (Nat.le_of_ble_eq_true rfl) dX7_tray_133) (fun H locs hw => ?_)
                          exact x_iret (pc := 136) C0 hK hk hr hw (congrArg (fun z => (z, u)) (Option.some.inj hf)) dX7_tray_136
                        · have hf := if_f hf hc14
                          refine lv_tableOut (tgt := 137) (pc := 45) C0.1 C0.2.1 dX7_tray_45 (by have h7 := lv_neT hc7 (a := 7) (by decide); have h8 := lv_neT hc8 (a := 8) (by decide); have h9 := lv_neT hc9 (a := 9) (by decide); have h10 := lv_neT hc10 (a := 10) (by decide); have h11 := lv_neT hc11 (a := 11) (by decide); have h12 := lv_neT hc12 (a := 12) (by decide); have h13 := lv_neT hc13 (a := 13) (by decide); have h14 := lv_neT hc14 (a := 14) (by decide); omega) (by decide) ?_
                          refine lv_aload_n (pc := 137) C0.1 C0.2.1 dX7_tray_137 rfl (lv_at hl 0 rfl) ?_
                          refine lv_iload_n (pc := 138) C0.1 C0.2.1 dX7_tray_138 rfl (lv_at hl 1 rfl) ?_
                          obtain ⟨q12, hq12, hf⟩ := bd_e hf
                          refine x_backp (pc := 139) hw (x_runV (pc := 139) (As := [.int v1]) (rest := []) C0 hK hw hl.1 ⟨Nat.zero_le _, Nat.zero_le _⟩ (kX7_rests l D y ad hI v1 u hq12) (by decide) ly_m0 rfl rfl wc_X7_rests wm_X7_175 wi_X7_rests ws_X7_rests wn_X7 ⟨rfl, rfl⟩ hd_X7_rests rfl ⟨Nat.le_of_ble_eq_true rfl, Nat.le_of_ble_eq_true rfl⟩ (Nat.le_of_ble_eq_true rfl) dX7_tray_139) (fun H locs hw => ?_)
                          exact x_iret (pc := 142) C0 hK hk hr hw (congrArg (fun z => (z, u)) (Option.some.inj hf)) dX7_tray_142
        · have hf := if_t hf hc
          refine lv_bipush (v := (-9)) (pc := 41) C0.1 C0.2.1 dX7_tray_41 (by decide) ?_
          exact x_iret (pc := 43) C0 hK hk hr hw (congrArg (fun z => (z, u)) (Option.some.inj hf)) dX7_tray_43
      · have hf := if_f hf hc
        refine lv_aload_n (pc := 26) C0.1 C0.2.1 dX7_tray_26 rfl (lv_at hl 0 rfl) ?_
        refine lv_iload_n (pc := 27) C0.1 C0.2.1 dX7_tray_27 rfl (lv_at hl 1 rfl) ?_
        refine lv_iload_n (pc := 28) C0.1 C0.2.1 dX7_tray_28 rfl (lv_at hl 2 rfl) ?_
        obtain ⟨q13, hq13, hf⟩ := bd_e hf
        refine x_backp (pc := 29) hw (x_runV (pc := 29) (As := [.int v1, .int v2]) (rest := []) C0 hK hw hl.1 ⟨Nat.zero_le _, Nat.zero_le _⟩ (kX7_of l D y ad hI v1 v2 u hq13) (by decide) ly_m0 rfl rfl wc_X7_of wm_X7_47 wi_X7_of ws_X7_of wn_X7 ⟨rfl, rfl⟩ hd_X7_of rfl ⟨Nat.le_of_ble_eq_true rfl, Nat.le_of_ble_eq_true rfl⟩ (Nat.le_of_ble_eq_true rfl) dX7_tray_29) (fun H locs hw => ?_)
        exact x_iret (pc := 32) C0 hK hk hr hw (congrArg (fun z => (z, u)) (Option.some.inj hf)) dX7_tray_32
    · have hf := if_t hf hc
      refine lv_iconst (v := (-1)) (pc := 18) C0.1 C0.2.1 dX7_tray_18 (by decide) ?_
      exact x_iret (pc := 19) C0 hK hk hr hw (congrArg (fun z => (z, u)) (Option.some.inj hf)) dX7_tray_19
def wX7_seen : List Cond := .code yX7_seen cX7_seen 7 (some .int) :: lwT
def rX7_seen : Room := { frames := 4, cells := 0, slots := 0, locals := 90 }
set_option maxRecDepth 100000 in
set_option maxHeartbeats 4000000 in
theorem kX7_seen (l : Launch) (D : va_G) (y : Nat → ClassId) (ad : Nat → Nat) (hI : XI ad 8) (v1 : Int32) (v2 : Int32) (v3 : Int32) (u : S) {o : Int32} (hf : fX7_seen v1 v2 v3 u = some o) : Met l yX7_seen wX7_seen rX7_seen (va_Pc [.ref (ad 0), .int v1, .int v2, .int v3] (XW D y ad LM 8 u)) (XQi D y ad LM 8 (o, u)) 0 0 (XA ad 8) := by
  refine x_met (bytes := cX7_seen) (maxL := 7) (ret := (some .int)) (own := RX7) (by decide) rfl rfl (Nat.le_of_ble_eq_true rfl) (fun p e s m below meth c ls C0 hK hk hr hw hl => ?_)
  have hl : lv_has ls 7 [(0, .ref (ad 0)), (1, .int v1), (2, .int v2), (3, .int v3)] := hl
  unfold fX7_seen at hf
  refine lv_iload_n (pc := 0) C0.1 C0.2.1 dX7_seen_0 rfl (lv_at hl 1 rfl) ?_
  refine lv_iconst (v := 0) (pc := 1) C0.1 C0.2.1 dX7_seen_1 (by decide) ?_
  refine lv_aload_n (pc := 2) C0.1 C0.2.1 dX7_seen_2 rfl (lv_at hl 0 rfl) ?_
  refine x_get (pc := 3) (v := .ref (ad 1)) C0 hK hw (by decide) ly_m0 rfl inX7 0 (by decide) wf_X7_7 rfl rfl dX7_seen_3 ?_
  refine lv_iconst (v := 0) (pc := 6) C0.1 C0.2.1 dX7_seen_6 (by decide) ?_
  obtain ⟨hi, hf⟩ := gd_e hf
  refine x_iald (pc := 7) C0 hK hw (by decide) ly_m1 hi dX7_seen_7 ?_
  refine lv_iconst (v := 1) (pc := 8) C0.1 C0.2.1 dX7_seen_8 (by decide) ?_
  refine lv_isub (pc := 9) C0.1 C0.2.1 dX7_seen_9 ?_
  obtain ⟨q1, hq1, hf⟩ := bd_e hf
  refine x_backp (pc := 10) hw (x_runS (pc := 10) (As := [.int v1, .int 0, .int ((u.1 1 (0 : Int32).toNatClampNeg) - 1)]) (rest := []) C0 hK hw hl.1 ⟨Nat.zero_le _, Nat.zero_le _⟩ (kX7_in l D y ad hI v1 0 ((u.1 1 (0 : Int32).toNatClampNeg) - 1) u hq1) rfl wc_X7_in wm_X7_43 wt_X7_in wn_X7 ⟨rfl, rfl⟩ hd_X7_in rfl ⟨Nat.le_of_ble_eq_true rfl, Nat.le_of_ble_eq_true rfl⟩ (Nat.le_of_ble_eq_true rfl) dX7_seen_10) (fun H locs hw => ?_)
  refine lv_if_eq (tgt := 32) (pc := 13) C0.1 C0.2.1 dX7_seen_13 (by decide) (fun hc => ?_) (fun hc => ?_)
  · have hf := if_t hf hc
    refine lv_iconst (v := (-1)) (pc := 32) C0.1 C0.2.1 dX7_seen_32 (by decide) ?_
    exact x_iret (pc := 33) C0 hK hk hr hw (congrArg (fun z => (z, u)) (Option.some.inj hf)) dX7_seen_33
  · have hf := if_f hf hc
    refine lv_iload_n (pc := 16) C0.1 C0.2.1 dX7_seen_16 rfl (lv_at hl 2 rfl) ?_
    refine lv_iconst (v := 0) (pc := 17) C0.1 C0.2.1 dX7_seen_17 (by decide) ?_
    refine lv_aload_n (pc := 18) C0.1 C0.2.1 dX7_seen_18 rfl (lv_at hl 0 rfl) ?_
    refine x_get (pc := 19) (v := .ref (ad 1)) C0 hK hw (by decide) ly_m0 rfl inX7 0 (by decide) wf_X7_7 rfl rfl dX7_seen_19 ?_
    refine lv_iconst (v := 1) (pc := 22) C0.1 C0.2.1 dX7_seen_22 (by decide) ?_
    obtain ⟨hi, hf⟩ := gd_e hf
    refine x_iald (pc := 23) C0 hK hw (by decide) ly_m1 hi dX7_seen_23 ?_
    refine lv_iconst (v := 1) (pc := 24) C0.1 C0.2.1 dX7_seen_24 (by decide) ?_
    refine lv_isub (pc := 25) C0.1 C0.2.1 dX7_seen_25 ?_
    obtain ⟨q2, hq2, hf⟩ := bd_e hf
    refine x_backp (pc := 26) hw (x_runS (pc := 26) (As := [.int v2, .int 0, .int ((u.1 1 (1 : Int32).toNatClampNeg) - 1)]) (rest := []) C0 hK hw hl.1 ⟨Nat.zero_le _, Nat.zero_le _⟩ (kX7_in l D y ad hI v2 0 ((u.1 1 (1 : Int32).toNatClampNeg) - 1) u hq2) rfl wc_X7_in wm_X7_43 wt_X7_in wn_X7 ⟨rfl, rfl⟩ hd_X7_in rfl ⟨Nat.le_of_ble_eq_true rfl, Nat.le_of_ble_eq_true rfl⟩ (Nat.le_of_ble_eq_true rfl) dX7_seen_26) (fun H locs hw => ?_)
    refine lv_if_ne (tgt := 34) (pc := 29) C0.1 C0.2.1 dX7_seen_29 (by decide) (fun hc => ?_) (fun hc => ?_)
    · have hf := if_f hf hc
      refine lv_bipush (v := (-9)) (pc := 34) C0.1 C0.2.1 dX7_seen_34 (by decide) ?_
      refine lv_istore (pc := 36) (lv' := [(4, .int (-9)), (0, .ref (ad 0)), (1, .int v1), (2, .int v2), (3, .int v3)]) C0.1 C0.2.1 dX7_seen_36 hl (by decide) rfl (fun ls hl => ?_)
      refine lv_iconst (v := 0) (pc := 38) C0.1 C0.2.1 dX7_seen_38 (by decide) ?_
      refine lv_istore (pc := 39) (lv' := [(5, .int 0), (4, .int (-9)), (0, .ref (ad 0)), (1, .int v1), (2, .int v2), (3, .int v3)]) C0.1 C0.2.1 dX7_seen_39 hl (by decide) rfl (fun ls hl => ?_)
      obtain ⟨e3, he3, hf⟩ := bd_e hf
      refine X_loop (pc := 41) (xpc := 119) (fu := fun a1 => u) (fl := fun a1 => [(5, .int a1.2), (4, .int a1.1), (0, .ref (ad 0)), (1, .int v1), (2, .int v2), (3, .int v3)]) (fun a1 r hf hE hG H locs ls hw hl => ?_) he3 (fun H locs ls hw hl => ?_) hw hl
      · unfold gX7_seen_41 at hf
        refine lv_iload (pc := 41) C0.1 C0.2.1 dX7_seen_41 (lv_at hl 0 rfl) ?_
        refine lv_aload_n (pc := 43) C0.1 C0.2.1 dX7_seen_43 rfl (lv_at hl 2 rfl) ?_
        obtain ⟨q4, hq4, hf⟩ := bd_e hf
        refine x_backp (pc := 44) hw (x_runV (pc := 44) (As := []) (rest := [.int a1.2]) C0 hK hw hl.1 ⟨Nat.zero_le _, Nat.zero_le _⟩ (kX7_trays l D y ad hI  u hq4) (by decide) ly_m0 rfl rfl wc_X7_trays wm_X7_39 wi_X7_trays ws_X7_trays wn_X7 ⟨rfl, rfl⟩ hd_X7_trays rfl ⟨Nat.le_of_ble_eq_true rfl, Nat.le_of_ble_eq_true rfl⟩ (Nat.le_of_ble_eq_true rfl) dX7_seen_44) (fun H locs hw => ?_)
        refine lv_icmp_ge (tgt := 119) (pc := 47) C0.1 C0.2.1 dX7_seen_47 (by decide) (fun hc => ?_) (fun hc => ?_)
        · have hf := if_t hf hc
          exact hE _ (Option.some.inj hf).symm H locs ls hw (lv_sub hl [0, 1, 2, 3, 4, 5] rfl)
        · have hf := if_f hf hc
          refine lv_aload_n (pc := 50) C0.1 C0.2.1 dX7_seen_50 rfl (lv_at hl 2 rfl) ?_
          refine lv_iload (pc := 51) C0.1 C0.2.1 dX7_seen_51 (lv_at hl 0 rfl) ?_
          obtain ⟨q5, hq5, hf⟩ := bd_e hf
          refine x_backp (pc := 53) hw (x_runV (pc := 53) (As := [.int a1.2]) (rest := []) C0 hK hw hl.1 ⟨Nat.zero_le _, Nat.zero_le _⟩ (kX7_isIn l D y ad hI a1.2 u hq5) (by decide) ly_m0 rfl rfl wc_X7_isIn wm_X7_71 wi_X7_isIn ws_X7_isIn wn_X7 ⟨rfl, rfl⟩ hd_X7_isIn rfl ⟨Nat.le_of_ble_eq_true rfl, Nat.le_of_ble_eq_true rfl⟩ (Nat.le_of_ble_eq_true rfl) dX7_seen_53) (fun H locs hw => ?_)
          refine lv_if_eq (tgt := 74) (pc := 56) C0.1 C0.2.1 dX7_seen_56 (by decide) (fun hc => ?_) (fun hc => ?_)
          · have hf := if_t hf hc
            refine lv_iconst (v := 0) (pc := 74) C0.1 C0.2.1 dX7_seen_74 (by decide) ?_
            refine lv_istore (pc := 75) (lv' := [(6, .int 0), (5, .int a1.2), (4, .int a1.1), (0, .ref (ad 0)), (1, .int v1), (2, .int v2), (3, .int v3)]) C0.1 C0.2.1 dX7_seen_75 hl (by decide) rfl (fun ls hl => ?_)
            refine lv_iload (pc := 77) C0.1 C0.2.1 dX7_seen_77 (lv_at hl 0 rfl) ?_
            refine lv_if_eq (tgt := 109) (pc := 79) C0.1 C0.2.1 dX7_seen_79 (by decide) (fun hc => ?_) (fun hc => ?_)
            · have hf := if_t hf hc
              refine lv_iload (pc := 109) C0.1 C0.2.1 dX7_seen_109 (lv_at hl 2 rfl) ?_
              refine lv_istore (pc := 111) (lv' := [(4, .int a1.1), (6, .int 0), (5, .int a1.2), (0, .ref (ad 0)), (1, .int v1), (2, .int v2), (3, .int v3)]) C0.1 C0.2.1 dX7_seen_111 hl (by decide) rfl (fun ls hl => ?_)
              refine lv_iinc (pc := 113) (v := a1.2 + 1) (lv' := [(5, .int (a1.2 + 1)), (4, .int a1.1), (6, .int 0), (0, .ref (ad 0)), (1, .int v1), (2, .int v2), (3, .int v3)]) C0.1 C0.2.1 dX7_seen_113 hl (k := 2) rfl rfl (by decide) rfl (fun ls hl => ?_)
              refine lv_goto (tgt := 41) (pc := 116) C0.1 C0.2.1 dX7_seen_116 (by decide) ?_
              exact hG _ (Option.some.inj hf).symm H locs ls hw (lv_sub hl [0, 1, 3, 4, 5, 6] rfl)
            · have hf := if_f hf hc
              refine lv_iload (pc := 82) C0.1 C0.2.1 dX7_seen_82 (lv_at hl 2 rfl) ?_
              refine lv_bipush (v := (-9)) (pc := 84) C0.1 C0.2.1 dX7_seen_84 (by decide) ?_
              refine lv_icmp_eq (tgt := 104) (pc := 86) C0.1 C0.2.1 dX7_seen_86 (by decide) (fun hc => ?_) (fun hc => ?_)
              · have hf := if_t hf hc
                refine lv_iload (pc := 104) C0.1 C0.2.1 dX7_seen_104 (lv_at hl 1 rfl) ?_
                refine lv_goto (tgt := 111) (pc := 106) C0.1 C0.2.1 dX7_seen_106 (by decide) ?_
                refine lv_istore (pc := 111) (lv' := [(4, .int a1.2), (6, .int 0), (5, .int a1.2), (0, .ref (ad 0)), (1, .int v1), (2, .int v2), (3, .int v3)]) C0.1 C0.2.1 dX7_seen_111 hl (by decide) rfl (fun ls hl => ?_)
                refine lv_iinc (pc := 113) (v := a1.2 + 1) (lv' := [(5, .int (a1.2 + 1)), (4, .int a1.2), (6, .int 0), (0, .ref (ad 0)), (1, .int v1), (2, .int v2), (3, .int v3)]) C0.1 C0.2.1 dX7_seen_113 hl (k := 2) rfl rfl (by decide) rfl (fun ls hl => ?_)
                refine lv_goto (tgt := 41) (pc := 116) C0.1 C0.2.1 dX7_seen_116 (by decide) ?_
                exact hG _ (Option.some.inj hf).symm H locs ls hw (lv_sub hl [0, 1, 3, 4, 5, 6] rfl)
              · have hf := if_f hf hc
                refine lv_aload_n (pc := 89) C0.1 C0.2.1 dX7_seen_89 rfl (lv_at hl 3 rfl) ?_
                refine lv_iload (pc := 90) C0.1 C0.2.1 dX7_seen_90 (lv_at hl 1 rfl) ?_
                obtain ⟨q6, hq6, hf⟩ := bd_e hf
                refine x_backp (pc := 92) hw (x_runV (pc := 92) (As := [.int a1.2]) (rest := []) C0 hK hw hl.1 ⟨Nat.zero_le _, Nat.zero_le _⟩ (kX7_top l D y ad hI a1.2 u hq6) (by decide) ly_m0 rfl rfl wc_X7_top wm_X7_78 wi_X7_top ws_X7_top wn_X7 ⟨rfl, rfl⟩ hd_X7_top rfl ⟨Nat.le_of_ble_eq_true rfl, Nat.le_of_ble_eq_true rfl⟩ (Nat.le_of_ble_eq_true rfl) dX7_seen_92) (fun H locs hw => ?_)
                refine lv_aload_n (pc := 95) C0.1 C0.2.1 dX7_seen_95 rfl (lv_at hl 3 rfl) ?_
                refine lv_iload (pc := 96) C0.1 C0.2.1 dX7_seen_96 (lv_at hl 2 rfl) ?_
                obtain ⟨q7, hq7, hf⟩ := bd_e hf
                refine x_backp (pc := 98) hw (x_runV (pc := 98) (As := [.int a1.1]) (rest := [.int q6]) C0 hK hw hl.1 ⟨Nat.zero_le _, Nat.zero_le _⟩ (kX7_top l D y ad hI a1.1 u hq7) (by decide) ly_m0 rfl rfl wc_X7_top wm_X7_78 wi_X7_top ws_X7_top wn_X7 ⟨rfl, rfl⟩ hd_X7_top rfl ⟨Nat.le_of_ble_eq_true rfl, Nat.le_of_ble_eq_true rfl⟩ (Nat.le_of_ble_eq_true rfl) dX7_seen_98) (fun H locs hw => ?_)
                refine lv_icmp_le (tgt := 109) (pc := 101) C0.1 C0.2.1 dX7_seen_101 (by decide) (fun hc => ?_) (fun hc => ?_)
                · have hf := if_t hf hc
                  refine lv_iload (pc := 109) C0.1 C0.2.1 dX7_seen_109 (lv_at hl 2 rfl) ?_
                  refine lv_istore (pc := 111) (lv' := [(4, .int a1.1), (6, .int 0), (5, .int a1.2), (0, .ref (ad 0)), (1, .int v1), (2, .int v2), (3, .int v3)]) C0.1 C0.2.1 dX7_seen_111 hl (by decide) rfl (fun ls hl => ?_)
                  refine lv_iinc (pc := 113) (v := a1.2 + 1) (lv' := [(5, .int (a1.2 + 1)), (4, .int a1.1), (6, .int 0), (0, .ref (ad 0)), (1, .int v1), (2, .int v2), (3, .int v3)]) C0.1 C0.2.1 dX7_seen_113 hl (k := 2) rfl rfl (by decide) rfl (fun ls hl => ?_)
                  refine lv_goto (tgt := 41) (pc := 116) C0.1 C0.2.1 dX7_seen_116 (by decide) ?_
                  exact hG _ (Option.some.inj hf).symm H locs ls hw (lv_sub hl [0, 1, 3, 4, 5, 6] rfl)
                · have hf := if_f hf hc
                  refine lv_iload (pc := 104) C0.1 C0.2.1 dX7_seen_104 (lv_at hl 1 rfl) ?_
                  refine lv_goto (tgt := 111) (pc := 106) C0.1 C0.2.1 dX7_seen_106 (by decide) ?_
                  refine lv_istore (pc := 111) (lv' := [(4, .int a1.2), (6, .int 0), (5, .int a1.2), (0, .ref (ad 0)), (1, .int v1), (2, .int v2), (3, .int v3)]) C0.1 C0.2.1 dX7_seen_111 hl (by decide) rfl (fun ls hl => ?_)
                  refine lv_iinc (pc := 113) (v := a1.2 + 1) (lv' := [(5, .int (a1.2 + 1)), (4, .int a1.2), (6, .int 0), (0, .ref (ad 0)), (1, .int v1), (2, .int v2), (3, .int v3)]) C0.1 C0.2.1 dX7_seen_113 hl (k := 2) rfl rfl (by decide) rfl (fun ls hl => ?_)
                  refine lv_goto (tgt := 41) (pc := 116) C0.1 C0.2.1 dX7_seen_116 (by decide) ?_
                  exact hG _ (Option.some.inj hf).symm H locs ls hw (lv_sub hl [0, 1, 3, 4, 5, 6] rfl)
          · have hf := if_f hf hc
            refine lv_aload_n (pc := 59) C0.1 C0.2.1 dX7_seen_59 rfl (lv_at hl 2 rfl) ?_
            refine lv_iload (pc := 60) C0.1 C0.2.1 dX7_seen_60 (lv_at hl 0 rfl) ?_
            refine lv_iload_n (pc := 62) C0.1 C0.2.1 dX7_seen_62 rfl (lv_at hl 3 rfl) ?_
            refine lv_iload_n (pc := 63) C0.1 C0.2.1 dX7_seen_63 rfl (lv_at hl 4 rfl) ?_
            obtain ⟨q8, hq8, hf⟩ := bd_e hf
            refine x_backp (pc := 64) hw (x_runV (pc := 64) (As := [.int a1.2, .int v1, .int v2]) (rest := []) C0 hK hw hl.1 ⟨Nat.zero_le _, Nat.zero_le _⟩ (kX7_covers l D y ad hI a1.2 v1 v2 u hq8) (by decide) ly_m0 rfl rfl wc_X7_covers wm_X7_75 wi_X7_covers ws_X7_covers wn_X7 ⟨rfl, rfl⟩ hd_X7_covers rfl ⟨Nat.le_of_ble_eq_true rfl, Nat.le_of_ble_eq_true rfl⟩ (Nat.le_of_ble_eq_true rfl) dX7_seen_64) (fun H locs hw => ?_)
            refine lv_if_eq (tgt := 74) (pc := 67) C0.1 C0.2.1 dX7_seen_67 (by decide) (fun hc => ?_) (fun hc => ?_)
            · have hf := if_t hf hc
              refine lv_iconst (v := 0) (pc := 74) C0.1 C0.2.1 dX7_seen_74 (by decide) ?_
              refine lv_istore (pc := 75) (lv' := [(6, .int 0), (5, .int a1.2), (4, .int a1.1), (0, .ref (ad 0)), (1, .int v1), (2, .int v2), (3, .int v3)]) C0.1 C0.2.1 dX7_seen_75 hl (by decide) rfl (fun ls hl => ?_)
              refine lv_iload (pc := 77) C0.1 C0.2.1 dX7_seen_77 (lv_at hl 0 rfl) ?_
              refine lv_if_eq (tgt := 109) (pc := 79) C0.1 C0.2.1 dX7_seen_79 (by decide) (fun hc => ?_) (fun hc => ?_)
              · have hf := if_t hf hc
                refine lv_iload (pc := 109) C0.1 C0.2.1 dX7_seen_109 (lv_at hl 2 rfl) ?_
                refine lv_istore (pc := 111) (lv' := [(4, .int a1.1), (6, .int 0), (5, .int a1.2), (0, .ref (ad 0)), (1, .int v1), (2, .int v2), (3, .int v3)]) C0.1 C0.2.1 dX7_seen_111 hl (by decide) rfl (fun ls hl => ?_)
                refine lv_iinc (pc := 113) (v := a1.2 + 1) (lv' := [(5, .int (a1.2 + 1)), (4, .int a1.1), (6, .int 0), (0, .ref (ad 0)), (1, .int v1), (2, .int v2), (3, .int v3)]) C0.1 C0.2.1 dX7_seen_113 hl (k := 2) rfl rfl (by decide) rfl (fun ls hl => ?_)
                refine lv_goto (tgt := 41) (pc := 116) C0.1 C0.2.1 dX7_seen_116 (by decide) ?_
                exact hG _ (Option.some.inj hf).symm H locs ls hw (lv_sub hl [0, 1, 3, 4, 5, 6] rfl)
              · have hf := if_f hf hc
                refine lv_iload (pc := 82) C0.1 C0.2.1 dX7_seen_82 (lv_at hl 2 rfl) ?_
                refine lv_bipush (v := (-9)) (pc := 84) C0.1 C0.2.1 dX7_seen_84 (by decide) ?_
                refine lv_icmp_eq (tgt := 104) (pc := 86) C0.1 C0.2.1 dX7_seen_86 (by decide) (fun hc => ?_) (fun hc => ?_)
                · have hf := if_t hf hc
                  refine lv_iload (pc := 104) C0.1 C0.2.1 dX7_seen_104 (lv_at hl 1 rfl) ?_
                  refine lv_goto (tgt := 111) (pc := 106) C0.1 C0.2.1 dX7_seen_106 (by decide) ?_
                  refine lv_istore (pc := 111) (lv' := [(4, .int a1.2), (6, .int 0), (5, .int a1.2), (0, .ref (ad 0)), (1, .int v1), (2, .int v2), (3, .int v3)]) C0.1 C0.2.1 dX7_seen_111 hl (by decide) rfl (fun ls hl => ?_)
                  refine lv_iinc (pc := 113) (v := a1.2 + 1) (lv' := [(5, .int (a1.2 + 1)), (4, .int a1.2), (6, .int 0), (0, .ref (ad 0)), (1, .int v1), (2, .int v2), (3, .int v3)]) C0.1 C0.2.1 dX7_seen_113 hl (k := 2) rfl rfl (by decide) rfl (fun ls hl => ?_)
                  refine lv_goto (tgt := 41) (pc := 116) C0.1 C0.2.1 dX7_seen_116 (by decide) ?_
                  exact hG _ (Option.some.inj hf).symm H locs ls hw (lv_sub hl [0, 1, 3, 4, 5, 6] rfl)
                · have hf := if_f hf hc
                  refine lv_aload_n (pc := 89) C0.1 C0.2.1 dX7_seen_89 rfl (lv_at hl 3 rfl) ?_
                  refine lv_iload (pc := 90) C0.1 C0.2.1 dX7_seen_90 (lv_at hl 1 rfl) ?_
                  obtain ⟨q9, hq9, hf⟩ := bd_e hf
                  refine x_backp (pc := 92) hw (x_runV (pc := 92) (As := [.int a1.2]) (rest := []) C0 hK hw hl.1 ⟨Nat.zero_le _, Nat.zero_le _⟩ (kX7_top l D y ad hI a1.2 u hq9) (by decide) ly_m0 rfl rfl wc_X7_top wm_X7_78 wi_X7_top ws_X7_top wn_X7 ⟨rfl, rfl⟩ hd_X7_top rfl ⟨Nat.le_of_ble_eq_true rfl, Nat.le_of_ble_eq_true rfl⟩ (Nat.le_of_ble_eq_true rfl) dX7_seen_92) (fun H locs hw => ?_)
                  refine lv_aload_n (pc := 95) C0.1 C0.2.1 dX7_seen_95 rfl (lv_at hl 3 rfl) ?_
                  refine lv_iload (pc := 96) C0.1 C0.2.1 dX7_seen_96 (lv_at hl 2 rfl) ?_
                  obtain ⟨q10, hq10, hf⟩ := bd_e hf
                  refine x_backp (pc := 98) hw (x_runV (pc := 98) (As := [.int a1.1]) (rest := [.int q9]) C0 hK hw hl.1 ⟨Nat.zero_le _, Nat.zero_le _⟩ (kX7_top l D y ad hI a1.1 u hq10) (by decide) ly_m0 rfl rfl wc_X7_top wm_X7_78 wi_X7_top ws_X7_top wn_X7 ⟨rfl, rfl⟩ hd_X7_top rfl ⟨Nat.le_of_ble_eq_true rfl, Nat.le_of_ble_eq_true rfl⟩ (Nat.le_of_ble_eq_true rfl) dX7_seen_98) (fun H locs hw => ?_)
                  refine lv_icmp_le (tgt := 109) (pc := 101) C0.1 C0.2.1 dX7_seen_101 (by decide) (fun hc => ?_) (fun hc => ?_)
                  · have hf := if_t hf hc
                    refine lv_iload (pc := 109) C0.1 C0.2.1 dX7_seen_109 (lv_at hl 2 rfl) ?_
                    refine lv_istore (pc := 111) (lv' := [(4, .int a1.1), (6, .int 0), (5, .int a1.2), (0, .ref (ad 0)), (1, .int v1), (2, .int v2), (3, .int v3)]) C0.1 C0.2.1 dX7_seen_111 hl (by decide) rfl (fun ls hl => ?_)
                    refine lv_iinc (pc := 113) (v := a1.2 + 1) (lv' := [(5, .int (a1.2 + 1)), (4, .int a1.1), (6, .int 0), (0, .ref (ad 0)), (1, .int v1), (2, .int v2), (3, .int v3)]) C0.1 C0.2.1 dX7_seen_113 hl (k := 2) rfl rfl (by decide) rfl (fun ls hl => ?_)
                    refine lv_goto (tgt := 41) (pc := 116) C0.1 C0.2.1 dX7_seen_116 (by decide) ?_
                    exact hG _ (Option.some.inj hf).symm H locs ls hw (lv_sub hl [0, 1, 3, 4, 5, 6] rfl)
                  · have hf := if_f hf hc
                    refine lv_iload (pc := 104) C0.1 C0.2.1 dX7_seen_104 (lv_at hl 1 rfl) ?_
                    refine lv_goto (tgt := 111) (pc := 106) C0.1 C0.2.1 dX7_seen_106 (by decide) ?_
                    refine lv_istore (pc := 111) (lv' := [(4, .int a1.2), (6, .int 0), (5, .int a1.2), (0, .ref (ad 0)), (1, .int v1), (2, .int v2), (3, .int v3)]) C0.1 C0.2.1 dX7_seen_111 hl (by decide) rfl (fun ls hl => ?_)
                    refine lv_iinc (pc := 113) (v := a1.2 + 1) (lv' := [(5, .int (a1.2 + 1)), (4, .int a1.2), (6, .int 0), (0, .ref (ad 0)), (1, .int v1), (2, .int v2), (3, .int v3)]) C0.1 C0.2.1 dX7_seen_113 hl (k := 2) rfl rfl (by decide) rfl (fun ls hl => ?_)
                    refine lv_goto (tgt := 41) (pc := 116) C0.1 C0.2.1 dX7_seen_116 (by decide) ?_
                    exact hG _ (Option.some.inj hf).symm H locs ls hw (lv_sub hl [0, 1, 3, 4, 5, 6] rfl)
            · have hf := if_f hf hc
              refine lv_iconst (v := 1) (pc := 70) C0.1 C0.2.1 dX7_seen_70 (by decide) ?_
              refine lv_goto (tgt := 75) (pc := 71) C0.1 C0.2.1 dX7_seen_71 (by decide) ?_
              refine lv_istore (pc := 75) (lv' := [(6, .int 1), (5, .int a1.2), (4, .int a1.1), (0, .ref (ad 0)), (1, .int v1), (2, .int v2), (3, .int v3)]) C0.1 C0.2.1 dX7_seen_75 hl (by decide) rfl (fun ls hl => ?_)
              refine lv_iload (pc := 77) C0.1 C0.2.1 dX7_seen_77 (lv_at hl 0 rfl) ?_
              refine lv_if_eq (tgt := 109) (pc := 79) C0.1 C0.2.1 dX7_seen_79 (by decide) (fun hc => ?_) (fun hc => ?_)
              · have hf := if_t hf hc
                refine lv_iload (pc := 109) C0.1 C0.2.1 dX7_seen_109 (lv_at hl 2 rfl) ?_
                refine lv_istore (pc := 111) (lv' := [(4, .int a1.1), (6, .int 1), (5, .int a1.2), (0, .ref (ad 0)), (1, .int v1), (2, .int v2), (3, .int v3)]) C0.1 C0.2.1 dX7_seen_111 hl (by decide) rfl (fun ls hl => ?_)
                refine lv_iinc (pc := 113) (v := a1.2 + 1) (lv' := [(5, .int (a1.2 + 1)), (4, .int a1.1), (6, .int 1), (0, .ref (ad 0)), (1, .int v1), (2, .int v2), (3, .int v3)]) C0.1 C0.2.1 dX7_seen_113 hl (k := 2) rfl rfl (by decide) rfl (fun ls hl => ?_)
                refine lv_goto (tgt := 41) (pc := 116) C0.1 C0.2.1 dX7_seen_116 (by decide) ?_
                exact hG _ (Option.some.inj hf).symm H locs ls hw (lv_sub hl [0, 1, 3, 4, 5, 6] rfl)
              · have hf := if_f hf hc
                refine lv_iload (pc := 82) C0.1 C0.2.1 dX7_seen_82 (lv_at hl 2 rfl) ?_
                refine lv_bipush (v := (-9)) (pc := 84) C0.1 C0.2.1 dX7_seen_84 (by decide) ?_
                refine lv_icmp_eq (tgt := 104) (pc := 86) C0.1 C0.2.1 dX7_seen_86 (by decide) (fun hc => ?_) (fun hc => ?_)
                · have hf := if_t hf hc
                  refine lv_iload (pc := 104) C0.1 C0.2.1 dX7_seen_104 (lv_at hl 1 rfl) ?_
                  refine lv_goto (tgt := 111) (pc := 106) C0.1 C0.2.1 dX7_seen_106 (by decide) ?_
                  refine lv_istore (pc := 111) (lv' := [(4, .int a1.2), (6, .int 1), (5, .int a1.2), (0, .ref (ad 0)), (1, .int v1), (2, .int v2), (3, .int v3)]) C0.1 C0.2.1 dX7_seen_111 hl (by decide) rfl (fun ls hl => ?_)
                  refine lv_iinc (pc := 113) (v := a1.2 + 1) (lv' := [(5, .int (a1.2 + 1)), (4, .int a1.2), (6, .int 1), (0, .ref (ad 0)), (1, .int v1), (2, .int v2), (3, .int v3)]) C0.1 C0.2.1 dX7_seen_113 hl (k := 2) rfl rfl (by decide) rfl (fun ls hl => ?_)
                  refine lv_goto (tgt := 41) (pc := 116) C0.1 C0.2.1 dX7_seen_116 (by decide) ?_
                  exact hG _ (Option.some.inj hf).symm H locs ls hw (lv_sub hl [0, 1, 3, 4, 5, 6] rfl)
                · have hf := if_f hf hc
                  refine lv_aload_n (pc := 89) C0.1 C0.2.1 dX7_seen_89 rfl (lv_at hl 3 rfl) ?_
                  refine lv_iload (pc := 90) C0.1 C0.2.1 dX7_seen_90 (lv_at hl 1 rfl) ?_
                  obtain ⟨q11, hq11, hf⟩ := bd_e hf
                  refine x_backp (pc := 92) hw (x_runV (pc := 92) (As := [.int a1.2]) (rest := []) C0 hK hw hl.1 ⟨Nat.zero_le _, Nat.zero_le _⟩ (kX7_top l D y ad hI a1.2 u hq11) (by decide) ly_m0 rfl rfl wc_X7_top wm_X7_78 wi_X7_top ws_X7_top wn_X7 ⟨rfl, rfl⟩ hd_X7_top rfl ⟨Nat.le_of_ble_eq_true rfl, Nat.le_of_ble_eq_true rfl⟩ (Nat.le_of_ble_eq_true rfl) dX7_seen_92) (fun H locs hw => ?_)
                  refine lv_aload_n (pc := 95) C0.1 C0.2.1 dX7_seen_95 rfl (lv_at hl 3 rfl) ?_
                  refine lv_iload (pc := 96) C0.1 C0.2.1 dX7_seen_96 (lv_at hl 2 rfl) ?_
                  obtain ⟨q12, hq12, hf⟩ := bd_e hf
                  refine x_backp (pc := 98) hw (x_runV (pc := 98) (As := [.int a1.1]) (rest := [.int q11]) C0 hK hw hl.1 ⟨Nat.zero_le _, Nat.zero_le _⟩ (kX7_top l D y ad hI a1.1 u hq12) (by decide) ly_m0 rfl rfl wc_X7_top wm_X7_78 wi_X7_top ws_X7_top wn_X7 ⟨rfl, rfl⟩ hd_X7_top rfl ⟨Nat.le_of_ble_eq_true rfl, Nat.le_of_ble_eq_true rfl⟩ (Nat.le_of_ble_eq_true rfl) dX7_seen_98) (fun H locs hw => ?_)
                  refine lv_icmp_le (tgt := 109) (pc := 101) C0.1 C0.2.1 dX7_seen_101 (by decide) (fun hc => ?_) (fun hc => ?_)
                  · have hf := if_t hf hc
                    refine lv_iload (pc := 109) C0.1 C0.2.1 dX7_seen_109 (lv_at hl 2 rfl) ?_
                    refine lv_istore (pc := 111) (lv' := [(4, .int a1.1), (6, .int 1), (5, .int a1.2), (0, .ref (ad 0)), (1, .int v1), (2, .int v2), (3, .int v3)]) C0.1 C0.2.1 dX7_seen_111 hl (by decide) rfl (fun ls hl => ?_)
                    refine lv_iinc (pc := 113) (v := a1.2 + 1) (lv' := [(5, .int (a1.2 + 1)), (4, .int a1.1), (6, .int 1), (0, .ref (ad 0)), (1, .int v1), (2, .int v2), (3, .int v3)]) C0.1 C0.2.1 dX7_seen_113 hl (k := 2) rfl rfl (by decide) rfl (fun ls hl => ?_)
                    refine lv_goto (tgt := 41) (pc := 116) C0.1 C0.2.1 dX7_seen_116 (by decide) ?_
                    exact hG _ (Option.some.inj hf).symm H locs ls hw (lv_sub hl [0, 1, 3, 4, 5, 6] rfl)
                  · have hf := if_f hf hc
                    refine lv_iload (pc := 104) C0.1 C0.2.1 dX7_seen_104 (lv_at hl 1 rfl) ?_
                    refine lv_goto (tgt := 111) (pc := 106) C0.1 C0.2.1 dX7_seen_106 (by decide) ?_
                    refine lv_istore (pc := 111) (lv' := [(4, .int a1.2), (6, .int 1), (5, .int a1.2), (0, .ref (ad 0)), (1, .int v1), (2, .int v2), (3, .int v3)]) C0.1 C0.2.1 dX7_seen_111 hl (by decide) rfl (fun ls hl => ?_)
                    refine lv_iinc (pc := 113) (v := a1.2 + 1) (lv' := [(5, .int (a1.2 + 1)), (4, .int a1.2), (6, .int 1), (0, .ref (ad 0)), (1, .int v1), (2, .int v2), (3, .int v3)]) C0.1 C0.2.1 dX7_seen_113 hl (k := 2) rfl rfl (by decide) rfl (fun ls hl => ?_)
                    refine lv_goto (tgt := 41) (pc := 116) C0.1 C0.2.1 dX7_seen_116 (by decide) ?_
                    exact hG _ (Option.some.inj hf).symm H locs ls hw (lv_sub hl [0, 1, 3, 4, 5, 6] rfl)
      · skip
        refine lv_iload_n (pc := 119) C0.1 C0.2.1 dX7_seen_119 rfl (lv_at hl 5 rfl) ?_
        refine lv_if_ne (tgt := 128) (pc := 120) C0.1 C0.2.1 dX7_seen_120 (by decide) (fun hc => ?_) (fun hc => ?_)
        · have hf := if_f hf hc
          refine lv_iload (pc := 128) C0.1 C0.2.1 dX7_seen_128 (lv_at hl 1 rfl) ?_
          refine lv_bipush (v := (-9)) (pc := 130) C0.1 C0.2.1 dX7_seen_130 (by decide) ?_
          refine lv_icmp_ne (tgt := 139) (pc := 132) C0.1 C0.2.1 dX7_seen_132 (by decide) (fun hc => ?_) (fun hc => ?_)
          · have hf := if_f hf hc
            refine lv_aload_n (pc := 139) C0.1 C0.2.1 dX7_seen_139 rfl (lv_at hl 2 rfl) ?_
            refine lv_iload (pc := 140) C0.1 C0.2.1 dX7_seen_140 (lv_at hl 1 rfl) ?_
            obtain ⟨q13, hq13, hf⟩ := bd_e hf
            refine x_backp (pc := 142) hw (x_runV (pc := 142) (As := [.int e3.1]) (rest := []) C0 hK hw hl.1 ⟨Nat.zero_le _, Nat.zero_le _⟩ (kX7_top l D y ad hI e3.1 u hq13) (by decide) ly_m0 rfl rfl wc_X7_top wm_X7_78 wi_X7_top ws_X7_top wn_X7 ⟨rfl, rfl⟩ hd_X7_top rfl ⟨Nat.le_of_ble_eq_true rfl, Nat.le_of_ble_eq_true rfl⟩ (Nat.le_of_ble_eq_true rfl) dX7_seen_142) (fun H locs hw => ?_)
            exact x_iret (pc := 145) C0 hK hk hr hw (congrArg (fun z => (z, u)) (Option.some.inj hf)) dX7_seen_145
          · have hf := if_t hf hc
            refine lv_iconst (v := 0) (pc := 135) C0.1 C0.2.1 dX7_seen_135 (by decide) ?_
            refine lv_goto (tgt := 145) (pc := 136) C0.1 C0.2.1 dX7_seen_136 (by decide) ?_
            exact x_iret (pc := 145) C0 hK hk hr hw (congrArg (fun z => (z, u)) (Option.some.inj hf)) dX7_seen_145
        · have hf := if_t hf hc
          refine lv_iload (pc := 123) C0.1 C0.2.1 dX7_seen_123 (lv_at hl 1 rfl) ?_
          refine lv_goto (tgt := 145) (pc := 125) C0.1 C0.2.1 dX7_seen_125 (by decide) ?_
          exact x_iret (pc := 145) C0 hK hk hr hw (congrArg (fun z => (z, u)) (Option.some.inj hf)) dX7_seen_145
    · have hf := if_t hf hc
      refine lv_iconst (v := (-1)) (pc := 32) C0.1 C0.2.1 dX7_seen_32 (by decide) ?_
      exact x_iret (pc := 33) C0 hK hk hr hw (congrArg (fun z => (z, u)) (Option.some.inj hf)) dX7_seen_33
def wX7_finds : List Cond := .code yX7_finds cX7_finds 7 none :: lwT
def rX7_finds : Room := { frames := 5, cells := 0, slots := 0, locals := 112 }
set_option maxRecDepth 100000 in
set_option maxHeartbeats 4000000 in
theorem kX7_finds (l : Launch) (D : va_G) (y : Nat → ClassId) (ad : Nat → Nat) (hI : XI ad 8) (v1 : Int32) (u : S) {o : S} (hf : fX7_finds v1 u = some o) : Met l yX7_finds wX7_finds rX7_finds (va_Pc [.ref (ad 0), .int v1] (XW D y ad LM 8 u)) (XQv D y ad LM 8 o) 0 0 (XA ad 8) := by
  refine x_met (bytes := cX7_finds) (maxL := 7) (ret := none) (own := RX7) (by decide) rfl rfl (Nat.le_of_ble_eq_true rfl) (fun p e s m below meth c ls C0 hK hk hr hw hl => ?_)
  have hl : lv_has ls 7 [(0, .ref (ad 0)), (1, .int v1)] := hl
  unfold fX7_finds at hf
  refine lv_aload_n (pc := 0) C0.1 C0.2.1 dX7_finds_0 rfl (lv_at hl 0 rfl) ?_
  obtain ⟨q1, hq1, hf⟩ := bd_e hf
  refine x_backv (pc := 1) hw (x_runV (pc := 1) (As := []) (rest := []) C0 hK hw hl.1 ⟨Nat.zero_le _, Nat.zero_le _⟩ (kX7_laysTops l D y ad hI  u hq1) (by decide) ly_m0 rfl rfl wc_X7_laysTops wm_X7_91 wi_X7_laysTops ws_X7_laysTops wn_X7 ⟨rfl, rfl⟩ hd_X7_laysTops rfl ⟨Nat.le_of_ble_eq_true rfl, Nat.le_of_ble_eq_true rfl⟩ (Nat.le_of_ble_eq_true rfl) dX7_finds_1) (fun H locs hw => ?_)
  refine lv_aload_n (pc := 4) C0.1 C0.2.1 dX7_finds_4 rfl (lv_at hl 0 rfl) ?_
  refine lv_iconst (v := 0) (pc := 5) C0.1 C0.2.1 dX7_finds_5 (by decide) ?_
  obtain ⟨u2, hu, hf⟩ := nm_f hf
  refine x_put (pc := 6) hI C0 hK hw (by decide) ly_m0 rfl inX7 tyX7_ok nmX7 15 (by decide) wf_X7_178 rfl rfl rfl hu rfl rfl dX7_finds_6 (fun H locs hw => ?_)
  refine lv_aload_n (pc := 9) C0.1 C0.2.1 dX7_finds_9 rfl (lv_at hl 0 rfl) ?_
  refine lv_bipush (v := (-9)) (pc := 10) C0.1 C0.2.1 dX7_finds_10 (by decide) ?_
  obtain ⟨u3, hu, hf⟩ := nm_f hf
  refine x_put (pc := 12) hI C0 hK hw (by decide) ly_m0 rfl inX7 tyX7_ok nmX7 14 (by decide) wf_X7_181 rfl rfl rfl hu rfl rfl dX7_finds_12 (fun H locs hw => ?_)
  refine lv_aload_n (pc := 15) C0.1 C0.2.1 dX7_finds_15 rfl (lv_at hl 0 rfl) ?_
  refine lv_iload_n (pc := 16) C0.1 C0.2.1 dX7_finds_16 rfl (lv_at hl 1 rfl) ?_
  refine lv_iconst (v := 0) (pc := 17) C0.1 C0.2.1 dX7_finds_17 (by decide) ?_
  obtain ⟨q4, hq4, hf⟩ := bd_e hf
  refine x_backp (pc := 18) hw (x_runV (pc := 18) (As := [.int v1, .int 0]) (rest := []) C0 hK hw hl.1 ⟨Nat.zero_le _, Nat.zero_le _⟩ (kX7_of l D y ad hI v1 0 u3 hq4) (by decide) ly_m0 rfl rfl wc_X7_of wm_X7_47 wi_X7_of ws_X7_of wn_X7 ⟨rfl, rfl⟩ hd_X7_of rfl ⟨Nat.le_of_ble_eq_true rfl, Nat.le_of_ble_eq_true rfl⟩ (Nat.le_of_ble_eq_true rfl) dX7_finds_18) (fun H locs hw => ?_)
  refine lv_aload_n (pc := 21) C0.1 C0.2.1 dX7_finds_21 rfl (lv_at hl 0 rfl) ?_
  refine lv_iload_n (pc := 22) C0.1 C0.2.1 dX7_finds_22 rfl (lv_at hl 1 rfl) ?_
  refine lv_iconst (v := 1) (pc := 23) C0.1 C0.2.1 dX7_finds_23 (by decide) ?_
  obtain ⟨q5, hq5, hf⟩ := bd_e hf
  refine x_backp (pc := 24) hw (x_runV (pc := 24) (As := [.int v1, .int 1]) (rest := [.int q4]) C0 hK hw hl.1 ⟨Nat.zero_le _, Nat.zero_le _⟩ (kX7_of l D y ad hI v1 1 u3 hq5) (by decide) ly_m0 rfl rfl wc_X7_of wm_X7_47 wi_X7_of ws_X7_of wn_X7 ⟨rfl, rfl⟩ hd_X7_of rfl ⟨Nat.le_of_ble_eq_true rfl, Nat.le_of_ble_eq_true rfl⟩ (Nat.le_of_ble_eq_true rfl) dX7_finds_24) (fun H locs hw => ?_)
  refine lv_icmp_ne (tgt := 34) (pc := 27) C0.1 C0.2.1 dX7_finds_27 (by decide) (fun hc => ?_) (fun hc => ?_)
  · have hf := if_f hf hc
    refine lv_iconst (v := 2) (pc := 34) C0.1 C0.2.1 dX7_finds_34 (by decide) ?_
    refine lv_istore_n (pc := 35) (lv' := [(2, .int 2), (0, .ref (ad 0)), (1, .int v1)]) C0.1 C0.2.1 dX7_finds_35 rfl hl (by decide) rfl (fun ls hl => ?_)
    refine lv_iconst (v := 0) (pc := 36) C0.1 C0.2.1 dX7_finds_36 (by decide) ?_
    refine lv_istore_n (pc := 37) (lv' := [(3, .int 0), (2, .int 2), (0, .ref (ad 0)), (1, .int v1)]) C0.1 C0.2.1 dX7_finds_37 rfl hl (by decide) rfl (fun ls hl => ?_)
    obtain ⟨e6, he6, hf⟩ := bd_e hf
    refine X_loop (pc := 38) (xpc := 196) (fu := fun a1 => a1.2) (fl := fun a1 => [(3, .int a1.1), (2, .int 2), (0, .ref (ad 0)), (1, .int v1)]) (fun a1 r hf hE hG H locs ls hw hl => ?_) he6 (fun H locs ls hw hl => ?_) hw hl
    · unfold gX7_finds_38 at hf
      refine lv_iload_n (pc := 38) C0.1 C0.2.1 dX7_finds_38 rfl (lv_at hl 0 rfl) ?_
      refine lv_aload_n (pc := 39) C0.1 C0.2.1 dX7_finds_39 rfl (lv_at hl 2 rfl) ?_
      refine x_get (pc := 40) (v := .ref (ad 1)) C0 hK hw (by decide) ly_m0 rfl inX7 0 (by decide) wf_X7_7 rfl rfl dX7_finds_40 ?_
      refine lv_iconst (v := 1) (pc := 43) C0.1 C0.2.1 dX7_finds_43 (by decide) ?_
      obtain ⟨hi, hf⟩ := gd_e hf
      refine x_iald (pc := 44) C0 hK hw (by decide) ly_m1 hi dX7_finds_44 ?_
      refine lv_icmp_ge (tgt := 196) (pc := 45) C0.1 C0.2.1 dX7_finds_45 (by decide) (fun hc => ?_) (fun hc => ?_)
      · have hf := if_t hf hc
        exact hE _ (Option.some.inj hf).symm H locs ls hw (lv_sub hl [0, 1, 2, 3] rfl)
      · have hf := if_f hf hc
        refine lv_iconst (v := 0) (pc := 48) C0.1 C0.2.1 dX7_finds_48 (by decide) ?_
        refine lv_istore (pc := 49) (lv' := [(4, .int 0), (3, .int a1.1), (2, .int 2), (0, .ref (ad 0)), (1, .int v1)]) C0.1 C0.2.1 dX7_finds_49 hl (by decide) rfl (fun ls hl => ?_)
        obtain ⟨e7, he7, hf⟩ := bd_e hf
        refine X_loop (pc := 51) (xpc := 190) (fu := fun a2 => a2.2) (fl := fun a2 => [(4, .int a2.1), (3, .int a1.1), (2, .int 2), (0, .ref (ad 0)), (1, .int v1)]) (fun a2 r hf hE hG H locs ls hw hl => ?_) he7 (fun H locs ls hw hl => ?_) hw hl
        · unfold gX7_finds_51 at hf
          refine lv_iload (pc := 51) C0.1 C0.2.1 dX7_finds_51 (lv_at hl 0 rfl) ?_
          refine lv_aload_n (pc := 53) C0.1 C0.2.1 dX7_finds_53 rfl (lv_at hl 3 rfl) ?_
          refine x_get (pc := 54) (v := .ref (ad 1)) C0 hK hw (by decide) ly_m0 rfl inX7 0 (by decide) wf_X7_7 rfl rfl dX7_finds_54 ?_
          refine lv_iconst (v := 0) (pc := 57) C0.1 C0.2.1 dX7_finds_57 (by decide) ?_
          obtain ⟨hi, hf⟩ := gd_e hf
          refine x_iald (pc := 58) C0 hK hw (by decide) ly_m1 hi dX7_finds_58 ?_
          refine lv_icmp_ge (tgt := 190) (pc := 59) C0.1 C0.2.1 dX7_finds_59 (by decide) (fun hc => ?_) (fun hc => ?_)
          · have hf := if_t hf hc
            exact hE _ (Option.some.inj hf).symm H locs ls hw (lv_sub hl [0, 1, 2, 3, 4] rfl)
          · have hf := if_f hf hc
            refine lv_iconst (v := 0) (pc := 62) C0.1 C0.2.1 dX7_finds_62 (by decide) ?_
            refine lv_istore (pc := 63) (lv' := [(5, .int 0), (4, .int a2.1), (3, .int a1.1), (2, .int 2), (0, .ref (ad 0)), (1, .int v1)]) C0.1 C0.2.1 dX7_finds_63 hl (by decide) rfl (fun ls hl => ?_)
            obtain ⟨e8, he8, hf⟩ := bd_e hf
            refine X_loop (pc := 65) (xpc := 184) (fu := fun a3 => a3.2) (fl := fun a3 => [(5, .int a3.1), (4, .int a2.1), (3, .int a1.1), (2, .int 2), (0, .ref (ad 0)), (1, .int v1)]) (fun a3 r hf hE hG H locs ls hw hl => ?_) he8 (fun H locs ls hw hl => ?_) hw hl
            · unfold gX7_finds_65 at hf
              refine lv_iload (pc := 65) C0.1 C0.2.1 dX7_finds_65 (lv_at hl 0 rfl) ?_
              refine lv_iload_n (pc := 67) C0.1 C0.2.1 dX7_finds_67 rfl (lv_at hl 3 rfl) ?_
              refine lv_icmp_ge (tgt := 184) (pc := 68) C0.1 C0.2.1 dX7_finds_68 (by decide) (fun hc => ?_) (fun hc => ?_)
              · have hf := if_t hf hc
                exact hE _ (Option.some.inj hf).symm H locs ls hw (lv_sub hl [0, 1, 2, 3, 4, 5] rfl)
              · have hf := if_f hf hc
                refine lv_aload_n (pc := 71) C0.1 C0.2.1 dX7_finds_71 rfl (lv_at hl 4 rfl) ?_
                refine lv_iload_n (pc := 72) C0.1 C0.2.1 dX7_finds_72 rfl (lv_at hl 5 rfl) ?_
                refine lv_iload (pc := 73) C0.1 C0.2.1 dX7_finds_73 (lv_at hl 1 rfl) ?_
                refine lv_iload_n (pc := 75) C0.1 C0.2.1 dX7_finds_75 rfl (lv_at hl 2 rfl) ?_
                refine lv_iload (pc := 76) C0.1 C0.2.1 dX7_finds_76 (lv_at hl 0 rfl) ?_
                refine lv_iconst (v := 1) (pc := 78) C0.1 C0.2.1 dX7_finds_78 (by decide) ?_
                refine lv_icmp_ne (tgt := 86) (pc := 79) C0.1 C0.2.1 dX7_finds_79 (by decide) (fun hc => ?_) (fun hc => ?_)
                · have hf := if_f hf hc
                  refine lv_iconst (v := 0) (pc := 86) C0.1 C0.2.1 dX7_finds_86 (by decide) ?_
                  obtain ⟨q9, hq9, hf⟩ := bd_e hf
                  refine x_backp (pc := 87) hw (x_runV (pc := 87) (As := [.int v1, .int a2.1, .int a1.1, .int 0]) (rest := []) C0 hK hw hl.1 ⟨Nat.zero_le _, Nat.zero_le _⟩ (kX7_isInside l D y ad hI v1 a2.1 a1.1 0 a3.2 hq9) (by decide) ly_m0 rfl rfl wc_X7_isInside wm_X7_97 wi_X7_isInside ws_X7_isInside wn_X7 ⟨rfl, rfl⟩ hd_X7_isInside rfl ⟨Nat.le_of_ble_eq_true rfl, Nat.le_of_ble_eq_true rfl⟩ (Nat.le_of_ble_eq_true rfl) dX7_finds_87) (fun H locs hw => ?_)
                  refine lv_if_eq (tgt := 178) (pc := 90) C0.1 C0.2.1 dX7_finds_90 (by decide) (fun hc => ?_) (fun hc => ?_)
                  · have hf := if_t hf hc
                    refine lv_iinc (pc := 178) (v := a3.1 + 1) (lv' := [(5, .int (a3.1 + 1)), (4, .int a2.1), (3, .int a1.1), (2, .int 2), (0, .ref (ad 0)), (1, .int v1)]) C0.1 C0.2.1 dX7_finds_178 hl (k := 0) rfl rfl (by decide) rfl (fun ls hl => ?_)
                    refine lv_goto (tgt := 65) (pc := 181) C0.1 C0.2.1 dX7_finds_181 (by decide) ?_
                    exact hG _ (Option.some.inj hf).symm H locs ls hw (lv_sub hl [0, 1, 2, 3, 4, 5] rfl)
                  · have hf := if_f hf hc
                    refine lv_aload_n (pc := 93) C0.1 C0.2.1 dX7_finds_93 rfl (lv_at hl 4 rfl) ?_
                    refine lv_iload_n (pc := 94) C0.1 C0.2.1 dX7_finds_94 rfl (lv_at hl 5 rfl) ?_
                    refine lv_iload (pc := 95) C0.1 C0.2.1 dX7_finds_95 (lv_at hl 1 rfl) ?_
                    refine lv_iload_n (pc := 97) C0.1 C0.2.1 dX7_finds_97 rfl (lv_at hl 2 rfl) ?_
                    refine lv_iload (pc := 98) C0.1 C0.2.1 dX7_finds_98 (lv_at hl 0 rfl) ?_
                    refine lv_iconst (v := 1) (pc := 100) C0.1 C0.2.1 dX7_finds_100 (by decide) ?_
                    refine lv_icmp_ne (tgt := 108) (pc := 101) C0.1 C0.2.1 dX7_finds_101 (by decide) (fun hc => ?_) (fun hc => ?_)
                    · have hf := if_f hf hc
                      refine lv_iconst (v := 0) (pc := 108) C0.1 C0.2.1 dX7_finds_108 (by decide) ?_
                      obtain ⟨q10, hq10, hf⟩ := bd_e hf
                      refine x_back (pc := 109) hw (x_runV (pc := 109) (As := [.int v1, .int a2.1, .int a1.1, .int 0]) (rest := []) C0 hK hw hl.1 ⟨Nat.zero_le _, Nat.zero_le _⟩ (kX7_can l D y ad hI v1 a2.1 a1.1 0 a3.2 hq10) (by decide) ly_m0 rfl rfl wc_X7_can wm_X7_101 wi_X7_can ws_X7_can wn_X7 ⟨rfl, rfl⟩ hd_X7_can rfl ⟨Nat.le_of_ble_eq_true rfl, Nat.le_of_ble_eq_true rfl⟩ (Nat.le_of_ble_eq_true rfl) dX7_finds_109) (fun H locs hw => ?_)
                      refine lv_if_eq (tgt := 178) (pc := 112) C0.1 C0.2.1 dX7_finds_112 (by decide) (fun hc => ?_) (fun hc => ?_)
                      · have hf := if_t hf hc
                        refine lv_iinc (pc := 178) (v := a3.1 + 1) (lv' := [(5, .int (a3.1 + 1)), (4, .int a2.1), (3, .int a1.1), (2, .int 2), (0, .ref (ad 0)), (1, .int v1)]) C0.1 C0.2.1 dX7_finds_178 hl (k := 0) rfl rfl (by decide) rfl (fun ls hl => ?_)
                        refine lv_goto (tgt := 65) (pc := 181) C0.1 C0.2.1 dX7_finds_181 (by decide) ?_
                        exact hG _ (Option.some.inj hf).symm H locs ls hw (lv_sub hl [0, 1, 2, 3, 4, 5] rfl)
                      · have hf := if_f hf hc
                        refine lv_aload_n (pc := 115) C0.1 C0.2.1 dX7_finds_115 rfl (lv_at hl 4 rfl) ?_
                        refine x_get (pc := 116) (v := .int (q10.2.1 0 3)) C0 hK hw (by decide) ly_m0 rfl inX7 3 (by decide) wf_X7_81 rfl rfl dX7_finds_116 ?_
                        refine lv_aload_n (pc := 119) C0.1 C0.2.1 dX7_finds_119 rfl (lv_at hl 4 rfl) ?_
                        refine lv_iload_n (pc := 120) C0.1 C0.2.1 dX7_finds_120 rfl (lv_at hl 5 rfl) ?_
                        obtain ⟨q11, hq11, hf⟩ := bd_e hf
                        refine x_backp (pc := 121) hw (x_runV (pc := 121) (As := [.int v1]) (rest := [.int (q10.2.1 0 3)]) C0 hK hw hl.1 ⟨Nat.zero_le _, Nat.zero_le _⟩ (kX7_high l D y ad hI v1 q10.2 hq11) (by decide) ly_m0 rfl rfl wc_X7_high wm_X7_51 wi_X7_high ws_X7_high wn_X7 ⟨rfl, rfl⟩ hd_X7_high rfl ⟨Nat.le_of_ble_eq_true rfl, Nat.le_of_ble_eq_true rfl⟩ (Nat.le_of_ble_eq_true rfl) dX7_finds_121) (fun H locs hw => ?_)
                        refine lv_iadd (pc := 124) C0.1 C0.2.1 dX7_finds_124 ?_
                        refine lv_istore (pc := 125) (lv' := [(6, .int ((q10.2.1 0 3) + q11)), (5, .int a3.1), (4, .int a2.1), (3, .int a1.1), (2, .int 2), (0, .ref (ad 0)), (1, .int v1)]) C0.1 C0.2.1 dX7_finds_125 hl (by decide) rfl (fun ls hl => ?_)
                        refine lv_aload_n (pc := 127) C0.1 C0.2.1 dX7_finds_127 rfl (lv_at hl 5 rfl) ?_
                        refine lv_dup (pc := 128) C0.1 C0.2.1 dX7_finds_128 rfl ?_
                        refine x_get (pc := 129) (v := .int (q10.2.1 0 15)) C0 hK hw (by decide) ly_m0 rfl inX7 15 (by decide) wf_X7_178 rfl rfl dX7_finds_129 ?_
                        refine lv_iconst (v := 1) (pc := 132) C0.1 C0.2.1 dX7_finds_132 (by decide) ?_
                        refine lv_iadd (pc := 133) C0.1 C0.2.1 dX7_finds_133 ?_
                        obtain ⟨u12, hu, hf⟩ := nm_f hf
                        refine x_put (pc := 134) hI C0 hK hw (by decide) ly_m0 rfl inX7 tyX7_ok nmX7 15 (by decide) wf_X7_178 rfl rfl rfl hu rfl rfl dX7_finds_134 (fun H locs hw => ?_)
                        refine lv_aload_n (pc := 137) C0.1 C0.2.1 dX7_finds_137 rfl (lv_at hl 5 rfl) ?_
                        refine x_get (pc := 138) (v := .int (u12.1 0 14)) C0 hK hw (by decide) ly_m0 rfl inX7 14 (by decide) wf_X7_181 rfl rfl dX7_finds_138 ?_
                        refine lv_bipush (v := (-9)) (pc := 141) C0.1 C0.2.1 dX7_finds_141 (by decide) ?_
                        refine lv_icmp_eq (tgt := 155) (pc := 143) C0.1 C0.2.1 dX7_finds_143 (by decide) (fun hc => ?_) (fun hc => ?_)
                        · have hf := if_t hf hc
                          refine lv_aload_n (pc := 155) C0.1 C0.2.1 dX7_finds_155 rfl (lv_at hl 5 rfl) ?_
                          refine lv_iload (pc := 156) C0.1 C0.2.1 dX7_finds_156 (lv_at hl 0 rfl) ?_
                          obtain ⟨u13, hu, hf⟩ := nm_f hf
                          refine x_put (pc := 158) hI C0 hK hw (by decide) ly_m0 rfl inX7 tyX7_ok nmX7 14 (by decide) wf_X7_181 rfl rfl rfl hu rfl rfl dX7_finds_158 (fun H locs hw => ?_)
                          refine lv_aload_n (pc := 161) C0.1 C0.2.1 dX7_finds_161 rfl (lv_at hl 5 rfl) ?_
                          refine lv_iload (pc := 162) C0.1 C0.2.1 dX7_finds_162 (lv_at hl 2 rfl) ?_
                          obtain ⟨u14, hu, hf⟩ := nm_f hf
                          refine x_put (pc := 164) hI C0 hK hw (by decide) ly_m0 rfl inX7 tyX7_ok nmX7 11 (by decide) wf_X7_184 rfl rfl rfl hu rfl rfl dX7_finds_164 (fun H locs hw => ?_)
                          refine lv_aload_n (pc := 167) C0.1 C0.2.1 dX7_finds_167 rfl (lv_at hl 5 rfl) ?_
                          refine lv_iload_n (pc := 168) C0.1 C0.2.1 dX7_finds_168 rfl (lv_at hl 3 rfl) ?_
                          obtain ⟨u15, hu, hf⟩ := nm_f hf
                          refine x_put (pc := 169) hI C0 hK hw (by decide) ly_m0 rfl inX7 tyX7_ok nmX7 12 (by decide) wf_X7_187 rfl rfl rfl hu rfl rfl dX7_finds_169 (fun H locs hw => ?_)
                          refine lv_aload_n (pc := 172) C0.1 C0.2.1 dX7_finds_172 rfl (lv_at hl 5 rfl) ?_
                          refine lv_iload (pc := 173) C0.1 C0.2.1 dX7_finds_173 (lv_at hl 1 rfl) ?_
                          obtain ⟨u16, hu, hf⟩ := nm_f hf
                          refine x_put (pc := 175) hI C0 hK hw (by decide) ly_m0 rfl inX7 tyX7_ok nmX7 13 (by decide) wf_X7_190 rfl rfl rfl hu rfl rfl dX7_finds_175 (fun H locs hw => ?_)
                          refine lv_iinc (pc := 178) (v := a3.1 + 1) (lv' := [(5, .int (a3.1 + 1)), (6, .int ((q10.2.1 0 3) + q11)), (4, .int a2.1), (3, .int a1.1), (2, .int 2), (0, .ref (ad 0)), (1, .int v1)]) C0.1 C0.2.1 dX7_finds_178 hl (k := 1) rfl rfl (by decide) rfl (fun ls hl => ?_)
                          refine lv_goto (tgt := 65) (pc := 181) C0.1 C0.2.1 dX7_finds_181 (by decide) ?_
                          exact hG _ (Option.some.inj hf).symm H locs ls hw (lv_sub hl [0, 2, 3, 4, 5, 6] rfl)
                        · have hf := if_f hf hc
                          refine lv_iload (pc := 146) C0.1 C0.2.1 dX7_finds_146 (lv_at hl 0 rfl) ?_
                          refine lv_aload_n (pc := 148) C0.1 C0.2.1 dX7_finds_148 rfl (lv_at hl 5 rfl) ?_
                          refine x_get (pc := 149) (v := .int (u12.1 0 14)) C0 hK hw (by decide) ly_m0 rfl inX7 14 (by decide) wf_X7_181 rfl rfl dX7_finds_149 ?_
                          refine lv_icmp_ge (tgt := 178) (pc := 152) C0.1 C0.2.1 dX7_finds_152 (by decide) (fun hc => ?_) (fun hc => ?_)
                          · have hf := if_t hf hc
                            refine lv_iinc (pc := 178) (v := a3.1 + 1) (lv' := [(5, .int (a3.1 + 1)), (6, .int ((q10.2.1 0 3) + q11)), (4, .int a2.1), (3, .int a1.1), (2, .int 2), (0, .ref (ad 0)), (1, .int v1)]) C0.1 C0.2.1 dX7_finds_178 hl (k := 1) rfl rfl (by decide) rfl (fun ls hl => ?_)
                            refine lv_goto (tgt := 65) (pc := 181) C0.1 C0.2.1 dX7_finds_181 (by decide) ?_
                            exact hG _ (Option.some.inj hf).symm H locs ls hw (lv_sub hl [0, 2, 3, 4, 5, 6] rfl)
                          · have hf := if_f hf hc
                            refine lv_aload_n (pc := 155) C0.1 C0.2.1 dX7_finds_155 rfl (lv_at hl 5 rfl) ?_
                            refine lv_iload (pc := 156) C0.1 C0.2.1 dX7_finds_156 (lv_at hl 0 rfl) ?_
                            obtain ⟨u17, hu, hf⟩ := nm_f hf
                            refine x_put (pc := 158) hI C0 hK hw (by decide) ly_m0 rfl inX7 tyX7_ok nmX7 14 (by decide) wf_X7_181 rfl rfl rfl hu rfl rfl dX7_finds_158 (fun H locs hw => ?_)
                            refine lv_aload_n (pc := 161) C0.1 C0.2.1 dX7_finds_161 rfl (lv_at hl 5 rfl) ?_
                            refine lv_iload (pc := 162) C0.1 C0.2.1 dX7_finds_162 (lv_at hl 2 rfl) ?_
                            obtain ⟨u18, hu, hf⟩ := nm_f hf
                            refine x_put (pc := 164) hI C0 hK hw (by decide) ly_m0 rfl inX7 tyX7_ok nmX7 11 (by decide) wf_X7_184 rfl rfl rfl hu rfl rfl dX7_finds_164 (fun H locs hw => ?_)
                            refine lv_aload_n (pc := 167) C0.1 C0.2.1 dX7_finds_167 rfl (lv_at hl 5 rfl) ?_
                            refine lv_iload_n (pc := 168) C0.1 C0.2.1 dX7_finds_168 rfl (lv_at hl 3 rfl) ?_
                            obtain ⟨u19, hu, hf⟩ := nm_f hf
                            refine x_put (pc := 169) hI C0 hK hw (by decide) ly_m0 rfl inX7 tyX7_ok nmX7 12 (by decide) wf_X7_187 rfl rfl rfl hu rfl rfl dX7_finds_169 (fun H locs hw => ?_)
                            refine lv_aload_n (pc := 172) C0.1 C0.2.1 dX7_finds_172 rfl (lv_at hl 5 rfl) ?_
                            refine lv_iload (pc := 173) C0.1 C0.2.1 dX7_finds_173 (lv_at hl 1 rfl) ?_
                            obtain ⟨u20, hu, hf⟩ := nm_f hf
                            refine x_put (pc := 175) hI C0 hK hw (by decide) ly_m0 rfl inX7 tyX7_ok nmX7 13 (by decide) wf_X7_190 rfl rfl rfl hu rfl rfl dX7_finds_175 (fun H locs hw => ?_)
                            refine lv_iinc (pc := 178) (v := a3.1 + 1) (lv' := [(5, .int (a3.1 + 1)), (6, .int ((q10.2.1 0 3) + q11)), (4, .int a2.1), (3, .int a1.1), (2, .int 2), (0, .ref (ad 0)), (1, .int v1)]) C0.1 C0.2.1 dX7_finds_178 hl (k := 1) rfl rfl (by decide) rfl (fun ls hl => ?_)
                            refine lv_goto (tgt := 65) (pc := 181) C0.1 C0.2.1 dX7_finds_181 (by decide) ?_
                            exact hG _ (Option.some.inj hf).symm H locs ls hw (lv_sub hl [0, 2, 3, 4, 5, 6] rfl)
                    · have hf := if_t hf hc
                      refine lv_iconst (v := 1) (pc := 104) C0.1 C0.2.1 dX7_finds_104 (by decide) ?_
                      refine lv_goto (tgt := 109) (pc := 105) C0.1 C0.2.1 dX7_finds_105 (by decide) ?_
                      obtain ⟨q21, hq21, hf⟩ := bd_e hf
                      refine x_back (pc := 109) hw (x_runV (pc := 109) (As := [.int v1, .int a2.1, .int a1.1, .int 1]) (rest := []) C0 hK hw hl.1 ⟨Nat.zero_le _, Nat.zero_le _⟩ (kX7_can l D y ad hI v1 a2.1 a1.1 1 a3.2 hq21) (by decide) ly_m0 rfl rfl wc_X7_can wm_X7_101 wi_X7_can ws_X7_can wn_X7 ⟨rfl, rfl⟩ hd_X7_can rfl ⟨Nat.le_of_ble_eq_true rfl, Nat.le_of_ble_eq_true rfl⟩ (Nat.le_of_ble_eq_true rfl) dX7_finds_109) (fun H locs hw => ?_)
                      refine lv_if_eq (tgt := 178) (pc := 112) C0.1 C0.2.1 dX7_finds_112 (by decide) (fun hc => ?_) (fun hc => ?_)
                      · have hf := if_t hf hc
                        refine lv_iinc (pc := 178) (v := a3.1 + 1) (lv' := [(5, .int (a3.1 + 1)), (4, .int a2.1), (3, .int a1.1), (2, .int 2), (0, .ref (ad 0)), (1, .int v1)]) C0.1 C0.2.1 dX7_finds_178 hl (k := 0) rfl rfl (by decide) rfl (fun ls hl => ?_)
                        refine lv_goto (tgt := 65) (pc := 181) C0.1 C0.2.1 dX7_finds_181 (by decide) ?_
                        exact hG _ (Option.some.inj hf).symm H locs ls hw (lv_sub hl [0, 1, 2, 3, 4, 5] rfl)
                      · have hf := if_f hf hc
                        refine lv_aload_n (pc := 115) C0.1 C0.2.1 dX7_finds_115 rfl (lv_at hl 4 rfl) ?_
                        refine x_get (pc := 116) (v := .int (q21.2.1 0 3)) C0 hK hw (by decide) ly_m0 rfl inX7 3 (by decide) wf_X7_81 rfl rfl dX7_finds_116 ?_
                        refine lv_aload_n (pc := 119) C0.1 C0.2.1 dX7_finds_119 rfl (lv_at hl 4 rfl) ?_
                        refine lv_iload_n (pc := 120) C0.1 C0.2.1 dX7_finds_120 rfl (lv_at hl 5 rfl) ?_
                        obtain ⟨q22, hq22, hf⟩ := bd_e hf
                        refine x_backp (pc := 121) hw (x_runV (pc := 121) (As := [.int v1]) (rest := [.int (q21.2.1 0 3)]) C0 hK hw hl.1 ⟨Nat.zero_le _, Nat.zero_le _⟩ (kX7_high l D y ad hI v1 q21.2 hq22) (by decide) ly_m0 rfl rfl wc_X7_high wm_X7_51 wi_X7_high ws_X7_high wn_X7 ⟨rfl, rfl⟩ hd_X7_high rfl ⟨Nat.le_of_ble_eq_true rfl, Nat.le_of_ble_eq_true rfl⟩ (Nat.le_of_ble_eq_true rfl) dX7_finds_121) (fun H locs hw => ?_)
                        refine lv_iadd (pc := 124) C0.1 C0.2.1 dX7_finds_124 ?_
                        refine lv_istore (pc := 125) (lv' := [(6, .int ((q21.2.1 0 3) + q22)), (5, .int a3.1), (4, .int a2.1), (3, .int a1.1), (2, .int 2), (0, .ref (ad 0)), (1, .int v1)]) C0.1 C0.2.1 dX7_finds_125 hl (by decide) rfl (fun ls hl => ?_)
                        refine lv_aload_n (pc := 127) C0.1 C0.2.1 dX7_finds_127 rfl (lv_at hl 5 rfl) ?_
                        refine lv_dup (pc := 128) C0.1 C0.2.1 dX7_finds_128 rfl ?_
                        refine x_get (pc := 129) (v := .int (q21.2.1 0 15)) C0 hK hw (by decide) ly_m0 rfl inX7 15 (by decide) wf_X7_178 rfl rfl dX7_finds_129 ?_
                        refine lv_iconst (v := 1) (pc := 132) C0.1 C0.2.1 dX7_finds_132 (by decide) ?_
                        refine lv_iadd (pc := 133) C0.1 C0.2.1 dX7_finds_133 ?_
                        obtain ⟨u23, hu, hf⟩ := nm_f hf
                        refine x_put (pc := 134) hI C0 hK hw (by decide) ly_m0 rfl inX7 tyX7_ok nmX7 15 (by decide) wf_X7_178 rfl rfl rfl hu rfl rfl dX7_finds_134 (fun H locs hw => ?_)
                        refine lv_aload_n (pc := 137) C0.1 C0.2.1 dX7_finds_137 rfl (lv_at hl 5 rfl) ?_
                        refine x_get (pc := 138) (v := .int (u23.1 0 14)) C0 hK hw (by decide) ly_m0 rfl inX7 14 (by decide) wf_X7_181 rfl rfl dX7_finds_138 ?_
                        refine lv_bipush (v := (-9)) (pc := 141) C0.1 C0.2.1 dX7_finds_141 (by decide) ?_
                        refine lv_icmp_eq (tgt := 155) (pc := 143) C0.1 C0.2.1 dX7_finds_143 (by decide) (fun hc => ?_) (fun hc => ?_)
                        · have hf := if_t hf hc
                          refine lv_aload_n (pc := 155) C0.1 C0.2.1 dX7_finds_155 rfl (lv_at hl 5 rfl) ?_
                          refine lv_iload (pc := 156) C0.1 C0.2.1 dX7_finds_156 (lv_at hl 0 rfl) ?_
                          obtain ⟨u24, hu, hf⟩ := nm_f hf
                          refine x_put (pc := 158) hI C0 hK hw (by decide) ly_m0 rfl inX7 tyX7_ok nmX7 14 (by decide) wf_X7_181 rfl rfl rfl hu rfl rfl dX7_finds_158 (fun H locs hw => ?_)
                          refine lv_aload_n (pc := 161) C0.1 C0.2.1 dX7_finds_161 rfl (lv_at hl 5 rfl) ?_
                          refine lv_iload (pc := 162) C0.1 C0.2.1 dX7_finds_162 (lv_at hl 2 rfl) ?_
                          obtain ⟨u25, hu, hf⟩ := nm_f hf
                          refine x_put (pc := 164) hI C0 hK hw (by decide) ly_m0 rfl inX7 tyX7_ok nmX7 11 (by decide) wf_X7_184 rfl rfl rfl hu rfl rfl dX7_finds_164 (fun H locs hw => ?_)
                          refine lv_aload_n (pc := 167) C0.1 C0.2.1 dX7_finds_167 rfl (lv_at hl 5 rfl) ?_
                          refine lv_iload_n (pc := 168) C0.1 C0.2.1 dX7_finds_168 rfl (lv_at hl 3 rfl) ?_
                          obtain ⟨u26, hu, hf⟩ := nm_f hf
                          refine x_put (pc := 169) hI C0 hK hw (by decide) ly_m0 rfl inX7 tyX7_ok nmX7 12 (by decide) wf_X7_187 rfl rfl rfl hu rfl rfl dX7_finds_169 (fun H locs hw => ?_)
                          refine lv_aload_n (pc := 172) C0.1 C0.2.1 dX7_finds_172 rfl (lv_at hl 5 rfl) ?_
                          refine lv_iload (pc := 173) C0.1 C0.2.1 dX7_finds_173 (lv_at hl 1 rfl) ?_
                          obtain ⟨u27, hu, hf⟩ := nm_f hf
                          refine x_put (pc := 175) hI C0 hK hw (by decide) ly_m0 rfl inX7 tyX7_ok nmX7 13 (by decide) wf_X7_190 rfl rfl rfl hu rfl rfl dX7_finds_175 (fun H locs hw => ?_)
                          refine lv_iinc (pc := 178) (v := a3.1 + 1) (lv' := [(5, .int (a3.1 + 1)), (6, .int ((q21.2.1 0 3) + q22)), (4, .int a2.1), (3, .int a1.1), (2, .int 2), (0, .ref (ad 0)), (1, .int v1)]) C0.1 C0.2.1 dX7_finds_178 hl (k := 1) rfl rfl (by decide) rfl (fun ls hl => ?_)
                          refine lv_goto (tgt := 65) (pc := 181) C0.1 C0.2.1 dX7_finds_181 (by decide) ?_
                          exact hG _ (Option.some.inj hf).symm H locs ls hw (lv_sub hl [0, 2, 3, 4, 5, 6] rfl)
                        · have hf := if_f hf hc
                          refine lv_iload (pc := 146) C0.1 C0.2.1 dX7_finds_146 (lv_at hl 0 rfl) ?_
                          refine lv_aload_n (pc := 148) C0.1 C0.2.1 dX7_finds_148 rfl (lv_at hl 5 rfl) ?_
                          refine x_get (pc := 149) (v := .int (u23.1 0 14)) C0 hK hw (by decide) ly_m0 rfl inX7 14 (by decide) wf_X7_181 rfl rfl dX7_finds_149 ?_
                          refine lv_icmp_ge (tgt := 178) (pc := 152) C0.1 C0.2.1 dX7_finds_152 (by decide) (fun hc => ?_) (fun hc => ?_)
                          · have hf := if_t hf hc
                            refine lv_iinc (pc := 178) (v := a3.1 + 1) (lv' := [(5, .int (a3.1 + 1)), (6, .int ((q21.2.1 0 3) + q22)), (4, .int a2.1), (3, .int a1.1), (2, .int 2), (0, .ref (ad 0)), (1, .int v1)]) C0.1 C0.2.1 dX7_finds_178 hl (k := 1) rfl rfl (by decide) rfl (fun ls hl => ?_)
                            refine lv_goto (tgt := 65) (pc := 181) C0.1 C0.2.1 dX7_finds_181 (by decide) ?_
                            exact hG _ (Option.some.inj hf).symm H locs ls hw (lv_sub hl [0, 2, 3, 4, 5, 6] rfl)
                          · have hf := if_f hf hc
                            refine lv_aload_n (pc := 155) C0.1 C0.2.1 dX7_finds_155 rfl (lv_at hl 5 rfl) ?_
                            refine lv_iload (pc := 156) C0.1 C0.2.1 dX7_finds_156 (lv_at hl 0 rfl) ?_
                            obtain ⟨u28, hu, hf⟩ := nm_f hf
                            refine x_put (pc := 158) hI C0 hK hw (by decide) ly_m0 rfl inX7 tyX7_ok nmX7 14 (by decide) wf_X7_181 rfl rfl rfl hu rfl rfl dX7_finds_158 (fun H locs hw => ?_)
                            refine lv_aload_n (pc := 161) C0.1 C0.2.1 dX7_finds_161 rfl (lv_at hl 5 rfl) ?_
                            refine lv_iload (pc := 162) C0.1 C0.2.1 dX7_finds_162 (lv_at hl 2 rfl) ?_
                            obtain ⟨u29, hu, hf⟩ := nm_f hf
                            refine x_put (pc := 164) hI C0 hK hw (by decide) ly_m0 rfl inX7 tyX7_ok nmX7 11 (by decide) wf_X7_184 rfl rfl rfl hu rfl rfl dX7_finds_164 (fun H locs hw => ?_)
                            refine lv_aload_n (pc := 167) C0.1 C0.2.1 dX7_finds_167 rfl (lv_at hl 5 rfl) ?_
                            refine lv_iload_n (pc := 168) C0.1 C0.2.1 dX7_finds_168 rfl (lv_at hl 3 rfl) ?_
                            obtain ⟨u30, hu, hf⟩ := nm_f hf
                            refine x_put (pc := 169) hI C0 hK hw (by decide) ly_m0 rfl inX7 tyX7_ok nmX7 12 (by decide) wf_X7_187 rfl rfl rfl hu rfl rfl dX7_finds_169 (fun H locs hw => ?_)
                            refine lv_aload_n (pc := 172) C0.1 C0.2.1 dX7_finds_172 rfl (lv_at hl 5 rfl) ?_
                            refine lv_iload (pc := 173) C0.1 C0.2.1 dX7_finds_173 (lv_at hl 1 rfl) ?_
                            obtain ⟨u31, hu, hf⟩ := nm_f hf
                            refine x_put (pc := 175) hI C0 hK hw (by decide) ly_m0 rfl inX7 tyX7_ok nmX7 13 (by decide) wf_X7_190 rfl rfl rfl hu rfl rfl dX7_finds_175 (fun H locs hw => ?_)
                            refine lv_iinc (pc := 178) (v := a3.1 + 1) (lv' := [(5, .int (a3.1 + 1)), (6, .int ((q21.2.1 0 3) + q22)), (4, .int a2.1), (3, .int a1.1), (2, .int 2), (0, .ref (ad 0)), (1, .int v1)]) C0.1 C0.2.1 dX7_finds_178 hl (k := 1) rfl rfl (by decide) rfl (fun ls hl => ?_)
                            refine lv_goto (tgt := 65) (pc := 181) C0.1 C0.2.1 dX7_finds_181 (by decide) ?_
                            exact hG _ (Option.some.inj hf).symm H locs ls hw (lv_sub hl [0, 2, 3, 4, 5, 6] rfl)
                · have hf := if_t hf hc
                  refine lv_iconst (v := 1) (pc := 82) C0.1 C0.2.1 dX7_finds_82 (by decide) ?_
                  refine lv_goto (tgt := 87) (pc := 83) C0.1 C0.2.1 dX7_finds_83 (by decide) ?_
                  obtain ⟨q32, hq32, hf⟩ := bd_e hf
                  refine x_backp (pc := 87) hw (x_runV (pc := 87) (As := [.int v1, .int a2.1, .int a1.1, .int 1]) (rest := []) C0 hK hw hl.1 ⟨Nat.zero_le _, Nat.zero_le _⟩ (kX7_isInside l D y ad hI v1 a2.1 a1.1 1 a3.2 hq32) (by decide) ly_m0 rfl rfl wc_X7_isInside wm_X7_97 wi_X7_isInside ws_X7_isInside wn_X7 ⟨rfl, rfl⟩ hd_X7_isInside rfl ⟨Nat.le_of_ble_eq_true rfl, Nat.le_of_ble_eq_true rfl⟩ (Nat.le_of_ble_eq_true rfl) dX7_finds_87) (fun H locs hw => ?_)
                  refine lv_if_eq (tgt := 178) (pc := 90) C0.1 C0.2.1 dX7_finds_90 (by decide) (fun hc => ?_) (fun hc => ?_)
                  · have hf := if_t hf hc
                    refine lv_iinc (pc := 178) (v := a3.1 + 1) (lv' := [(5, .int (a3.1 + 1)), (4, .int a2.1), (3, .int a1.1), (2, .int 2), (0, .ref (ad 0)), (1, .int v1)]) C0.1 C0.2.1 dX7_finds_178 hl (k := 0) rfl rfl (by decide) rfl (fun ls hl => ?_)
                    refine lv_goto (tgt := 65) (pc := 181) C0.1 C0.2.1 dX7_finds_181 (by decide) ?_
                    exact hG _ (Option.some.inj hf).symm H locs ls hw (lv_sub hl [0, 1, 2, 3, 4, 5] rfl)
                  · have hf := if_f hf hc
                    refine lv_aload_n (pc := 93) C0.1 C0.2.1 dX7_finds_93 rfl (lv_at hl 4 rfl) ?_
                    refine lv_iload_n (pc := 94) C0.1 C0.2.1 dX7_finds_94 rfl (lv_at hl 5 rfl) ?_
                    refine lv_iload (pc := 95) C0.1 C0.2.1 dX7_finds_95 (lv_at hl 1 rfl) ?_
                    refine lv_iload_n (pc := 97) C0.1 C0.2.1 dX7_finds_97 rfl (lv_at hl 2 rfl) ?_
                    refine lv_iload (pc := 98) C0.1 C0.2.1 dX7_finds_98 (lv_at hl 0 rfl) ?_
                    refine lv_iconst (v := 1) (pc := 100) C0.1 C0.2.1 dX7_finds_100 (by decide) ?_
                    refine lv_icmp_ne (tgt := 108) (pc := 101) C0.1 C0.2.1 dX7_finds_101 (by decide) (fun hc => ?_) (fun hc => ?_)
                    · have hf := if_f hf hc
                      refine lv_iconst (v := 0) (pc := 108) C0.1 C0.2.1 dX7_finds_108 (by decide) ?_
                      obtain ⟨q33, hq33, hf⟩ := bd_e hf
                      refine x_back (pc := 109) hw (x_runV (pc := 109) (As := [.int v1, .int a2.1, .int a1.1, .int 0]) (rest := []) C0 hK hw hl.1 ⟨Nat.zero_le _, Nat.zero_le _⟩ (kX7_can l D y ad hI v1 a2.1 a1.1 0 a3.2 hq33) (by decide) ly_m0 rfl rfl wc_X7_can wm_X7_101 wi_X7_can ws_X7_can wn_X7 ⟨rfl, rfl⟩ hd_X7_can rfl ⟨Nat.le_of_ble_eq_true rfl, Nat.le_of_ble_eq_true rfl⟩ (Nat.le_of_ble_eq_true rfl) dX7_finds_109) (fun H locs hw => ?_)
                      refine lv_if_eq (tgt := 178) (pc := 112) C0.1 C0.2.1 dX7_finds_112 (by decide) (fun hc => ?_) (fun hc => ?_)
                      · have hf := if_t hf hc
                        refine lv_iinc (pc := 178) (v := a3.1 + 1) (lv' := [(5, .int (a3.1 + 1)), (4, .int a2.1), (3, .int a1.1), (2, .int 2), (0, .ref (ad 0)), (1, .int v1)]) C0.1 C0.2.1 dX7_finds_178 hl (k := 0) rfl rfl (by decide) rfl (fun ls hl => ?_)
                        refine lv_goto (tgt := 65) (pc := 181) C0.1 C0.2.1 dX7_finds_181 (by decide) ?_
                        exact hG _ (Option.some.inj hf).symm H locs ls hw (lv_sub hl [0, 1, 2, 3, 4, 5] rfl)
                      · have hf := if_f hf hc
                        refine lv_aload_n (pc := 115) C0.1 C0.2.1 dX7_finds_115 rfl (lv_at hl 4 rfl) ?_
                        refine x_get (pc := 116) (v := .int (q33.2.1 0 3)) C0 hK hw (by decide) ly_m0 rfl inX7 3 (by decide) wf_X7_81 rfl rfl dX7_finds_116 ?_
                        refine lv_aload_n (pc := 119) C0.1 C0.2.1 dX7_finds_119 rfl (lv_at hl 4 rfl) ?_
                        refine lv_iload_n (pc := 120) C0.1 C0.2.1 dX7_finds_120 rfl (lv_at hl 5 rfl) ?_
                        obtain ⟨q34, hq34, hf⟩ := bd_e hf
                        refine x_backp (pc := 121) hw (x_runV (pc := 121) (As := [.int v1]) (rest := [.int (q33.2.1 0 3)]) C0 hK hw hl.1 ⟨Nat.zero_le _, Nat.zero_le _⟩ (kX7_high l D y ad hI v1 q33.2 hq34) (by decide) ly_m0 rfl rfl wc_X7_high wm_X7_51 wi_X7_high ws_X7_high wn_X7 ⟨rfl, rfl⟩ hd_X7_high rfl ⟨Nat.le_of_ble_eq_true rfl, Nat.le_of_ble_eq_true rfl⟩ (Nat.le_of_ble_eq_true rfl) dX7_finds_121) (fun H locs hw => ?_)
                        refine lv_iadd (pc := 124) C0.1 C0.2.1 dX7_finds_124 ?_
                        refine lv_istore (pc := 125) (lv' := [(6, .int ((q33.2.1 0 3) + q34)), (5, .int a3.1), (4, .int a2.1), (3, .int a1.1), (2, .int 2), (0, .ref (ad 0)), (1, .int v1)]) C0.1 C0.2.1 dX7_finds_125 hl (by decide) rfl (fun ls hl => ?_)
                        refine lv_aload_n (pc := 127) C0.1 C0.2.1 dX7_finds_127 rfl (lv_at hl 5 rfl) ?_
                        refine lv_dup (pc := 128) C0.1 C0.2.1 dX7_finds_128 rfl ?_
                        refine x_get (pc := 129) (v := .int (q33.2.1 0 15)) C0 hK hw (by decide) ly_m0 rfl inX7 15 (by decide) wf_X7_178 rfl rfl dX7_finds_129 ?_
                        refine lv_iconst (v := 1) (pc := 132) C0.1 C0.2.1 dX7_finds_132 (by decide) ?_
                        refine lv_iadd (pc := 133) C0.1 C0.2.1 dX7_finds_133 ?_
                        obtain ⟨u35, hu, hf⟩ := nm_f hf
                        refine x_put (pc := 134) hI C0 hK hw (by decide) ly_m0 rfl inX7 tyX7_ok nmX7 15 (by decide) wf_X7_178 rfl rfl rfl hu rfl rfl dX7_finds_134 (fun H locs hw => ?_)
                        refine lv_aload_n (pc := 137) C0.1 C0.2.1 dX7_finds_137 rfl (lv_at hl 5 rfl) ?_
                        refine x_get (pc := 138) (v := .int (u35.1 0 14)) C0 hK hw (by decide) ly_m0 rfl inX7 14 (by decide) wf_X7_181 rfl rfl dX7_finds_138 ?_
                        refine lv_bipush (v := (-9)) (pc := 141) C0.1 C0.2.1 dX7_finds_141 (by decide) ?_
                        refine lv_icmp_eq (tgt := 155) (pc := 143) C0.1 C0.2.1 dX7_finds_143 (by decide) (fun hc => ?_) (fun hc => ?_)
                        · have hf := if_t hf hc
                          refine lv_aload_n (pc := 155) C0.1 C0.2.1 dX7_finds_155 rfl (lv_at hl 5 rfl) ?_
                          refine lv_iload (pc := 156) C0.1 C0.2.1 dX7_finds_156 (lv_at hl 0 rfl) ?_
                          obtain ⟨u36, hu, hf⟩ := nm_f hf
                          refine x_put (pc := 158) hI C0 hK hw (by decide) ly_m0 rfl inX7 tyX7_ok nmX7 14 (by decide) wf_X7_181 rfl rfl rfl hu rfl rfl dX7_finds_158 (fun H locs hw => ?_)
                          refine lv_aload_n (pc := 161) C0.1 C0.2.1 dX7_finds_161 rfl (lv_at hl 5 rfl) ?_
                          refine lv_iload (pc := 162) C0.1 C0.2.1 dX7_finds_162 (lv_at hl 2 rfl) ?_
                          obtain ⟨u37, hu, hf⟩ := nm_f hf
                          refine x_put (pc := 164) hI C0 hK hw (by decide) ly_m0 rfl inX7 tyX7_ok nmX7 11 (by decide) wf_X7_184 rfl rfl rfl hu rfl rfl dX7_finds_164 (fun H locs hw => ?_)
                          refine lv_aload_n (pc := 167) C0.1 C0.2.1 dX7_finds_167 rfl (lv_at hl 5 rfl) ?_
                          refine lv_iload_n (pc := 168) C0.1 C0.2.1 dX7_finds_168 rfl (lv_at hl 3 rfl) ?_
                          obtain ⟨u38, hu, hf⟩ := nm_f hf
                          refine x_put (pc := 169) hI C0 hK hw (by decide) ly_m0 rfl inX7 tyX7_ok nmX7 12 (by decide) wf_X7_187 rfl rfl rfl hu rfl rfl dX7_finds_169 (fun H locs hw => ?_)
                          refine lv_aload_n (pc := 172) C0.1 C0.2.1 dX7_finds_172 rfl (lv_at hl 5 rfl) ?_
                          refine lv_iload (pc := 173) C0.1 C0.2.1 dX7_finds_173 (lv_at hl 1 rfl) ?_
                          obtain ⟨u39, hu, hf⟩ := nm_f hf
                          refine x_put (pc := 175) hI C0 hK hw (by decide) ly_m0 rfl inX7 tyX7_ok nmX7 13 (by decide) wf_X7_190 rfl rfl rfl hu rfl rfl dX7_finds_175 (fun H locs hw => ?_)
                          refine lv_iinc (pc := 178) (v := a3.1 + 1) (lv' := [(5, .int (a3.1 + 1)), (6, .int ((q33.2.1 0 3) + q34)), (4, .int a2.1), (3, .int a1.1), (2, .int 2), (0, .ref (ad 0)), (1, .int v1)]) C0.1 C0.2.1 dX7_finds_178 hl (k := 1) rfl rfl (by decide) rfl (fun ls hl => ?_)
                          refine lv_goto (tgt := 65) (pc := 181) C0.1 C0.2.1 dX7_finds_181 (by decide) ?_
                          exact hG _ (Option.some.inj hf).symm H locs ls hw (lv_sub hl [0, 2, 3, 4, 5, 6] rfl)
                        · have hf := if_f hf hc
                          refine lv_iload (pc := 146) C0.1 C0.2.1 dX7_finds_146 (lv_at hl 0 rfl) ?_
                          refine lv_aload_n (pc := 148) C0.1 C0.2.1 dX7_finds_148 rfl (lv_at hl 5 rfl) ?_
                          refine x_get (pc := 149) (v := .int (u35.1 0 14)) C0 hK hw (by decide) ly_m0 rfl inX7 14 (by decide) wf_X7_181 rfl rfl dX7_finds_149 ?_
                          refine lv_icmp_ge (tgt := 178) (pc := 152) C0.1 C0.2.1 dX7_finds_152 (by decide) (fun hc => ?_) (fun hc => ?_)
                          · have hf := if_t hf hc
                            refine lv_iinc (pc := 178) (v := a3.1 + 1) (lv' := [(5, .int (a3.1 + 1)), (6, .int ((q33.2.1 0 3) + q34)), (4, .int a2.1), (3, .int a1.1), (2, .int 2), (0, .ref (ad 0)), (1, .int v1)]) C0.1 C0.2.1 dX7_finds_178 hl (k := 1) rfl rfl (by decide) rfl (fun ls hl => ?_)
                            refine lv_goto (tgt := 65) (pc := 181) C0.1 C0.2.1 dX7_finds_181 (by decide) ?_
                            exact hG _ (Option.some.inj hf).symm H locs ls hw (lv_sub hl [0, 2, 3, 4, 5, 6] rfl)
                          · have hf := if_f hf hc
                            refine lv_aload_n (pc := 155) C0.1 C0.2.1 dX7_finds_155 rfl (lv_at hl 5 rfl) ?_
                            refine lv_iload (pc := 156) C0.1 C0.2.1 dX7_finds_156 (lv_at hl 0 rfl) ?_
                            obtain ⟨u40, hu, hf⟩ := nm_f hf
                            refine x_put (pc := 158) hI C0 hK hw (by decide) ly_m0 rfl inX7 tyX7_ok nmX7 14 (by decide) wf_X7_181 rfl rfl rfl hu rfl rfl dX7_finds_158 (fun H locs hw => ?_)
                            refine lv_aload_n (pc := 161) C0.1 C0.2.1 dX7_finds_161 rfl (lv_at hl 5 rfl) ?_
                            refine lv_iload (pc := 162) C0.1 C0.2.1 dX7_finds_162 (lv_at hl 2 rfl) ?_
                            obtain ⟨u41, hu, hf⟩ := nm_f hf
                            refine x_put (pc := 164) hI C0 hK hw (by decide) ly_m0 rfl inX7 tyX7_ok nmX7 11 (by decide) wf_X7_184 rfl rfl rfl hu rfl rfl dX7_finds_164 (fun H locs hw => ?_)
                            refine lv_aload_n (pc := 167) C0.1 C0.2.1 dX7_finds_167 rfl (lv_at hl 5 rfl) ?_
                            refine lv_iload_n (pc := 168) C0.1 C0.2.1 dX7_finds_168 rfl (lv_at hl 3 rfl) ?_
                            obtain ⟨u42, hu, hf⟩ := nm_f hf
                            refine x_put (pc := 169) hI C0 hK hw (by decide) ly_m0 rfl inX7 tyX7_ok nmX7 12 (by decide) wf_X7_187 rfl rfl rfl hu rfl rfl dX7_finds_169 (fun H locs hw => ?_)
                            refine lv_aload_n (pc := 172) C0.1 C0.2.1 dX7_finds_172 rfl (lv_at hl 5 rfl) ?_
                            refine lv_iload (pc := 173) C0.1 C0.2.1 dX7_finds_173 (lv_at hl 1 rfl) ?_
                            obtain ⟨u43, hu, hf⟩ := nm_f hf
                            refine x_put (pc := 175) hI C0 hK hw (by decide) ly_m0 rfl inX7 tyX7_ok nmX7 13 (by decide) wf_X7_190 rfl rfl rfl hu rfl rfl dX7_finds_175 (fun H locs hw => ?_)
                            refine lv_iinc (pc := 178) (v := a3.1 + 1) (lv' := [(5, .int (a3.1 + 1)), (6, .int ((q33.2.1 0 3) + q34)), (4, .int a2.1), (3, .int a1.1), (2, .int 2), (0, .ref (ad 0)), (1, .int v1)]) C0.1 C0.2.1 dX7_finds_178 hl (k := 1) rfl rfl (by decide) rfl (fun ls hl => ?_)
                            refine lv_goto (tgt := 65) (pc := 181) C0.1 C0.2.1 dX7_finds_181 (by decide) ?_
                            exact hG _ (Option.some.inj hf).symm H locs ls hw (lv_sub hl [0, 2, 3, 4, 5, 6] rfl)
                    · have hf := if_t hf hc
                      refine lv_iconst (v := 1) (pc := 104) C0.1 C0.2.1 dX7_finds_104 (by decide) ?_
                      refine lv_goto (tgt := 109) (pc := 105) C0.1 C0.2.1 dX7_finds_105 (by decide) ?_
                      obtain ⟨q44, hq44, hf⟩ := bd_e hf
                      refine x_back (pc := 109) hw (x_runV (pc := 109) (As := [.int v1, .int a2.1, .int a1.1, .int 1]) (rest := []) C0 hK hw hl.1 ⟨Nat.zero_le _, Nat.zero_le _⟩ (kX7_can l D y ad hI v1 a2.1 a1.1 1 a3.2 hq44) (by decide) ly_m0 rfl rfl wc_X7_can wm_X7_101 wi_X7_can ws_X7_can wn_X7 ⟨rfl, rfl⟩ hd_X7_can rfl ⟨Nat.le_of_ble_eq_true rfl, Nat.le_of_ble_eq_true rfl⟩ (Nat.le_of_ble_eq_true rfl) dX7_finds_109) (fun H locs hw => ?_)
                      refine lv_if_eq (tgt := 178) (pc := 112) C0.1 C0.2.1 dX7_finds_112 (by decide) (fun hc => ?_) (fun hc => ?_)
                      · have hf := if_t hf hc
                        refine lv_iinc (pc := 178) (v := a3.1 + 1) (lv' := [(5, .int (a3.1 + 1)), (4, .int a2.1), (3, .int a1.1), (2, .int 2), (0, .ref (ad 0)), (1, .int v1)]) C0.1 C0.2.1 dX7_finds_178 hl (k := 0) rfl rfl (by decide) rfl (fun ls hl => ?_)
                        refine lv_goto (tgt := 65) (pc := 181) C0.1 C0.2.1 dX7_finds_181 (by decide) ?_
                        exact hG _ (Option.some.inj hf).symm H locs ls hw (lv_sub hl [0, 1, 2, 3, 4, 5] rfl)
                      · have hf := if_f hf hc
                        refine lv_aload_n (pc := 115) C0.1 C0.2.1 dX7_finds_115 rfl (lv_at hl 4 rfl) ?_
                        refine x_get (pc := 116) (v := .int (q44.2.1 0 3)) C0 hK hw (by decide) ly_m0 rfl inX7 3 (by decide) wf_X7_81 rfl rfl dX7_finds_116 ?_
                        refine lv_aload_n (pc := 119) C0.1 C0.2.1 dX7_finds_119 rfl (lv_at hl 4 rfl) ?_
                        refine lv_iload_n (pc := 120) C0.1 C0.2.1 dX7_finds_120 rfl (lv_at hl 5 rfl) ?_
                        obtain ⟨q45, hq45, hf⟩ := bd_e hf
                        refine x_backp (pc := 121) hw (x_runV (pc := 121) (As := [.int v1]) (rest := [.int (q44.2.1 0 3)]) C0 hK hw hl.1 ⟨Nat.zero_le _, Nat.zero_le _⟩ (kX7_high l D y ad hI v1 q44.2 hq45) (by decide) ly_m0 rfl rfl wc_X7_high wm_X7_51 wi_X7_high ws_X7_high wn_X7 ⟨rfl, rfl⟩ hd_X7_high rfl ⟨Nat.le_of_ble_eq_true rfl, Nat.le_of_ble_eq_true rfl⟩ (Nat.le_of_ble_eq_true rfl) dX7_finds_121) (fun H locs hw => ?_)
                        refine lv_iadd (pc := 124) C0.1 C0.2.1 dX7_finds_124 ?_
                        refine lv_istore (pc := 125) (lv' := [(6, .int ((q44.2.1 0 3) + q45)), (5, .int a3.1), (4, .int a2.1), (3, .int a1.1), (2, .int 2), (0, .ref (ad 0)), (1, .int v1)]) C0.1 C0.2.1 dX7_finds_125 hl (by decide) rfl (fun ls hl => ?_)
                        refine lv_aload_n (pc := 127) C0.1 C0.2.1 dX7_finds_127 rfl (lv_at hl 5 rfl) ?_
                        refine lv_dup (pc := 128) C0.1 C0.2.1 dX7_finds_128 rfl ?_
                        refine x_get (pc := 129) (v := .int (q44.2.1 0 15)) C0 hK hw (by decide) ly_m0 rfl inX7 15 (by decide) wf_X7_178 rfl rfl dX7_finds_129 ?_
                        refine lv_iconst (v := 1) (pc := 132) C0.1 C0.2.1 dX7_finds_132 (by decide) ?_
                        refine lv_iadd (pc := 133) C0.1 C0.2.1 dX7_finds_133 ?_
                        obtain ⟨u46, hu, hf⟩ := nm_f hf
                        refine x_put (pc := 134) hI C0 hK hw (by decide) ly_m0 rfl inX7 tyX7_ok nmX7 15 (by decide) wf_X7_178 rfl rfl rfl hu rfl rfl dX7_finds_134 (fun H locs hw => ?_)
                        refine lv_aload_n (pc := 137) C0.1 C0.2.1 dX7_finds_137 rfl (lv_at hl 5 rfl) ?_
                        refine x_get (pc := 138) (v := .int (u46.1 0 14)) C0 hK hw (by decide) ly_m0 rfl inX7 14 (by decide) wf_X7_181 rfl rfl dX7_finds_138 ?_
                        refine lv_bipush (v := (-9)) (pc := 141) C0.1 C0.2.1 dX7_finds_141 (by decide) ?_
                        refine lv_icmp_eq (tgt := 155) (pc := 143) C0.1 C0.2.1 dX7_finds_143 (by decide) (fun hc => ?_) (fun hc => ?_)
                        · have hf := if_t hf hc
                          refine lv_aload_n (pc := 155) C0.1 C0.2.1 dX7_finds_155 rfl (lv_at hl 5 rfl) ?_
                          refine lv_iload (pc := 156) C0.1 C0.2.1 dX7_finds_156 (lv_at hl 0 rfl) ?_
                          obtain ⟨u47, hu, hf⟩ := nm_f hf
                          refine x_put (pc := 158) hI C0 hK hw (by decide) ly_m0 rfl inX7 tyX7_ok nmX7 14 (by decide) wf_X7_181 rfl rfl rfl hu rfl rfl dX7_finds_158 (fun H locs hw => ?_)
                          refine lv_aload_n (pc := 161) C0.1 C0.2.1 dX7_finds_161 rfl (lv_at hl 5 rfl) ?_
                          refine lv_iload (pc := 162) C0.1 C0.2.1 dX7_finds_162 (lv_at hl 2 rfl) ?_
                          obtain ⟨u48, hu, hf⟩ := nm_f hf
                          refine x_put (pc := 164) hI C0 hK hw (by decide) ly_m0 rfl inX7 tyX7_ok nmX7 11 (by decide) wf_X7_184 rfl rfl rfl hu rfl rfl dX7_finds_164 (fun H locs hw => ?_)
                          refine lv_aload_n (pc := 167) C0.1 C0.2.1 dX7_finds_167 rfl (lv_at hl 5 rfl) ?_
                          refine lv_iload_n (pc := 168) C0.1 C0.2.1 dX7_finds_168 rfl (lv_at hl 3 rfl) ?_
                          obtain ⟨u49, hu, hf⟩ := nm_f hf
                          refine x_put (pc := 169) hI C0 hK hw (by decide) ly_m0 rfl inX7 tyX7_ok nmX7 12 (by decide) wf_X7_187 rfl rfl rfl hu rfl rfl dX7_finds_169 (fun H locs hw => ?_)
                          refine lv_aload_n (pc := 172) C0.1 C0.2.1 dX7_finds_172 rfl (lv_at hl 5 rfl) ?_
                          refine lv_iload (pc := 173) C0.1 C0.2.1 dX7_finds_173 (lv_at hl 1 rfl) ?_
                          obtain ⟨u50, hu, hf⟩ := nm_f hf
                          refine x_put (pc := 175) hI C0 hK hw (by decide) ly_m0 rfl inX7 tyX7_ok nmX7 13 (by decide) wf_X7_190 rfl rfl rfl hu rfl rfl dX7_finds_175 (fun H locs hw => ?_)
                          refine lv_iinc (pc := 178) (v := a3.1 + 1) (lv' := [(5, .int (a3.1 + 1)), (6, .int ((q44.2.1 0 3) + q45)), (4, .int a2.1), (3, .int a1.1), (2, .int 2), (0, .ref (ad 0)), (1, .int v1)]) C0.1 C0.2.1 dX7_finds_178 hl (k := 1) rfl rfl (by decide) rfl (fun ls hl => ?_)
                          refine lv_goto (tgt := 65) (pc := 181) C0.1 C0.2.1 dX7_finds_181 (by decide) ?_
                          exact hG _ (Option.some.inj hf).symm H locs ls hw (lv_sub hl [0, 2, 3, 4, 5, 6] rfl)
                        · have hf := if_f hf hc
                          refine lv_iload (pc := 146) C0.1 C0.2.1 dX7_finds_146 (lv_at hl 0 rfl) ?_
                          refine lv_aload_n (pc := 148) C0.1 C0.2.1 dX7_finds_148 rfl (lv_at hl 5 rfl) ?_
                          refine x_get (pc := 149) (v := .int (u46.1 0 14)) C0 hK hw (by decide) ly_m0 rfl inX7 14 (by decide) wf_X7_181 rfl rfl dX7_finds_149 ?_
                          refine lv_icmp_ge (tgt := 178) (pc := 152) C0.1 C0.2.1 dX7_finds_152 (by decide) (fun hc => ?_) (fun hc => ?_)
                          · have hf := if_t hf hc
                            refine lv_iinc (pc := 178) (v := a3.1 + 1) (lv' := [(5, .int (a3.1 + 1)), (6, .int ((q44.2.1 0 3) + q45)), (4, .int a2.1), (3, .int a1.1), (2, .int 2), (0, .ref (ad 0)), (1, .int v1)]) C0.1 C0.2.1 dX7_finds_178 hl (k := 1) rfl rfl (by decide) rfl (fun ls hl => ?_)
                            refine lv_goto (tgt := 65) (pc := 181) C0.1 C0.2.1 dX7_finds_181 (by decide) ?_
                            exact hG _ (Option.some.inj hf).symm H locs ls hw (lv_sub hl [0, 2, 3, 4, 5, 6] rfl)
                          · have hf := if_f hf hc
                            refine lv_aload_n (pc := 155) C0.1 C0.2.1 dX7_finds_155 rfl (lv_at hl 5 rfl) ?_
                            refine lv_iload (pc := 156) C0.1 C0.2.1 dX7_finds_156 (lv_at hl 0 rfl) ?_
                            obtain ⟨u51, hu, hf⟩ := nm_f hf
                            refine x_put (pc := 158) hI C0 hK hw (by decide) ly_m0 rfl inX7 tyX7_ok nmX7 14 (by decide) wf_X7_181 rfl rfl rfl hu rfl rfl dX7_finds_158 (fun H locs hw => ?_)
                            refine lv_aload_n (pc := 161) C0.1 C0.2.1 dX7_finds_161 rfl (lv_at hl 5 rfl) ?_
                            refine lv_iload (pc := 162) C0.1 C0.2.1 dX7_finds_162 (lv_at hl 2 rfl) ?_
                            obtain ⟨u52, hu, hf⟩ := nm_f hf
                            refine x_put (pc := 164) hI C0 hK hw (by decide) ly_m0 rfl inX7 tyX7_ok nmX7 11 (by decide) wf_X7_184 rfl rfl rfl hu rfl rfl dX7_finds_164 (fun H locs hw => ?_)
                            refine lv_aload_n (pc := 167) C0.1 C0.2.1 dX7_finds_167 rfl (lv_at hl 5 rfl) ?_
                            refine lv_iload_n (pc := 168) C0.1 C0.2.1 dX7_finds_168 rfl (lv_at hl 3 rfl) ?_
                            obtain ⟨u53, hu, hf⟩ := nm_f hf
                            refine x_put (pc := 169) hI C0 hK hw (by decide) ly_m0 rfl inX7 tyX7_ok nmX7 12 (by decide) wf_X7_187 rfl rfl rfl hu rfl rfl dX7_finds_169 (fun H locs hw => ?_)
                            refine lv_aload_n (pc := 172) C0.1 C0.2.1 dX7_finds_172 rfl (lv_at hl 5 rfl) ?_
                            refine lv_iload (pc := 173) C0.1 C0.2.1 dX7_finds_173 (lv_at hl 1 rfl) ?_
                            obtain ⟨u54, hu, hf⟩ := nm_f hf
                            refine x_put (pc := 175) hI C0 hK hw (by decide) ly_m0 rfl inX7 tyX7_ok nmX7 13 (by decide) wf_X7_190 rfl rfl rfl hu rfl rfl dX7_finds_175 (fun H locs hw => ?_)
                            refine lv_iinc (pc := 178) (v := a3.1 + 1) (lv' := [(5, .int (a3.1 + 1)), (6, .int ((q44.2.1 0 3) + q45)), (4, .int a2.1), (3, .int a1.1), (2, .int 2), (0, .ref (ad 0)), (1, .int v1)]) C0.1 C0.2.1 dX7_finds_178 hl (k := 1) rfl rfl (by decide) rfl (fun ls hl => ?_)
                            refine lv_goto (tgt := 65) (pc := 181) C0.1 C0.2.1 dX7_finds_181 (by decide) ?_
                            exact hG _ (Option.some.inj hf).symm H locs ls hw (lv_sub hl [0, 2, 3, 4, 5, 6] rfl)
            · skip
              refine lv_iinc (pc := 184) (v := a2.1 + 1) (lv' := [(4, .int (a2.1 + 1)), (5, .int e8.1), (3, .int a1.1), (2, .int 2), (0, .ref (ad 0)), (1, .int v1)]) C0.1 C0.2.1 dX7_finds_184 hl (k := 1) rfl rfl (by decide) rfl (fun ls hl => ?_)
              refine lv_goto (tgt := 51) (pc := 187) C0.1 C0.2.1 dX7_finds_187 (by decide) ?_
              exact hG _ (Option.some.inj hf).symm H locs ls hw (lv_sub hl [0, 2, 3, 4, 5] rfl)
        · skip
          refine lv_iinc (pc := 190) (v := a1.1 + 1) (lv' := [(3, .int (a1.1 + 1)), (4, .int e7.1), (2, .int 2), (0, .ref (ad 0)), (1, .int v1)]) C0.1 C0.2.1 dX7_finds_190 hl (k := 1) rfl rfl (by decide) rfl (fun ls hl => ?_)
          refine lv_goto (tgt := 38) (pc := 193) C0.1 C0.2.1 dX7_finds_193 (by decide) ?_
          exact hG _ (Option.some.inj hf).symm H locs ls hw (lv_sub hl [0, 2, 3, 4] rfl)
    · skip
      exact x_vret (pc := 196) C0 hK hk hr hw (Option.some.inj hf) dX7_finds_196
  · have hf := if_t hf hc
    refine lv_iconst (v := 1) (pc := 30) C0.1 C0.2.1 dX7_finds_30 (by decide) ?_
    refine lv_goto (tgt := 35) (pc := 31) C0.1 C0.2.1 dX7_finds_31 (by decide) ?_
    refine lv_istore_n (pc := 35) (lv' := [(2, .int 1), (0, .ref (ad 0)), (1, .int v1)]) C0.1 C0.2.1 dX7_finds_35 rfl hl (by decide) rfl (fun ls hl => ?_)
    refine lv_iconst (v := 0) (pc := 36) C0.1 C0.2.1 dX7_finds_36 (by decide) ?_
    refine lv_istore_n (pc := 37) (lv' := [(3, .int 0), (2, .int 1), (0, .ref (ad 0)), (1, .int v1)]) C0.1 C0.2.1 dX7_finds_37 rfl hl (by decide) rfl (fun ls hl => ?_)
    obtain ⟨e55, he55, hf⟩ := bd_e hf
    refine X_loop (pc := 38) (xpc := 196) (fu := fun a1 => a1.2) (fl := fun a1 => [(3, .int a1.1), (2, .int 1), (0, .ref (ad 0)), (1, .int v1)]) (fun a1 r hf hE hG H locs ls hw hl => ?_) he55 (fun H locs ls hw hl => ?_) hw hl
    · unfold gX7_finds_38 at hf
      refine lv_iload_n (pc := 38) C0.1 C0.2.1 dX7_finds_38 rfl (lv_at hl 0 rfl) ?_
      refine lv_aload_n (pc := 39) C0.1 C0.2.1 dX7_finds_39 rfl (lv_at hl 2 rfl) ?_
      refine x_get (pc := 40) (v := .ref (ad 1)) C0 hK hw (by decide) ly_m0 rfl inX7 0 (by decide) wf_X7_7 rfl rfl dX7_finds_40 ?_
      refine lv_iconst (v := 1) (pc := 43) C0.1 C0.2.1 dX7_finds_43 (by decide) ?_
      obtain ⟨hi, hf⟩ := gd_e hf
      refine x_iald (pc := 44) C0 hK hw (by decide) ly_m1 hi dX7_finds_44 ?_
      refine lv_icmp_ge (tgt := 196) (pc := 45) C0.1 C0.2.1 dX7_finds_45 (by decide) (fun hc => ?_) (fun hc => ?_)
      · have hf := if_t hf hc
        exact hE _ (Option.some.inj hf).symm H locs ls hw (lv_sub hl [0, 1, 2, 3] rfl)
      · have hf := if_f hf hc
        refine lv_iconst (v := 0) (pc := 48) C0.1 C0.2.1 dX7_finds_48 (by decide) ?_
        refine lv_istore (pc := 49) (lv' := [(4, .int 0), (3, .int a1.1), (2, .int 1), (0, .ref (ad 0)), (1, .int v1)]) C0.1 C0.2.1 dX7_finds_49 hl (by decide) rfl (fun ls hl => ?_)
        obtain ⟨e56, he56, hf⟩ := bd_e hf
        refine X_loop (pc := 51) (xpc := 190) (fu := fun a2 => a2.2) (fl := fun a2 => [(4, .int a2.1), (3, .int a1.1), (2, .int 1), (0, .ref (ad 0)), (1, .int v1)]) (fun a2 r hf hE hG H locs ls hw hl => ?_) he56 (fun H locs ls hw hl => ?_) hw hl
        · unfold gX7_finds_51 at hf
          refine lv_iload (pc := 51) C0.1 C0.2.1 dX7_finds_51 (lv_at hl 0 rfl) ?_
          refine lv_aload_n (pc := 53) C0.1 C0.2.1 dX7_finds_53 rfl (lv_at hl 3 rfl) ?_
          refine x_get (pc := 54) (v := .ref (ad 1)) C0 hK hw (by decide) ly_m0 rfl inX7 0 (by decide) wf_X7_7 rfl rfl dX7_finds_54 ?_
          refine lv_iconst (v := 0) (pc := 57) C0.1 C0.2.1 dX7_finds_57 (by decide) ?_
          obtain ⟨hi, hf⟩ := gd_e hf
          refine x_iald (pc := 58) C0 hK hw (by decide) ly_m1 hi dX7_finds_58 ?_
          refine lv_icmp_ge (tgt := 190) (pc := 59) C0.1 C0.2.1 dX7_finds_59 (by decide) (fun hc => ?_) (fun hc => ?_)
          · have hf := if_t hf hc
            exact hE _ (Option.some.inj hf).symm H locs ls hw (lv_sub hl [0, 1, 2, 3, 4] rfl)
          · have hf := if_f hf hc
            refine lv_iconst (v := 0) (pc := 62) C0.1 C0.2.1 dX7_finds_62 (by decide) ?_
            refine lv_istore (pc := 63) (lv' := [(5, .int 0), (4, .int a2.1), (3, .int a1.1), (2, .int 1), (0, .ref (ad 0)), (1, .int v1)]) C0.1 C0.2.1 dX7_finds_63 hl (by decide) rfl (fun ls hl => ?_)
            obtain ⟨e57, he57, hf⟩ := bd_e hf
            refine X_loop (pc := 65) (xpc := 184) (fu := fun a3 => a3.2) (fl := fun a3 => [(5, .int a3.1), (4, .int a2.1), (3, .int a1.1), (2, .int 1), (0, .ref (ad 0)), (1, .int v1)]) (fun a3 r hf hE hG H locs ls hw hl => ?_) he57 (fun H locs ls hw hl => ?_) hw hl
            · unfold gX7_finds_65 at hf
              refine lv_iload (pc := 65) C0.1 C0.2.1 dX7_finds_65 (lv_at hl 0 rfl) ?_
              refine lv_iload_n (pc := 67) C0.1 C0.2.1 dX7_finds_67 rfl (lv_at hl 3 rfl) ?_
              refine lv_icmp_ge (tgt := 184) (pc := 68) C0.1 C0.2.1 dX7_finds_68 (by decide) (fun hc => ?_) (fun hc => ?_)
              · have hf := if_t hf hc
                exact hE _ (Option.some.inj hf).symm H locs ls hw (lv_sub hl [0, 1, 2, 3, 4, 5] rfl)
              · have hf := if_f hf hc
                refine lv_aload_n (pc := 71) C0.1 C0.2.1 dX7_finds_71 rfl (lv_at hl 4 rfl) ?_
                refine lv_iload_n (pc := 72) C0.1 C0.2.1 dX7_finds_72 rfl (lv_at hl 5 rfl) ?_
                refine lv_iload (pc := 73) C0.1 C0.2.1 dX7_finds_73 (lv_at hl 1 rfl) ?_
                refine lv_iload_n (pc := 75) C0.1 C0.2.1 dX7_finds_75 rfl (lv_at hl 2 rfl) ?_
                refine lv_iload (pc := 76) C0.1 C0.2.1 dX7_finds_76 (lv_at hl 0 rfl) ?_
                refine lv_iconst (v := 1) (pc := 78) C0.1 C0.2.1 dX7_finds_78 (by decide) ?_
                refine lv_icmp_ne (tgt := 86) (pc := 79) C0.1 C0.2.1 dX7_finds_79 (by decide) (fun hc => ?_) (fun hc => ?_)
                · have hf := if_f hf hc
                  refine lv_iconst (v := 0) (pc := 86) C0.1 C0.2.1 dX7_finds_86 (by decide) ?_
                  obtain ⟨q58, hq58, hf⟩ := bd_e hf
                  refine x_backp (pc := 87) hw (x_runV (pc := 87) (As := [.int v1, .int a2.1, .int a1.1, .int 0]) (rest := []) C0 hK hw hl.1 ⟨Nat.zero_le _, Nat.zero_le _⟩ (kX7_isInside l D y ad hI v1 a2.1 a1.1 0 a3.2 hq58) (by decide) ly_m0 rfl rfl wc_X7_isInside wm_X7_97 wi_X7_isInside ws_X7_isInside wn_X7 ⟨rfl, rfl⟩ hd_X7_isInside rfl ⟨Nat.le_of_ble_eq_true rfl, Nat.le_of_ble_eq_true rfl⟩ (Nat.le_of_ble_eq_true rfl) dX7_finds_87) (fun H locs hw => ?_)
                  refine lv_if_eq (tgt := 178) (pc := 90) C0.1 C0.2.1 dX7_finds_90 (by decide) (fun hc => ?_) (fun hc => ?_)
                  · have hf := if_t hf hc
                    refine lv_iinc (pc := 178) (v := a3.1 + 1) (lv' := [(5, .int (a3.1 + 1)), (4, .int a2.1), (3, .int a1.1), (2, .int 1), (0, .ref (ad 0)), (1, .int v1)]) C0.1 C0.2.1 dX7_finds_178 hl (k := 0) rfl rfl (by decide) rfl (fun ls hl => ?_)
                    refine lv_goto (tgt := 65) (pc := 181) C0.1 C0.2.1 dX7_finds_181 (by decide) ?_
                    exact hG _ (Option.some.inj hf).symm H locs ls hw (lv_sub hl [0, 1, 2, 3, 4, 5] rfl)
                  · have hf := if_f hf hc
                    refine lv_aload_n (pc := 93) C0.1 C0.2.1 dX7_finds_93 rfl (lv_at hl 4 rfl) ?_
                    refine lv_iload_n (pc := 94) C0.1 C0.2.1 dX7_finds_94 rfl (lv_at hl 5 rfl) ?_
                    refine lv_iload (pc := 95) C0.1 C0.2.1 dX7_finds_95 (lv_at hl 1 rfl) ?_
                    refine lv_iload_n (pc := 97) C0.1 C0.2.1 dX7_finds_97 rfl (lv_at hl 2 rfl) ?_
                    refine lv_iload (pc := 98) C0.1 C0.2.1 dX7_finds_98 (lv_at hl 0 rfl) ?_
                    refine lv_iconst (v := 1) (pc := 100) C0.1 C0.2.1 dX7_finds_100 (by decide) ?_
                    refine lv_icmp_ne (tgt := 108) (pc := 101) C0.1 C0.2.1 dX7_finds_101 (by decide) (fun hc => ?_) (fun hc => ?_)
                    · have hf := if_f hf hc
                      refine lv_iconst (v := 0) (pc := 108) C0.1 C0.2.1 dX7_finds_108 (by decide) ?_
                      obtain ⟨q59, hq59, hf⟩ := bd_e hf
                      refine x_back (pc := 109) hw (x_runV (pc := 109) (As := [.int v1, .int a2.1, .int a1.1, .int 0]) (rest := []) C0 hK hw hl.1 ⟨Nat.zero_le _, Nat.zero_le _⟩ (kX7_can l D y ad hI v1 a2.1 a1.1 0 a3.2 hq59) (by decide) ly_m0 rfl rfl wc_X7_can wm_X7_101 wi_X7_can ws_X7_can wn_X7 ⟨rfl, rfl⟩ hd_X7_can rfl ⟨Nat.le_of_ble_eq_true rfl, Nat.le_of_ble_eq_true rfl⟩ (Nat.le_of_ble_eq_true rfl) dX7_finds_109) (fun H locs hw => ?_)
                      refine lv_if_eq (tgt := 178) (pc := 112) C0.1 C0.2.1 dX7_finds_112 (by decide) (fun hc => ?_) (fun hc => ?_)
                      · have hf := if_t hf hc
                        refine lv_iinc (pc := 178) (v := a3.1 + 1) (lv' := [(5, .int (a3.1 + 1)), (4, .int a2.1), (3, .int a1.1), (2, .int 1), (0, .ref (ad 0)), (1, .int v1)]) C0.1 C0.2.1 dX7_finds_178 hl (k := 0) rfl rfl (by decide) rfl (fun ls hl => ?_)
                        refine lv_goto (tgt := 65) (pc := 181) C0.1 C0.2.1 dX7_finds_181 (by decide) ?_
                        exact hG _ (Option.some.inj hf).symm H locs ls hw (lv_sub hl [0, 1, 2, 3, 4, 5] rfl)
                      · have hf := if_f hf hc
                        refine lv_aload_n (pc := 115) C0.1 C0.2.1 dX7_finds_115 rfl (lv_at hl 4 rfl) ?_
                        refine x_get (pc := 116) (v := .int (q59.2.1 0 3)) C0 hK hw (by decide) ly_m0 rfl inX7 3 (by decide) wf_X7_81 rfl rfl dX7_finds_116 ?_
                        refine lv_aload_n (pc := 119) C0.1 C0.2.1 dX7_finds_119 rfl (lv_at hl 4 rfl) ?_
                        refine lv_iload_n (pc := 120) C0.1 C0.2.1 dX7_finds_120 rfl (lv_at hl 5 rfl) ?_
                        obtain ⟨q60, hq60, hf⟩ := bd_e hf
                        refine x_backp (pc := 121) hw (x_runV (pc := 121) (As := [.int v1]) (rest := [.int (q59.2.1 0 3)]) C0 hK hw hl.1 ⟨Nat.zero_le _, Nat.zero_le _⟩ (kX7_high l D y ad hI v1 q59.2 hq60) (by decide) ly_m0 rfl rfl wc_X7_high wm_X7_51 wi_X7_high ws_X7_high wn_X7 ⟨rfl, rfl⟩ hd_X7_high rfl ⟨Nat.le_of_ble_eq_true rfl, Nat.le_of_ble_eq_true rfl⟩ (Nat.le_of_ble_eq_true rfl) dX7_finds_121) (fun H locs hw => ?_)
                        refine lv_iadd (pc := 124) C0.1 C0.2.1 dX7_finds_124 ?_
                        refine lv_istore (pc := 125) (lv' := [(6, .int ((q59.2.1 0 3) + q60)), (5, .int a3.1), (4, .int a2.1), (3, .int a1.1), (2, .int 1), (0, .ref (ad 0)), (1, .int v1)]) C0.1 C0.2.1 dX7_finds_125 hl (by decide) rfl (fun ls hl => ?_)
                        refine lv_aload_n (pc := 127) C0.1 C0.2.1 dX7_finds_127 rfl (lv_at hl 5 rfl) ?_
                        refine lv_dup (pc := 128) C0.1 C0.2.1 dX7_finds_128 rfl ?_
                        refine x_get (pc := 129) (v := .int (q59.2.1 0 15)) C0 hK hw (by decide) ly_m0 rfl inX7 15 (by decide) wf_X7_178 rfl rfl dX7_finds_129 ?_
                        refine lv_iconst (v := 1) (pc := 132) C0.1 C0.2.1 dX7_finds_132 (by decide) ?_
                        refine lv_iadd (pc := 133) C0.1 C0.2.1 dX7_finds_133 ?_
                        obtain ⟨u61, hu, hf⟩ := nm_f hf
                        refine x_put (pc := 134) hI C0 hK hw (by decide) ly_m0 rfl inX7 tyX7_ok nmX7 15 (by decide) wf_X7_178 rfl rfl rfl hu rfl rfl dX7_finds_134 (fun H locs hw => ?_)
                        refine lv_aload_n (pc := 137) C0.1 C0.2.1 dX7_finds_137 rfl (lv_at hl 5 rfl) ?_
                        refine x_get (pc := 138) (v := .int (u61.1 0 14)) C0 hK hw (by decide) ly_m0 rfl inX7 14 (by decide) wf_X7_181 rfl rfl dX7_finds_138 ?_
                        refine lv_bipush (v := (-9)) (pc := 141) C0.1 C0.2.1 dX7_finds_141 (by decide) ?_
                        refine lv_icmp_eq (tgt := 155) (pc := 143) C0.1 C0.2.1 dX7_finds_143 (by decide) (fun hc => ?_) (fun hc => ?_)
                        · have hf := if_t hf hc
                          refine lv_aload_n (pc := 155) C0.1 C0.2.1 dX7_finds_155 rfl (lv_at hl 5 rfl) ?_
                          refine lv_iload (pc := 156) C0.1 C0.2.1 dX7_finds_156 (lv_at hl 0 rfl) ?_
                          obtain ⟨u62, hu, hf⟩ := nm_f hf
                          refine x_put (pc := 158) hI C0 hK hw (by decide) ly_m0 rfl inX7 tyX7_ok nmX7 14 (by decide) wf_X7_181 rfl rfl rfl hu rfl rfl dX7_finds_158 (fun H locs hw => ?_)
                          refine lv_aload_n (pc := 161) C0.1 C0.2.1 dX7_finds_161 rfl (lv_at hl 5 rfl) ?_
                          refine lv_iload (pc := 162) C0.1 C0.2.1 dX7_finds_162 (lv_at hl 2 rfl) ?_
                          obtain ⟨u63, hu, hf⟩ := nm_f hf
                          refine x_put (pc := 164) hI C0 hK hw (by decide) ly_m0 rfl inX7 tyX7_ok nmX7 11 (by decide) wf_X7_184 rfl rfl rfl hu rfl rfl dX7_finds_164 (fun H locs hw => ?_)
                          refine lv_aload_n (pc := 167) C0.1 C0.2.1 dX7_finds_167 rfl (lv_at hl 5 rfl) ?_
                          refine lv_iload_n (pc := 168) C0.1 C0.2.1 dX7_finds_168 rfl (lv_at hl 3 rfl) ?_
                          obtain ⟨u64, hu, hf⟩ := nm_f hf
                          refine x_put (pc := 169) hI C0 hK hw (by decide) ly_m0 rfl inX7 tyX7_ok nmX7 12 (by decide) wf_X7_187 rfl rfl rfl hu rfl rfl dX7_finds_169 (fun H locs hw => ?_)
                          refine lv_aload_n (pc := 172) C0.1 C0.2.1 dX7_finds_172 rfl (lv_at hl 5 rfl) ?_
                          refine lv_iload (pc := 173) C0.1 C0.2.1 dX7_finds_173 (lv_at hl 1 rfl) ?_
                          obtain ⟨u65, hu, hf⟩ := nm_f hf
                          refine x_put (pc := 175) hI C0 hK hw (by decide) ly_m0 rfl inX7 tyX7_ok nmX7 13 (by decide) wf_X7_190 rfl rfl rfl hu rfl rfl dX7_finds_175 (fun H locs hw => ?_)
                          refine lv_iinc (pc := 178) (v := a3.1 + 1) (lv' := [(5, .int (a3.1 + 1)), (6, .int ((q59.2.1 0 3) + q60)), (4, .int a2.1), (3, .int a1.1), (2, .int 1), (0, .ref (ad 0)), (1, .int v1)]) C0.1 C0.2.1 dX7_finds_178 hl (k := 1) rfl rfl (by decide) rfl (fun ls hl => ?_)
                          refine lv_goto (tgt := 65) (pc := 181) C0.1 C0.2.1 dX7_finds_181 (by decide) ?_
                          exact hG _ (Option.some.inj hf).symm H locs ls hw (lv_sub hl [0, 2, 3, 4, 5, 6] rfl)
                        · have hf := if_f hf hc
                          refine lv_iload (pc := 146) C0.1 C0.2.1 dX7_finds_146 (lv_at hl 0 rfl) ?_
                          refine lv_aload_n (pc := 148) C0.1 C0.2.1 dX7_finds_148 rfl (lv_at hl 5 rfl) ?_
                          refine x_get (pc := 149) (v := .int (u61.1 0 14)) C0 hK hw (by decide) ly_m0 rfl inX7 14 (by decide) wf_X7_181 rfl rfl dX7_finds_149 ?_
                          refine lv_icmp_ge (tgt := 178) (pc := 152) C0.1 C0.2.1 dX7_finds_152 (by decide) (fun hc => ?_) (fun hc => ?_)
                          · have hf := if_t hf hc
                            refine lv_iinc (pc := 178) (v := a3.1 + 1) (lv' := [(5, .int (a3.1 + 1)), (6, .int ((q59.2.1 0 3) + q60)), (4, .int a2.1), (3, .int a1.1), (2, .int 1), (0, .ref (ad 0)), (1, .int v1)]) C0.1 C0.2.1 dX7_finds_178 hl (k := 1) rfl rfl (by decide) rfl (fun ls hl => ?_)
                            refine lv_goto (tgt := 65) (pc := 181) C0.1 C0.2.1 dX7_finds_181 (by decide) ?_
                            exact hG _ (Option.some.inj hf).symm H locs ls hw (lv_sub hl [0, 2, 3, 4, 5, 6] rfl)
                          · have hf := if_f hf hc
                            refine lv_aload_n (pc := 155) C0.1 C0.2.1 dX7_finds_155 rfl (lv_at hl 5 rfl) ?_
                            refine lv_iload (pc := 156) C0.1 C0.2.1 dX7_finds_156 (lv_at hl 0 rfl) ?_
                            obtain ⟨u66, hu, hf⟩ := nm_f hf
                            refine x_put (pc := 158) hI C0 hK hw (by decide) ly_m0 rfl inX7 tyX7_ok nmX7 14 (by decide) wf_X7_181 rfl rfl rfl hu rfl rfl dX7_finds_158 (fun H locs hw => ?_)
                            refine lv_aload_n (pc := 161) C0.1 C0.2.1 dX7_finds_161 rfl (lv_at hl 5 rfl) ?_
                            refine lv_iload (pc := 162) C0.1 C0.2.1 dX7_finds_162 (lv_at hl 2 rfl) ?_
                            obtain ⟨u67, hu, hf⟩ := nm_f hf
                            refine x_put (pc := 164) hI C0 hK hw (by decide) ly_m0 rfl inX7 tyX7_ok nmX7 11 (by decide) wf_X7_184 rfl rfl rfl hu rfl rfl dX7_finds_164 (fun H locs hw => ?_)
                            refine lv_aload_n (pc := 167) C0.1 C0.2.1 dX7_finds_167 rfl (lv_at hl 5 rfl) ?_
                            refine lv_iload_n (pc := 168) C0.1 C0.2.1 dX7_finds_168 rfl (lv_at hl 3 rfl) ?_
                            obtain ⟨u68, hu, hf⟩ := nm_f hf
                            refine x_put (pc := 169) hI C0 hK hw (by decide) ly_m0 rfl inX7 tyX7_ok nmX7 12 (by decide) wf_X7_187 rfl rfl rfl hu rfl rfl dX7_finds_169 (fun H locs hw => ?_)
                            refine lv_aload_n (pc := 172) C0.1 C0.2.1 dX7_finds_172 rfl (lv_at hl 5 rfl) ?_
                            refine lv_iload (pc := 173) C0.1 C0.2.1 dX7_finds_173 (lv_at hl 1 rfl) ?_
                            obtain ⟨u69, hu, hf⟩ := nm_f hf
                            refine x_put (pc := 175) hI C0 hK hw (by decide) ly_m0 rfl inX7 tyX7_ok nmX7 13 (by decide) wf_X7_190 rfl rfl rfl hu rfl rfl dX7_finds_175 (fun H locs hw => ?_)
                            refine lv_iinc (pc := 178) (v := a3.1 + 1) (lv' := [(5, .int (a3.1 + 1)), (6, .int ((q59.2.1 0 3) + q60)), (4, .int a2.1), (3, .int a1.1), (2, .int 1), (0, .ref (ad 0)), (1, .int v1)]) C0.1 C0.2.1 dX7_finds_178 hl (k := 1) rfl rfl (by decide) rfl (fun ls hl => ?_)
                            refine lv_goto (tgt := 65) (pc := 181) C0.1 C0.2.1 dX7_finds_181 (by decide) ?_
                            exact hG _ (Option.some.inj hf).symm H locs ls hw (lv_sub hl [0, 2, 3, 4, 5, 6] rfl)
                    · have hf := if_t hf hc
                      refine lv_iconst (v := 1) (pc := 104) C0.1 C0.2.1 dX7_finds_104 (by decide) ?_
                      refine lv_goto (tgt := 109) (pc := 105) C0.1 C0.2.1 dX7_finds_105 (by decide) ?_
                      obtain ⟨q70, hq70, hf⟩ := bd_e hf
                      refine x_back (pc := 109) hw (x_runV (pc := 109) (As := [.int v1, .int a2.1, .int a1.1, .int 1]) (rest := []) C0 hK hw hl.1 ⟨Nat.zero_le _, Nat.zero_le _⟩ (kX7_can l D y ad hI v1 a2.1 a1.1 1 a3.2 hq70) (by decide) ly_m0 rfl rfl wc_X7_can wm_X7_101 wi_X7_can ws_X7_can wn_X7 ⟨rfl, rfl⟩ hd_X7_can rfl ⟨Nat.le_of_ble_eq_true rfl, Nat.le_of_ble_eq_true rfl⟩ (Nat.le_of_ble_eq_true rfl) dX7_finds_109) (fun H locs hw => ?_)
                      refine lv_if_eq (tgt := 178) (pc := 112) C0.1 C0.2.1 dX7_finds_112 (by decide) (fun hc => ?_) (fun hc => ?_)
                      · have hf := if_t hf hc
                        refine lv_iinc (pc := 178) (v := a3.1 + 1) (lv' := [(5, .int (a3.1 + 1)), (4, .int a2.1), (3, .int a1.1), (2, .int 1), (0, .ref (ad 0)), (1, .int v1)]) C0.1 C0.2.1 dX7_finds_178 hl (k := 0) rfl rfl (by decide) rfl (fun ls hl => ?_)
                        refine lv_goto (tgt := 65) (pc := 181) C0.1 C0.2.1 dX7_finds_181 (by decide) ?_
                        exact hG _ (Option.some.inj hf).symm H locs ls hw (lv_sub hl [0, 1, 2, 3, 4, 5] rfl)
                      · have hf := if_f hf hc
                        refine lv_aload_n (pc := 115) C0.1 C0.2.1 dX7_finds_115 rfl (lv_at hl 4 rfl) ?_
                        refine x_get (pc := 116) (v := .int (q70.2.1 0 3)) C0 hK hw (by decide) ly_m0 rfl inX7 3 (by decide) wf_X7_81 rfl rfl dX7_finds_116 ?_
                        refine lv_aload_n (pc := 119) C0.1 C0.2.1 dX7_finds_119 rfl (lv_at hl 4 rfl) ?_
                        refine lv_iload_n (pc := 120) C0.1 C0.2.1 dX7_finds_120 rfl (lv_at hl 5 rfl) ?_
                        obtain ⟨q71, hq71, hf⟩ := bd_e hf
                        refine x_backp (pc := 121) hw (x_runV (pc := 121) (As := [.int v1]) (rest := [.int (q70.2.1 0 3)]) C0 hK hw hl.1 ⟨Nat.zero_le _, Nat.zero_le _⟩ (kX7_high l D y ad hI v1 q70.2 hq71) (by decide) ly_m0 rfl rfl wc_X7_high wm_X7_51 wi_X7_high ws_X7_high wn_X7 ⟨rfl, rfl⟩ hd_X7_high rfl ⟨Nat.le_of_ble_eq_true rfl, Nat.le_of_ble_eq_true rfl⟩ (Nat.le_of_ble_eq_true rfl) dX7_finds_121) (fun H locs hw => ?_)
                        refine lv_iadd (pc := 124) C0.1 C0.2.1 dX7_finds_124 ?_
                        refine lv_istore (pc := 125) (lv' := [(6, .int ((q70.2.1 0 3) + q71)), (5, .int a3.1), (4, .int a2.1), (3, .int a1.1), (2, .int 1), (0, .ref (ad 0)), (1, .int v1)]) C0.1 C0.2.1 dX7_finds_125 hl (by decide) rfl (fun ls hl => ?_)
                        refine lv_aload_n (pc := 127) C0.1 C0.2.1 dX7_finds_127 rfl (lv_at hl 5 rfl) ?_
                        refine lv_dup (pc := 128) C0.1 C0.2.1 dX7_finds_128 rfl ?_
                        refine x_get (pc := 129) (v := .int (q70.2.1 0 15)) C0 hK hw (by decide) ly_m0 rfl inX7 15 (by decide) wf_X7_178 rfl rfl dX7_finds_129 ?_
                        refine lv_iconst (v := 1) (pc := 132) C0.1 C0.2.1 dX7_finds_132 (by decide) ?_
                        refine lv_iadd (pc := 133) C0.1 C0.2.1 dX7_finds_133 ?_
                        obtain ⟨u72, hu, hf⟩ := nm_f hf
                        refine x_put (pc := 134) hI C0 hK hw (by decide) ly_m0 rfl inX7 tyX7_ok nmX7 15 (by decide) wf_X7_178 rfl rfl rfl hu rfl rfl dX7_finds_134 (fun H locs hw => ?_)
                        refine lv_aload_n (pc := 137) C0.1 C0.2.1 dX7_finds_137 rfl (lv_at hl 5 rfl) ?_
                        refine x_get (pc := 138) (v := .int (u72.1 0 14)) C0 hK hw (by decide) ly_m0 rfl inX7 14 (by decide) wf_X7_181 rfl rfl dX7_finds_138 ?_
                        refine lv_bipush (v := (-9)) (pc := 141) C0.1 C0.2.1 dX7_finds_141 (by decide) ?_
                        refine lv_icmp_eq (tgt := 155) (pc := 143) C0.1 C0.2.1 dX7_finds_143 (by decide) (fun hc => ?_) (fun hc => ?_)
                        · have hf := if_t hf hc
                          refine lv_aload_n (pc := 155) C0.1 C0.2.1 dX7_finds_155 rfl (lv_at hl 5 rfl) ?_
                          refine lv_iload (pc := 156) C0.1 C0.2.1 dX7_finds_156 (lv_at hl 0 rfl) ?_
                          obtain ⟨u73, hu, hf⟩ := nm_f hf
                          refine x_put (pc := 158) hI C0 hK hw (by decide) ly_m0 rfl inX7 tyX7_ok nmX7 14 (by decide) wf_X7_181 rfl rfl rfl hu rfl rfl dX7_finds_158 (fun H locs hw => ?_)
                          refine lv_aload_n (pc := 161) C0.1 C0.2.1 dX7_finds_161 rfl (lv_at hl 5 rfl) ?_
                          refine lv_iload (pc := 162) C0.1 C0.2.1 dX7_finds_162 (lv_at hl 2 rfl) ?_
                          obtain ⟨u74, hu, hf⟩ := nm_f hf
                          refine x_put (pc := 164) hI C0 hK hw (by decide) ly_m0 rfl inX7 tyX7_ok nmX7 11 (by decide) wf_X7_184 rfl rfl rfl hu rfl rfl dX7_finds_164 (fun H locs hw => ?_)
                          refine lv_aload_n (pc := 167) C0.1 C0.2.1 dX7_finds_167 rfl (lv_at hl 5 rfl) ?_
                          refine lv_iload_n (pc := 168) C0.1 C0.2.1 dX7_finds_168 rfl (lv_at hl 3 rfl) ?_
                          obtain ⟨u75, hu, hf⟩ := nm_f hf
                          refine x_put (pc := 169) hI C0 hK hw (by decide) ly_m0 rfl inX7 tyX7_ok nmX7 12 (by decide) wf_X7_187 rfl rfl rfl hu rfl rfl dX7_finds_169 (fun H locs hw => ?_)
                          refine lv_aload_n (pc := 172) C0.1 C0.2.1 dX7_finds_172 rfl (lv_at hl 5 rfl) ?_
                          refine lv_iload (pc := 173) C0.1 C0.2.1 dX7_finds_173 (lv_at hl 1 rfl) ?_
                          obtain ⟨u76, hu, hf⟩ := nm_f hf
                          refine x_put (pc := 175) hI C0 hK hw (by decide) ly_m0 rfl inX7 tyX7_ok nmX7 13 (by decide) wf_X7_190 rfl rfl rfl hu rfl rfl dX7_finds_175 (fun H locs hw => ?_)
                          refine lv_iinc (pc := 178) (v := a3.1 + 1) (lv' := [(5, .int (a3.1 + 1)), (6, .int ((q70.2.1 0 3) + q71)), (4, .int a2.1), (3, .int a1.1), (2, .int 1), (0, .ref (ad 0)), (1, .int v1)]) C0.1 C0.2.1 dX7_finds_178 hl (k := 1) rfl rfl (by decide) rfl (fun ls hl => ?_)
                          refine lv_goto (tgt := 65) (pc := 181) C0.1 C0.2.1 dX7_finds_181 (by decide) ?_
                          exact hG _ (Option.some.inj hf).symm H locs ls hw (lv_sub hl [0, 2, 3, 4, 5, 6] rfl)
                        · have hf := if_f hf hc
                          refine lv_iload (pc := 146) C0.1 C0.2.1 dX7_finds_146 (lv_at hl 0 rfl) ?_
                          refine lv_aload_n (pc := 148) C0.1 C0.2.1 dX7_finds_148 rfl (lv_at hl 5 rfl) ?_
                          refine x_get (pc := 149) (v := .int (u72.1 0 14)) C0 hK hw (by decide) ly_m0 rfl inX7 14 (by decide) wf_X7_181 rfl rfl dX7_finds_149 ?_
                          refine lv_icmp_ge (tgt := 178) (pc := 152) C0.1 C0.2.1 dX7_finds_152 (by decide) (fun hc => ?_) (fun hc => ?_)
                          · have hf := if_t hf hc
                            refine lv_iinc (pc := 178) (v := a3.1 + 1) (lv' := [(5, .int (a3.1 + 1)), (6, .int ((q70.2.1 0 3) + q71)), (4, .int a2.1), (3, .int a1.1), (2, .int 1), (0, .ref (ad 0)), (1, .int v1)]) C0.1 C0.2.1 dX7_finds_178 hl (k := 1) rfl rfl (by decide) rfl (fun ls hl => ?_)
                            refine lv_goto (tgt := 65) (pc := 181) C0.1 C0.2.1 dX7_finds_181 (by decide) ?_
                            exact hG _ (Option.some.inj hf).symm H locs ls hw (lv_sub hl [0, 2, 3, 4, 5, 6] rfl)
                          · have hf := if_f hf hc
                            refine lv_aload_n (pc := 155) C0.1 C0.2.1 dX7_finds_155 rfl (lv_at hl 5 rfl) ?_
                            refine lv_iload (pc := 156) C0.1 C0.2.1 dX7_finds_156 (lv_at hl 0 rfl) ?_
                            obtain ⟨u77, hu, hf⟩ := nm_f hf
                            refine x_put (pc := 158) hI C0 hK hw (by decide) ly_m0 rfl inX7 tyX7_ok nmX7 14 (by decide) wf_X7_181 rfl rfl rfl hu rfl rfl dX7_finds_158 (fun H locs hw => ?_)
                            refine lv_aload_n (pc := 161) C0.1 C0.2.1 dX7_finds_161 rfl (lv_at hl 5 rfl) ?_
                            refine lv_iload (pc := 162) C0.1 C0.2.1 dX7_finds_162 (lv_at hl 2 rfl) ?_
                            obtain ⟨u78, hu, hf⟩ := nm_f hf
                            refine x_put (pc := 164) hI C0 hK hw (by decide) ly_m0 rfl inX7 tyX7_ok nmX7 11 (by decide) wf_X7_184 rfl rfl rfl hu rfl rfl dX7_finds_164 (fun H locs hw => ?_)
                            refine lv_aload_n (pc := 167) C0.1 C0.2.1 dX7_finds_167 rfl (lv_at hl 5 rfl) ?_
                            refine lv_iload_n (pc := 168) C0.1 C0.2.1 dX7_finds_168 rfl (lv_at hl 3 rfl) ?_
                            obtain ⟨u79, hu, hf⟩ := nm_f hf
                            refine x_put (pc := 169) hI C0 hK hw (by decide) ly_m0 rfl inX7 tyX7_ok nmX7 12 (by decide) wf_X7_187 rfl rfl rfl hu rfl rfl dX7_finds_169 (fun H locs hw => ?_)
                            refine lv_aload_n (pc := 172) C0.1 C0.2.1 dX7_finds_172 rfl (lv_at hl 5 rfl) ?_
                            refine lv_iload (pc := 173) C0.1 C0.2.1 dX7_finds_173 (lv_at hl 1 rfl) ?_
                            obtain ⟨u80, hu, hf⟩ := nm_f hf
                            refine x_put (pc := 175) hI C0 hK hw (by decide) ly_m0 rfl inX7 tyX7_ok nmX7 13 (by decide) wf_X7_190 rfl rfl rfl hu rfl rfl dX7_finds_175 (fun H locs hw => ?_)
                            refine lv_iinc (pc := 178) (v := a3.1 + 1) (lv' := [(5, .int (a3.1 + 1)), (6, .int ((q70.2.1 0 3) + q71)), (4, .int a2.1), (3, .int a1.1), (2, .int 1), (0, .ref (ad 0)), (1, .int v1)]) C0.1 C0.2.1 dX7_finds_178 hl (k := 1) rfl rfl (by decide) rfl (fun ls hl => ?_)
                            refine lv_goto (tgt := 65) (pc := 181) C0.1 C0.2.1 dX7_finds_181 (by decide) ?_
                            exact hG _ (Option.some.inj hf).symm H locs ls hw (lv_sub hl [0, 2, 3, 4, 5, 6] rfl)
                · have hf := if_t hf hc
                  refine lv_iconst (v := 1) (pc := 82) C0.1 C0.2.1 dX7_finds_82 (by decide) ?_
                  refine lv_goto (tgt := 87) (pc := 83) C0.1 C0.2.1 dX7_finds_83 (by decide) ?_
                  obtain ⟨q81, hq81, hf⟩ := bd_e hf
                  refine x_backp (pc := 87) hw (x_runV (pc := 87) (As := [.int v1, .int a2.1, .int a1.1, .int 1]) (rest := []) C0 hK hw hl.1 ⟨Nat.zero_le _, Nat.zero_le _⟩ (kX7_isInside l D y ad hI v1 a2.1 a1.1 1 a3.2 hq81) (by decide) ly_m0 rfl rfl wc_X7_isInside wm_X7_97 wi_X7_isInside ws_X7_isInside wn_X7 ⟨rfl, rfl⟩ hd_X7_isInside rfl ⟨Nat.le_of_ble_eq_true rfl, Nat.le_of_ble_eq_true rfl⟩ (Nat.le_of_ble_eq_true rfl) dX7_finds_87) (fun H locs hw => ?_)
                  refine lv_if_eq (tgt := 178) (pc := 90) C0.1 C0.2.1 dX7_finds_90 (by decide) (fun hc => ?_) (fun hc => ?_)
                  · have hf := if_t hf hc
                    refine lv_iinc (pc := 178) (v := a3.1 + 1) (lv' := [(5, .int (a3.1 + 1)), (4, .int a2.1), (3, .int a1.1), (2, .int 1), (0, .ref (ad 0)), (1, .int v1)]) C0.1 C0.2.1 dX7_finds_178 hl (k := 0) rfl rfl (by decide) rfl (fun ls hl => ?_)
                    refine lv_goto (tgt := 65) (pc := 181) C0.1 C0.2.1 dX7_finds_181 (by decide) ?_
                    exact hG _ (Option.some.inj hf).symm H locs ls hw (lv_sub hl [0, 1, 2, 3, 4, 5] rfl)
                  · have hf := if_f hf hc
                    refine lv_aload_n (pc := 93) C0.1 C0.2.1 dX7_finds_93 rfl (lv_at hl 4 rfl) ?_
                    refine lv_iload_n (pc := 94) C0.1 C0.2.1 dX7_finds_94 rfl (lv_at hl 5 rfl) ?_
                    refine lv_iload (pc := 95) C0.1 C0.2.1 dX7_finds_95 (lv_at hl 1 rfl) ?_
                    refine lv_iload_n (pc := 97) C0.1 C0.2.1 dX7_finds_97 rfl (lv_at hl 2 rfl) ?_
                    refine lv_iload (pc := 98) C0.1 C0.2.1 dX7_finds_98 (lv_at hl 0 rfl) ?_
                    refine lv_iconst (v := 1) (pc := 100) C0.1 C0.2.1 dX7_finds_100 (by decide) ?_
                    refine lv_icmp_ne (tgt := 108) (pc := 101) C0.1 C0.2.1 dX7_finds_101 (by decide) (fun hc => ?_) (fun hc => ?_)
                    · have hf := if_f hf hc
                      refine lv_iconst (v := 0) (pc := 108) C0.1 C0.2.1 dX7_finds_108 (by decide) ?_
                      obtain ⟨q82, hq82, hf⟩ := bd_e hf
                      refine x_back (pc := 109) hw (x_runV (pc := 109) (As := [.int v1, .int a2.1, .int a1.1, .int 0]) (rest := []) C0 hK hw hl.1 ⟨Nat.zero_le _, Nat.zero_le _⟩ (kX7_can l D y ad hI v1 a2.1 a1.1 0 a3.2 hq82) (by decide) ly_m0 rfl rfl wc_X7_can wm_X7_101 wi_X7_can ws_X7_can wn_X7 ⟨rfl, rfl⟩ hd_X7_can rfl ⟨Nat.le_of_ble_eq_true rfl, Nat.le_of_ble_eq_true rfl⟩ (Nat.le_of_ble_eq_true rfl) dX7_finds_109) (fun H locs hw => ?_)
                      refine lv_if_eq (tgt := 178) (pc := 112) C0.1 C0.2.1 dX7_finds_112 (by decide) (fun hc => ?_) (fun hc => ?_)
                      · have hf := if_t hf hc
                        refine lv_iinc (pc := 178) (v := a3.1 + 1) (lv' := [(5, .int (a3.1 + 1)), (4, .int a2.1), (3, .int a1.1), (2, .int 1), (0, .ref (ad 0)), (1, .int v1)]) C0.1 C0.2.1 dX7_finds_178 hl (k := 0) rfl rfl (by decide) rfl (fun ls hl => ?_)
                        refine lv_goto (tgt := 65) (pc := 181) C0.1 C0.2.1 dX7_finds_181 (by decide) ?_
                        exact hG _ (Option.some.inj hf).symm H locs ls hw (lv_sub hl [0, 1, 2, 3, 4, 5] rfl)
                      · have hf := if_f hf hc
                        refine lv_aload_n (pc := 115) C0.1 C0.2.1 dX7_finds_115 rfl (lv_at hl 4 rfl) ?_
                        refine x_get (pc := 116) (v := .int (q82.2.1 0 3)) C0 hK hw (by decide) ly_m0 rfl inX7 3 (by decide) wf_X7_81 rfl rfl dX7_finds_116 ?_
                        refine lv_aload_n (pc := 119) C0.1 C0.2.1 dX7_finds_119 rfl (lv_at hl 4 rfl) ?_
                        refine lv_iload_n (pc := 120) C0.1 C0.2.1 dX7_finds_120 rfl (lv_at hl 5 rfl) ?_
                        obtain ⟨q83, hq83, hf⟩ := bd_e hf
                        refine x_backp (pc := 121) hw (x_runV (pc := 121) (As := [.int v1]) (rest := [.int (q82.2.1 0 3)]) C0 hK hw hl.1 ⟨Nat.zero_le _, Nat.zero_le _⟩ (kX7_high l D y ad hI v1 q82.2 hq83) (by decide) ly_m0 rfl rfl wc_X7_high wm_X7_51 wi_X7_high ws_X7_high wn_X7 ⟨rfl, rfl⟩ hd_X7_high rfl ⟨Nat.le_of_ble_eq_true rfl, Nat.le_of_ble_eq_true rfl⟩ (Nat.le_of_ble_eq_true rfl) dX7_finds_121) (fun H locs hw => ?_)
                        refine lv_iadd (pc := 124) C0.1 C0.2.1 dX7_finds_124 ?_
                        refine lv_istore (pc := 125) (lv' := [(6, .int ((q82.2.1 0 3) + q83)), (5, .int a3.1), (4, .int a2.1), (3, .int a1.1), (2, .int 1), (0, .ref (ad 0)), (1, .int v1)]) C0.1 C0.2.1 dX7_finds_125 hl (by decide) rfl (fun ls hl => ?_)
                        refine lv_aload_n (pc := 127) C0.1 C0.2.1 dX7_finds_127 rfl (lv_at hl 5 rfl) ?_
                        refine lv_dup (pc := 128) C0.1 C0.2.1 dX7_finds_128 rfl ?_
                        refine x_get (pc := 129) (v := .int (q82.2.1 0 15)) C0 hK hw (by decide) ly_m0 rfl inX7 15 (by decide) wf_X7_178 rfl rfl dX7_finds_129 ?_
                        refine lv_iconst (v := 1) (pc := 132) C0.1 C0.2.1 dX7_finds_132 (by decide) ?_
                        refine lv_iadd (pc := 133) C0.1 C0.2.1 dX7_finds_133 ?_
                        obtain ⟨u84, hu, hf⟩ := nm_f hf
                        refine x_put (pc := 134) hI C0 hK hw (by decide) ly_m0 rfl inX7 tyX7_ok nmX7 15 (by decide) wf_X7_178 rfl rfl rfl hu rfl rfl dX7_finds_134 (fun H locs hw => ?_)
                        refine lv_aload_n (pc := 137) C0.1 C0.2.1 dX7_finds_137 rfl (lv_at hl 5 rfl) ?_
                        refine x_get (pc := 138) (v := .int (u84.1 0 14)) C0 hK hw (by decide) ly_m0 rfl inX7 14 (by decide) wf_X7_181 rfl rfl dX7_finds_138 ?_
                        refine lv_bipush (v := (-9)) (pc := 141) C0.1 C0.2.1 dX7_finds_141 (by decide) ?_
                        refine lv_icmp_eq (tgt := 155) (pc := 143) C0.1 C0.2.1 dX7_finds_143 (by decide) (fun hc => ?_) (fun hc => ?_)
                        · have hf := if_t hf hc
                          refine lv_aload_n (pc := 155) C0.1 C0.2.1 dX7_finds_155 rfl (lv_at hl 5 rfl) ?_
                          refine lv_iload (pc := 156) C0.1 C0.2.1 dX7_finds_156 (lv_at hl 0 rfl) ?_
                          obtain ⟨u85, hu, hf⟩ := nm_f hf
                          refine x_put (pc := 158) hI C0 hK hw (by decide) ly_m0 rfl inX7 tyX7_ok nmX7 14 (by decide) wf_X7_181 rfl rfl rfl hu rfl rfl dX7_finds_158 (fun H locs hw => ?_)
                          refine lv_aload_n (pc := 161) C0.1 C0.2.1 dX7_finds_161 rfl (lv_at hl 5 rfl) ?_
                          refine lv_iload (pc := 162) C0.1 C0.2.1 dX7_finds_162 (lv_at hl 2 rfl) ?_
                          obtain ⟨u86, hu, hf⟩ := nm_f hf
                          refine x_put (pc := 164) hI C0 hK hw (by decide) ly_m0 rfl inX7 tyX7_ok nmX7 11 (by decide) wf_X7_184 rfl rfl rfl hu rfl rfl dX7_finds_164 (fun H locs hw => ?_)
                          refine lv_aload_n (pc := 167) C0.1 C0.2.1 dX7_finds_167 rfl (lv_at hl 5 rfl) ?_
                          refine lv_iload_n (pc := 168) C0.1 C0.2.1 dX7_finds_168 rfl (lv_at hl 3 rfl) ?_
                          obtain ⟨u87, hu, hf⟩ := nm_f hf
                          refine x_put (pc := 169) hI C0 hK hw (by decide) ly_m0 rfl inX7 tyX7_ok nmX7 12 (by decide) wf_X7_187 rfl rfl rfl hu rfl rfl dX7_finds_169 (fun H locs hw => ?_)
                          refine lv_aload_n (pc := 172) C0.1 C0.2.1 dX7_finds_172 rfl (lv_at hl 5 rfl) ?_
                          refine lv_iload (pc := 173) C0.1 C0.2.1 dX7_finds_173 (lv_at hl 1 rfl) ?_
                          obtain ⟨u88, hu, hf⟩ := nm_f hf
                          refine x_put (pc := 175) hI C0 hK hw (by decide) ly_m0 rfl inX7 tyX7_ok nmX7 13 (by decide) wf_X7_190 rfl rfl rfl hu rfl rfl dX7_finds_175 (fun H locs hw => ?_)
                          refine lv_iinc (pc := 178) (v := a3.1 + 1) (lv' := [(5, .int (a3.1 + 1)), (6, .int ((q82.2.1 0 3) + q83)), (4, .int a2.1), (3, .int a1.1), (2, .int 1), (0, .ref (ad 0)), (1, .int v1)]) C0.1 C0.2.1 dX7_finds_178 hl (k := 1) rfl rfl (by decide) rfl (fun ls hl => ?_)
                          refine lv_goto (tgt := 65) (pc := 181) C0.1 C0.2.1 dX7_finds_181 (by decide) ?_
                          exact hG _ (Option.some.inj hf).symm H locs ls hw (lv_sub hl [0, 2, 3, 4, 5, 6] rfl)
                        · have hf := if_f hf hc
                          refine lv_iload (pc := 146) C0.1 C0.2.1 dX7_finds_146 (lv_at hl 0 rfl) ?_
                          refine lv_aload_n (pc := 148) C0.1 C0.2.1 dX7_finds_148 rfl (lv_at hl 5 rfl) ?_
                          refine x_get (pc := 149) (v := .int (u84.1 0 14)) C0 hK hw (by decide) ly_m0 rfl inX7 14 (by decide) wf_X7_181 rfl rfl dX7_finds_149 ?_
                          refine lv_icmp_ge (tgt := 178) (pc := 152) C0.1 C0.2.1 dX7_finds_152 (by decide) (fun hc => ?_) (fun hc => ?_)
                          · have hf := if_t hf hc
                            refine lv_iinc (pc := 178) (v := a3.1 + 1) (lv' := [(5, .int (a3.1 + 1)), (6, .int ((q82.2.1 0 3) + q83)), (4, .int a2.1), (3, .int a1.1), (2, .int 1), (0, .ref (ad 0)), (1, .int v1)]) C0.1 C0.2.1 dX7_finds_178 hl (k := 1) rfl rfl (by decide) rfl (fun ls hl => ?_)
                            refine lv_goto (tgt := 65) (pc := 181) C0.1 C0.2.1 dX7_finds_181 (by decide) ?_
                            exact hG _ (Option.some.inj hf).symm H locs ls hw (lv_sub hl [0, 2, 3, 4, 5, 6] rfl)
                          · have hf := if_f hf hc
                            refine lv_aload_n (pc := 155) C0.1 C0.2.1 dX7_finds_155 rfl (lv_at hl 5 rfl) ?_
                            refine lv_iload (pc := 156) C0.1 C0.2.1 dX7_finds_156 (lv_at hl 0 rfl) ?_
                            obtain ⟨u89, hu, hf⟩ := nm_f hf
                            refine x_put (pc := 158) hI C0 hK hw (by decide) ly_m0 rfl inX7 tyX7_ok nmX7 14 (by decide) wf_X7_181 rfl rfl rfl hu rfl rfl dX7_finds_158 (fun H locs hw => ?_)
                            refine lv_aload_n (pc := 161) C0.1 C0.2.1 dX7_finds_161 rfl (lv_at hl 5 rfl) ?_
                            refine lv_iload (pc := 162) C0.1 C0.2.1 dX7_finds_162 (lv_at hl 2 rfl) ?_
                            obtain ⟨u90, hu, hf⟩ := nm_f hf
                            refine x_put (pc := 164) hI C0 hK hw (by decide) ly_m0 rfl inX7 tyX7_ok nmX7 11 (by decide) wf_X7_184 rfl rfl rfl hu rfl rfl dX7_finds_164 (fun H locs hw => ?_)
                            refine lv_aload_n (pc := 167) C0.1 C0.2.1 dX7_finds_167 rfl (lv_at hl 5 rfl) ?_
                            refine lv_iload_n (pc := 168) C0.1 C0.2.1 dX7_finds_168 rfl (lv_at hl 3 rfl) ?_
                            obtain ⟨u91, hu, hf⟩ := nm_f hf
                            refine x_put (pc := 169) hI C0 hK hw (by decide) ly_m0 rfl inX7 tyX7_ok nmX7 12 (by decide) wf_X7_187 rfl rfl rfl hu rfl rfl dX7_finds_169 (fun H locs hw => ?_)
                            refine lv_aload_n (pc := 172) C0.1 C0.2.1 dX7_finds_172 rfl (lv_at hl 5 rfl) ?_
                            refine lv_iload (pc := 173) C0.1 C0.2.1 dX7_finds_173 (lv_at hl 1 rfl) ?_
                            obtain ⟨u92, hu, hf⟩ := nm_f hf
                            refine x_put (pc := 175) hI C0 hK hw (by decide) ly_m0 rfl inX7 tyX7_ok nmX7 13 (by decide) wf_X7_190 rfl rfl rfl hu rfl rfl dX7_finds_175 (fun H locs hw => ?_)
                            refine lv_iinc (pc := 178) (v := a3.1 + 1) (lv' := [(5, .int (a3.1 + 1)), (6, .int ((q82.2.1 0 3) + q83)), (4, .int a2.1), (3, .int a1.1), (2, .int 1), (0, .ref (ad 0)), (1, .int v1)]) C0.1 C0.2.1 dX7_finds_178 hl (k := 1) rfl rfl (by decide) rfl (fun ls hl => ?_)
                            refine lv_goto (tgt := 65) (pc := 181) C0.1 C0.2.1 dX7_finds_181 (by decide) ?_
                            exact hG _ (Option.some.inj hf).symm H locs ls hw (lv_sub hl [0, 2, 3, 4, 5, 6] rfl)
                    · have hf := if_t hf hc
                      refine lv_iconst (v := 1) (pc := 104) C0.1 C0.2.1 dX7_finds_104 (by decide) ?_
                      refine lv_goto (tgt := 109) (pc := 105) C0.1 C0.2.1 dX7_finds_105 (by decide) ?_
                      obtain ⟨q93, hq93, hf⟩ := bd_e hf
                      refine x_back (pc := 109) hw (x_runV (pc := 109) (As := [.int v1, .int a2.1, .int a1.1, .int 1]) (rest := []) C0 hK hw hl.1 ⟨Nat.zero_le _, Nat.zero_le _⟩ (kX7_can l D y ad hI v1 a2.1 a1.1 1 a3.2 hq93) (by decide) ly_m0 rfl rfl wc_X7_can wm_X7_101 wi_X7_can ws_X7_can wn_X7 ⟨rfl, rfl⟩ hd_X7_can rfl ⟨Nat.le_of_ble_eq_true rfl, Nat.le_of_ble_eq_true rfl⟩ (Nat.le_of_ble_eq_true rfl) dX7_finds_109) (fun H locs hw => ?_)
                      refine lv_if_eq (tgt := 178) (pc := 112) C0.1 C0.2.1 dX7_finds_112 (by decide) (fun hc => ?_) (fun hc => ?_)
                      · have hf := if_t hf hc
                        refine lv_iinc (pc := 178) (v := a3.1 + 1) (lv' := [(5, .int (a3.1 + 1)), (4, .int a2.1), (3, .int a1.1), (2, .int 1), (0, .ref (ad 0)), (1, .int v1)]) C0.1 C0.2.1 dX7_finds_178 hl (k := 0) rfl rfl (by decide) rfl (fun ls hl => ?_)
                        refine lv_goto (tgt := 65) (pc := 181) C0.1 C0.2.1 dX7_finds_181 (by decide) ?_
                        exact hG _ (Option.some.inj hf).symm H locs ls hw (lv_sub hl [0, 1, 2, 3, 4, 5] rfl)
                      · have hf := if_f hf hc
                        refine lv_aload_n (pc := 115) C0.1 C0.2.1 dX7_finds_115 rfl (lv_at hl 4 rfl) ?_
                        refine x_get (pc := 116) (v := .int (q93.2.1 0 3)) C0 hK hw (by decide) ly_m0 rfl inX7 3 (by decide) wf_X7_81 rfl rfl dX7_finds_116 ?_
                        refine lv_aload_n (pc := 119) C0.1 C0.2.1 dX7_finds_119 rfl (lv_at hl 4 rfl) ?_
                        refine lv_iload_n (pc := 120) C0.1 C0.2.1 dX7_finds_120 rfl (lv_at hl 5 rfl) ?_
                        obtain ⟨q94, hq94, hf⟩ := bd_e hf
                        refine x_backp (pc := 121) hw (x_runV (pc := 121) (As := [.int v1]) (rest := [.int (q93.2.1 0 3)]) C0 hK hw hl.1 ⟨Nat.zero_le _, Nat.zero_le _⟩ (kX7_high l D y ad hI v1 q93.2 hq94) (by decide) ly_m0 rfl rfl wc_X7_high wm_X7_51 wi_X7_high ws_X7_high wn_X7 ⟨rfl, rfl⟩ hd_X7_high rfl ⟨Nat.le_of_ble_eq_true rfl, Nat.le_of_ble_eq_true rfl⟩ (Nat.le_of_ble_eq_true rfl) dX7_finds_121) (fun H locs hw => ?_)
                        refine lv_iadd (pc := 124) C0.1 C0.2.1 dX7_finds_124 ?_
                        refine lv_istore (pc := 125) (lv' := [(6, .int ((q93.2.1 0 3) + q94)), (5, .int a3.1), (4, .int a2.1), (3, .int a1.1), (2, .int 1), (0, .ref (ad 0)), (1, .int v1)]) C0.1 C0.2.1 dX7_finds_125 hl (by decide) rfl (fun ls hl => ?_)
                        refine lv_aload_n (pc := 127) C0.1 C0.2.1 dX7_finds_127 rfl (lv_at hl 5 rfl) ?_
                        refine lv_dup (pc := 128) C0.1 C0.2.1 dX7_finds_128 rfl ?_
                        refine x_get (pc := 129) (v := .int (q93.2.1 0 15)) C0 hK hw (by decide) ly_m0 rfl inX7 15 (by decide) wf_X7_178 rfl rfl dX7_finds_129 ?_
                        refine lv_iconst (v := 1) (pc := 132) C0.1 C0.2.1 dX7_finds_132 (by decide) ?_
                        refine lv_iadd (pc := 133) C0.1 C0.2.1 dX7_finds_133 ?_
                        obtain ⟨u95, hu, hf⟩ := nm_f hf
                        refine x_put (pc := 134) hI C0 hK hw (by decide) ly_m0 rfl inX7 tyX7_ok nmX7 15 (by decide) wf_X7_178 rfl rfl rfl hu rfl rfl dX7_finds_134 (fun H locs hw => ?_)
                        refine lv_aload_n (pc := 137) C0.1 C0.2.1 dX7_finds_137 rfl (lv_at hl 5 rfl) ?_
                        refine x_get (pc := 138) (v := .int (u95.1 0 14)) C0 hK hw (by decide) ly_m0 rfl inX7 14 (by decide) wf_X7_181 rfl rfl dX7_finds_138 ?_
                        refine lv_bipush (v := (-9)) (pc := 141) C0.1 C0.2.1 dX7_finds_141 (by decide) ?_
                        refine lv_icmp_eq (tgt := 155) (pc := 143) C0.1 C0.2.1 dX7_finds_143 (by decide) (fun hc => ?_) (fun hc => ?_)
                        · have hf := if_t hf hc
                          refine lv_aload_n (pc := 155) C0.1 C0.2.1 dX7_finds_155 rfl (lv_at hl 5 rfl) ?_
                          refine lv_iload (pc := 156) C0.1 C0.2.1 dX7_finds_156 (lv_at hl 0 rfl) ?_
                          obtain ⟨u96, hu, hf⟩ := nm_f hf
                          refine x_put (pc := 158) hI C0 hK hw (by decide) ly_m0 rfl inX7 tyX7_ok nmX7 14 (by decide) wf_X7_181 rfl rfl rfl hu rfl rfl dX7_finds_158 (fun H locs hw => ?_)
                          refine lv_aload_n (pc := 161) C0.1 C0.2.1 dX7_finds_161 rfl (lv_at hl 5 rfl) ?_
                          refine lv_iload (pc := 162) C0.1 C0.2.1 dX7_finds_162 (lv_at hl 2 rfl) ?_
                          obtain ⟨u97, hu, hf⟩ := nm_f hf
                          refine x_put (pc := 164) hI C0 hK hw (by decide) ly_m0 rfl inX7 tyX7_ok nmX7 11 (by decide) wf_X7_184 rfl rfl rfl hu rfl rfl dX7_finds_164 (fun H locs hw => ?_)
                          refine lv_aload_n (pc := 167) C0.1 C0.2.1 dX7_finds_167 rfl (lv_at hl 5 rfl) ?_
                          refine lv_iload_n (pc := 168) C0.1 C0.2.1 dX7_finds_168 rfl (lv_at hl 3 rfl) ?_
                          obtain ⟨u98, hu, hf⟩ := nm_f hf
                          refine x_put (pc := 169) hI C0 hK hw (by decide) ly_m0 rfl inX7 tyX7_ok nmX7 12 (by decide) wf_X7_187 rfl rfl rfl hu rfl rfl dX7_finds_169 (fun H locs hw => ?_)
                          refine lv_aload_n (pc := 172) C0.1 C0.2.1 dX7_finds_172 rfl (lv_at hl 5 rfl) ?_
                          refine lv_iload (pc := 173) C0.1 C0.2.1 dX7_finds_173 (lv_at hl 1 rfl) ?_
                          obtain ⟨u99, hu, hf⟩ := nm_f hf
                          refine x_put (pc := 175) hI C0 hK hw (by decide) ly_m0 rfl inX7 tyX7_ok nmX7 13 (by decide) wf_X7_190 rfl rfl rfl hu rfl rfl dX7_finds_175 (fun H locs hw => ?_)
                          refine lv_iinc (pc := 178) (v := a3.1 + 1) (lv' := [(5, .int (a3.1 + 1)), (6, .int ((q93.2.1 0 3) + q94)), (4, .int a2.1), (3, .int a1.1), (2, .int 1), (0, .ref (ad 0)), (1, .int v1)]) C0.1 C0.2.1 dX7_finds_178 hl (k := 1) rfl rfl (by decide) rfl (fun ls hl => ?_)
                          refine lv_goto (tgt := 65) (pc := 181) C0.1 C0.2.1 dX7_finds_181 (by decide) ?_
                          exact hG _ (Option.some.inj hf).symm H locs ls hw (lv_sub hl [0, 2, 3, 4, 5, 6] rfl)
                        · have hf := if_f hf hc
                          refine lv_iload (pc := 146) C0.1 C0.2.1 dX7_finds_146 (lv_at hl 0 rfl) ?_
                          refine lv_aload_n (pc := 148) C0.1 C0.2.1 dX7_finds_148 rfl (lv_at hl 5 rfl) ?_
                          refine x_get (pc := 149) (v := .int (u95.1 0 14)) C0 hK hw (by decide) ly_m0 rfl inX7 14 (by decide) wf_X7_181 rfl rfl dX7_finds_149 ?_
                          refine lv_icmp_ge (tgt := 178) (pc := 152) C0.1 C0.2.1 dX7_finds_152 (by decide) (fun hc => ?_) (fun hc => ?_)
                          · have hf := if_t hf hc
                            refine lv_iinc (pc := 178) (v := a3.1 + 1) (lv' := [(5, .int (a3.1 + 1)), (6, .int ((q93.2.1 0 3) + q94)), (4, .int a2.1), (3, .int a1.1), (2, .int 1), (0, .ref (ad 0)), (1, .int v1)]) C0.1 C0.2.1 dX7_finds_178 hl (k := 1) rfl rfl (by decide) rfl (fun ls hl => ?_)
                            refine lv_goto (tgt := 65) (pc := 181) C0.1 C0.2.1 dX7_finds_181 (by decide) ?_
                            exact hG _ (Option.some.inj hf).symm H locs ls hw (lv_sub hl [0, 2, 3, 4, 5, 6] rfl)
                          · have hf := if_f hf hc
                            refine lv_aload_n (pc := 155) C0.1 C0.2.1 dX7_finds_155 rfl (lv_at hl 5 rfl) ?_
                            refine lv_iload (pc := 156) C0.1 C0.2.1 dX7_finds_156 (lv_at hl 0 rfl) ?_
                            obtain ⟨u100, hu, hf⟩ := nm_f hf
                            refine x_put (pc := 158) hI C0 hK hw (by decide) ly_m0 rfl inX7 tyX7_ok nmX7 14 (by decide) wf_X7_181 rfl rfl rfl hu rfl rfl dX7_finds_158 (fun H locs hw => ?_)
                            refine lv_aload_n (pc := 161) C0.1 C0.2.1 dX7_finds_161 rfl (lv_at hl 5 rfl) ?_
                            refine lv_iload (pc := 162) C0.1 C0.2.1 dX7_finds_162 (lv_at hl 2 rfl) ?_
                            obtain ⟨u101, hu, hf⟩ := nm_f hf
                            refine x_put (pc := 164) hI C0 hK hw (by decide) ly_m0 rfl inX7 tyX7_ok nmX7 11 (by decide) wf_X7_184 rfl rfl rfl hu rfl rfl dX7_finds_164 (fun H locs hw => ?_)
                            refine lv_aload_n (pc := 167) C0.1 C0.2.1 dX7_finds_167 rfl (lv_at hl 5 rfl) ?_
                            refine lv_iload_n (pc := 168) C0.1 C0.2.1 dX7_finds_168 rfl (lv_at hl 3 rfl) ?_
                            obtain ⟨u102, hu, hf⟩ := nm_f hf
                            refine x_put (pc := 169) hI C0 hK hw (by decide) ly_m0 rfl inX7 tyX7_ok nmX7 12 (by decide) wf_X7_187 rfl rfl rfl hu rfl rfl dX7_finds_169 (fun H locs hw => ?_)
                            refine lv_aload_n (pc := 172) C0.1 C0.2.1 dX7_finds_172 rfl (lv_at hl 5 rfl) ?_
                            refine lv_iload (pc := 173) C0.1 C0.2.1 dX7_finds_173 (lv_at hl 1 rfl) ?_
                            obtain ⟨u103, hu, hf⟩ := nm_f hf
                            refine x_put (pc := 175) hI C0 hK hw (by decide) ly_m0 rfl inX7 tyX7_ok nmX7 13 (by decide) wf_X7_190 rfl rfl rfl hu rfl rfl dX7_finds_175 (fun H locs hw => ?_)
                            refine lv_iinc (pc := 178) (v := a3.1 + 1) (lv' := [(5, .int (a3.1 + 1)), (6, .int ((q93.2.1 0 3) + q94)), (4, .int a2.1), (3, .int a1.1), (2, .int 1), (0, .ref (ad 0)), (1, .int v1)]) C0.1 C0.2.1 dX7_finds_178 hl (k := 1) rfl rfl (by decide) rfl (fun ls hl => ?_)
                            refine lv_goto (tgt := 65) (pc := 181) C0.1 C0.2.1 dX7_finds_181 (by decide) ?_
                            exact hG _ (Option.some.inj hf).symm H locs ls hw (lv_sub hl [0, 2, 3, 4, 5, 6] rfl)
            · skip
              refine lv_iinc (pc := 184) (v := a2.1 + 1) (lv' := [(4, .int (a2.1 + 1)), (5, .int e57.1), (3, .int a1.1), (2, .int 1), (0, .ref (ad 0)), (1, .int v1)]) C0.1 C0.2.1 dX7_finds_184 hl (k := 1) rfl rfl (by decide) rfl (fun ls hl => ?_)
              refine lv_goto (tgt := 51) (pc := 187) C0.1 C0.2.1 dX7_finds_187 (by decide) ?_
              exact hG _ (Option.some.inj hf).symm H locs ls hw (lv_sub hl [0, 2, 3, 4, 5] rfl)
        · skip
          refine lv_iinc (pc := 190) (v := a1.1 + 1) (lv' := [(3, .int (a1.1 + 1)), (4, .int e56.1), (2, .int 1), (0, .ref (ad 0)), (1, .int v1)]) C0.1 C0.2.1 dX7_finds_190 hl (k := 1) rfl rfl (by decide) rfl (fun ls hl => ?_)
          refine lv_goto (tgt := 38) (pc := 193) C0.1 C0.2.1 dX7_finds_193 (by decide) ?_
          exact hG _ (Option.some.inj hf).symm H locs ls hw (lv_sub hl [0, 2, 3, 4] rfl)
    · skip
      exact x_vret (pc := 196) C0 hK hk hr hw (Option.some.inj hf) dX7_finds_196
def wX7_place : List Cond := .code yX7_place cX7_place 3 (some .int) :: lwT
def rX7_place : Room := { frames := 6, cells := 0, slots := 0, locals := 138 }
set_option maxRecDepth 100000 in
set_option maxHeartbeats 4000000 in
theorem kX7_place (l : Launch) (D : va_G) (y : Nat → ClassId) (ad : Nat → Nat) (hI : XI ad 8) (v1 : Int32) (v2 : Int32) (u : S) {o : Int32 × S} (hf : fX7_place v1 v2 u = some o) : Met l yX7_place wX7_place rX7_place (va_Pc [.ref (ad 0), .int v1, .int v2] (XW D y ad LM 8 u)) (XQi D y ad LM 8 o) 0 0 (XA ad 8) := by
  refine x_met (bytes := cX7_place) (maxL := 3) (ret := (some .int)) (own := RX7) (by decide) rfl rfl (Nat.le_of_ble_eq_true rfl) (fun p e s m below meth c ls C0 hK hk hr hw hl => ?_)
  have hl : lv_has ls 3 [(0, .ref (ad 0)), (1, .int v1), (2, .int v2)] := hl
  unfold fX7_place at hf
  refine lv_aload_n (pc := 0) C0.1 C0.2.1 dX7_place_0 rfl (lv_at hl 0 rfl) ?_
  refine lv_iload_n (pc := 1) C0.1 C0.2.1 dX7_place_1 rfl (lv_at hl 1 rfl) ?_
  obtain ⟨q1, hq1, hf⟩ := bd_e hf
  refine x_backp (pc := 2) hw (x_runV (pc := 2) (As := [.int v1]) (rest := []) C0 hK hw hl.1 ⟨Nat.zero_le _, Nat.zero_le _⟩ (kX7_isTray l D y ad hI v1 u hq1) (by decide) ly_m0 rfl rfl wc_X7_isTray wm_X7_94 wi_X7_isTray ws_X7_isTray wn_X7 ⟨rfl, rfl⟩ hd_X7_isTray rfl ⟨Nat.le_of_ble_eq_true rfl, Nat.le_of_ble_eq_true rfl⟩ (Nat.le_of_ble_eq_true rfl) dX7_place_2) (fun H locs hw => ?_)
  refine lv_if_eq (tgt := 17) (pc := 5) C0.1 C0.2.1 dX7_place_5 (by decide) (fun hc => ?_) (fun hc => ?_)
  · have hf := if_t hf hc
    refine lv_iconst (v := (-1)) (pc := 17) C0.1 C0.2.1 dX7_place_17 (by decide) ?_
    exact x_iret (pc := 18) C0 hK hk hr hw (Option.some.inj hf) dX7_place_18
  · have hf := if_f hf hc
    refine lv_iload_n (pc := 8) C0.1 C0.2.1 dX7_place_8 rfl (lv_at hl 2 rfl) ?_
    refine lv_iconst (v := 0) (pc := 9) C0.1 C0.2.1 dX7_place_9 (by decide) ?_
    refine lv_iconst (v := 3) (pc := 10) C0.1 C0.2.1 dX7_place_10 (by decide) ?_
    obtain ⟨q2, hq2, hf⟩ := bd_e hf
    refine x_backp (pc := 11) hw (x_runS (pc := 11) (As := [.int v2, .int 0, .int 3]) (rest := []) C0 hK hw hl.1 ⟨Nat.zero_le _, Nat.zero_le _⟩ (kX7_in l D y ad hI v2 0 3 u hq2) rfl wc_X7_in wm_X7_43 wt_X7_in wn_X7 ⟨rfl, rfl⟩ hd_X7_in rfl ⟨Nat.le_of_ble_eq_true rfl, Nat.le_of_ble_eq_true rfl⟩ (Nat.le_of_ble_eq_true rfl) dX7_place_11) (fun H locs hw => ?_)
    refine lv_if_ne (tgt := 19) (pc := 14) C0.1 C0.2.1 dX7_place_14 (by decide) (fun hc => ?_) (fun hc => ?_)
    · have hf := if_f hf hc
      refine lv_aload_n (pc := 19) C0.1 C0.2.1 dX7_place_19 rfl (lv_at hl 0 rfl) ?_
      refine lv_iload_n (pc := 20) C0.1 C0.2.1 dX7_place_20 rfl (lv_at hl 1 rfl) ?_
      obtain ⟨q3, hq3, hf⟩ := bd_e hf
      refine x_backp (pc := 21) hw (x_runV (pc := 21) (As := [.int v1]) (rest := []) C0 hK hw hl.1 ⟨Nat.zero_le _, Nat.zero_le _⟩ (kX7_isIn l D y ad hI v1 u hq3) (by decide) ly_m0 rfl rfl wc_X7_isIn wm_X7_71 wi_X7_isIn ws_X7_isIn wn_X7 ⟨rfl, rfl⟩ hd_X7_isIn rfl ⟨Nat.le_of_ble_eq_true rfl, Nat.le_of_ble_eq_true rfl⟩ (Nat.le_of_ble_eq_true rfl) dX7_place_21) (fun H locs hw => ?_)
      refine lv_if_eq (tgt := 30) (pc := 24) C0.1 C0.2.1 dX7_place_24 (by decide) (fun hc => ?_) (fun hc => ?_)
      · have hf := if_t hf hc
        refine lv_aload_n (pc := 30) C0.1 C0.2.1 dX7_place_30 rfl (lv_at hl 0 rfl) ?_
        refine lv_iload_n (pc := 31) C0.1 C0.2.1 dX7_place_31 rfl (lv_at hl 1 rfl) ?_
        obtain ⟨q4, hq4, hf⟩ := bd_e hf
        refine x_backv (pc := 32) hw (x_runV (pc := 32) (As := [.int v1]) (rest := []) C0 hK hw hl.1 ⟨Nat.zero_le _, Nat.zero_le _⟩ (kX7_finds l D y ad hI v1 u hq4) (by decide) ly_m0 rfl rfl wc_X7_finds wm_X7_193 wi_X7_finds ws_X7_finds wn_X7 ⟨rfl, rfl⟩ hd_X7_finds rfl ⟨Nat.le_of_ble_eq_true rfl, Nat.le_of_ble_eq_true rfl⟩ (Nat.le_of_ble_eq_true rfl) dX7_place_32) (fun H locs hw => ?_)
        refine lv_aload_n (pc := 35) C0.1 C0.2.1 dX7_place_35 rfl (lv_at hl 0 rfl) ?_
        refine x_get (pc := 36) (v := .int (q4.1 0 14)) C0 hK hw (by decide) ly_m0 rfl inX7 14 (by decide) wf_X7_181 rfl rfl dX7_place_36 ?_
        refine lv_bipush (v := (-9)) (pc := 39) C0.1 C0.2.1 dX7_place_39 (by decide) ?_
        refine lv_icmp_ne (tgt := 47) (pc := 41) C0.1 C0.2.1 dX7_place_41 (by decide) (fun hc => ?_) (fun hc => ?_)
        · have hf := if_f hf hc
          refine lv_iload_n (pc := 47) C0.1 C0.2.1 dX7_place_47 rfl (lv_at hl 2 rfl) ?_
          refine lv_if_ne (tgt := 58) (pc := 48) C0.1 C0.2.1 dX7_place_48 (by decide) (fun hc => ?_) (fun hc => ?_)
          · have hf := if_f hf hc
            refine lv_iload_n (pc := 58) C0.1 C0.2.1 dX7_place_58 rfl (lv_at hl 2 rfl) ?_
            refine lv_iconst (v := 1) (pc := 59) C0.1 C0.2.1 dX7_place_59 (by decide) ?_
            refine lv_icmp_ne (tgt := 70) (pc := 60) C0.1 C0.2.1 dX7_place_60 (by decide) (fun hc => ?_) (fun hc => ?_)
            · have hf := if_f hf hc
              refine lv_iload_n (pc := 70) C0.1 C0.2.1 dX7_place_70 rfl (lv_at hl 2 rfl) ?_
              refine lv_iconst (v := 2) (pc := 71) C0.1 C0.2.1 dX7_place_71 (by decide) ?_
              refine lv_icmp_ne (tgt := 82) (pc := 72) C0.1 C0.2.1 dX7_place_72 (by decide) (fun hc => ?_) (fun hc => ?_)
              · have hf := if_f hf hc
                refine lv_aload_n (pc := 82) C0.1 C0.2.1 dX7_place_82 rfl (lv_at hl 0 rfl) ?_
                refine x_get (pc := 83) (v := .int (q4.1 0 14)) C0 hK hw (by decide) ly_m0 rfl inX7 14 (by decide) wf_X7_181 rfl rfl dX7_place_83 ?_
                exact x_iret (pc := 86) C0 hK hk hr hw (Option.some.inj hf) dX7_place_86
              · have hf := if_t hf hc
                refine lv_aload_n (pc := 75) C0.1 C0.2.1 dX7_place_75 rfl (lv_at hl 0 rfl) ?_
                refine x_get (pc := 76) (v := .int (q4.1 0 13)) C0 hK hw (by decide) ly_m0 rfl inX7 13 (by decide) wf_X7_190 rfl rfl dX7_place_76 ?_
                refine lv_goto (tgt := 86) (pc := 79) C0.1 C0.2.1 dX7_place_79 (by decide) ?_
                exact x_iret (pc := 86) C0 hK hk hr hw (Option.some.inj hf) dX7_place_86
            · have hf := if_t hf hc
              refine lv_aload_n (pc := 63) C0.1 C0.2.1 dX7_place_63 rfl (lv_at hl 0 rfl) ?_
              refine x_get (pc := 64) (v := .int (q4.1 0 12)) C0 hK hw (by decide) ly_m0 rfl inX7 12 (by decide) wf_X7_187 rfl rfl dX7_place_64 ?_
              refine lv_goto (tgt := 86) (pc := 67) C0.1 C0.2.1 dX7_place_67 (by decide) ?_
              exact x_iret (pc := 86) C0 hK hk hr hw (Option.some.inj hf) dX7_place_86
          · have hf := if_t hf hc
            refine lv_aload_n (pc := 51) C0.1 C0.2.1 dX7_place_51 rfl (lv_at hl 0 rfl) ?_
            refine x_get (pc := 52) (v := .int (q4.1 0 11)) C0 hK hw (by decide) ly_m0 rfl inX7 11 (by decide) wf_X7_184 rfl rfl dX7_place_52 ?_
            refine lv_goto (tgt := 86) (pc := 55) C0.1 C0.2.1 dX7_place_55 (by decide) ?_
            exact x_iret (pc := 86) C0 hK hk hr hw (Option.some.inj hf) dX7_place_86
        · have hf := if_t hf hc
          refine lv_bipush (v := (-9)) (pc := 44) C0.1 C0.2.1 dX7_place_44 (by decide) ?_
          exact x_iret (pc := 46) C0 hK hk hr hw (Option.some.inj hf) dX7_place_46
      · have hf := if_f hf hc
        refine lv_bipush (v := (-2)) (pc := 27) C0.1 C0.2.1 dX7_place_27 (by decide) ?_
        exact x_iret (pc := 29) C0 hK hk hr hw (Option.some.inj hf) dX7_place_29
    · have hf := if_t hf hc
      refine lv_iconst (v := (-1)) (pc := 17) C0.1 C0.2.1 dX7_place_17 (by decide) ?_
      exact x_iret (pc := 18) C0 hK hk hr hw (Option.some.inj hf) dX7_place_18
def wX7_places : List Cond := .code yX7_places cX7_places 2 (some .int) :: lwT
def rX7_places : Room := { frames := 6, cells := 0, slots := 0, locals := 138 }
set_option maxRecDepth 100000 in
set_option maxHeartbeats 4000000 in
theorem kX7_places (l : Launch) (D : va_G) (y : Nat → ClassId) (ad : Nat → Nat) (hI : XI ad 8) (v1 : Int32) (u : S) {o : Int32 × S} (hf : fX7_places v1 u = some o) : Met l yX7_places wX7_places rX7_places (va_Pc [.ref (ad 0), .int v1] (XW D y ad LM 8 u)) (XQi D y ad LM 8 o) 0 0 (XA ad 8) := by
  refine x_met (bytes := cX7_places) (maxL := 2) (ret := (some .int)) (own := RX7) (by decide) rfl rfl (Nat.le_of_ble_eq_true rfl) (fun p e s m below meth c ls C0 hK hk hr hw hl => ?_)
  have hl : lv_has ls 2 [(0, .ref (ad 0)), (1, .int v1)] := hl
  unfold fX7_places at hf
  refine lv_aload_n (pc := 0) C0.1 C0.2.1 dX7_places_0 rfl (lv_at hl 0 rfl) ?_
  refine lv_iload_n (pc := 1) C0.1 C0.2.1 dX7_places_1 rfl (lv_at hl 1 rfl) ?_
  obtain ⟨q1, hq1, hf⟩ := bd_e hf
  refine x_backp (pc := 2) hw (x_runV (pc := 2) (As := [.int v1]) (rest := []) C0 hK hw hl.1 ⟨Nat.zero_le _, Nat.zero_le _⟩ (kX7_isTray l D y ad hI v1 u hq1) (by decide) ly_m0 rfl rfl wc_X7_isTray wm_X7_94 wi_X7_isTray ws_X7_isTray wn_X7 ⟨rfl, rfl⟩ hd_X7_isTray rfl ⟨Nat.le_of_ble_eq_true rfl, Nat.le_of_ble_eq_true rfl⟩ (Nat.le_of_ble_eq_true rfl) dX7_places_2) (fun H locs hw => ?_)
  refine lv_if_ne (tgt := 10) (pc := 5) C0.1 C0.2.1 dX7_places_5 (by decide) (fun hc => ?_) (fun hc => ?_)
  · have hf := if_f hf hc
    refine lv_aload_n (pc := 10) C0.1 C0.2.1 dX7_places_10 rfl (lv_at hl 0 rfl) ?_
    refine lv_iload_n (pc := 11) C0.1 C0.2.1 dX7_places_11 rfl (lv_at hl 1 rfl) ?_
    obtain ⟨q2, hq2, hf⟩ := bd_e hf
    refine x_backp (pc := 12) hw (x_runV (pc := 12) (As := [.int v1]) (rest := []) C0 hK hw hl.1 ⟨Nat.zero_le _, Nat.zero_le _⟩ (kX7_isIn l D y ad hI v1 u hq2) (by decide) ly_m0 rfl rfl wc_X7_isIn wm_X7_71 wi_X7_isIn ws_X7_isIn wn_X7 ⟨rfl, rfl⟩ hd_X7_isIn rfl ⟨Nat.le_of_ble_eq_true rfl, Nat.le_of_ble_eq_true rfl⟩ (Nat.le_of_ble_eq_true rfl) dX7_places_12) (fun H locs hw => ?_)
    refine lv_if_eq (tgt := 21) (pc := 15) C0.1 C0.2.1 dX7_places_15 (by decide) (fun hc => ?_) (fun hc => ?_)
    · have hf := if_t hf hc
      refine lv_aload_n (pc := 21) C0.1 C0.2.1 dX7_places_21 rfl (lv_at hl 0 rfl) ?_
      refine lv_iload_n (pc := 22) C0.1 C0.2.1 dX7_places_22 rfl (lv_at hl 1 rfl) ?_
      obtain ⟨q3, hq3, hf⟩ := bd_e hf
      refine x_backv (pc := 23) hw (x_runV (pc := 23) (As := [.int v1]) (rest := []) C0 hK hw hl.1 ⟨Nat.zero_le _, Nat.zero_le _⟩ (kX7_finds l D y ad hI v1 u hq3) (by decide) ly_m0 rfl rfl wc_X7_finds wm_X7_193 wi_X7_finds ws_X7_finds wn_X7 ⟨rfl, rfl⟩ hd_X7_finds rfl ⟨Nat.le_of_ble_eq_true rfl, Nat.le_of_ble_eq_true rfl⟩ (Nat.le_of_ble_eq_true rfl) dX7_places_23) (fun H locs hw => ?_)
      refine lv_aload_n (pc := 26) C0.1 C0.2.1 dX7_places_26 rfl (lv_at hl 0 rfl) ?_
      refine x_get (pc := 27) (v := .int (q3.1 0 15)) C0 hK hw (by decide) ly_m0 rfl inX7 15 (by decide) wf_X7_178 rfl rfl dX7_places_27 ?_
      exact x_iret (pc := 30) C0 hK hk hr hw (Option.some.inj hf) dX7_places_30
    · have hf := if_f hf hc
      refine lv_bipush (v := (-2)) (pc := 18) C0.1 C0.2.1 dX7_places_18 (by decide) ?_
      exact x_iret (pc := 20) C0 hK hk hr hw (Option.some.inj hf) dX7_places_20
  · have hf := if_t hf hc
    refine lv_iconst (v := (-1)) (pc := 8) C0.1 C0.2.1 dX7_places_8 (by decide) ?_
    exact x_iret (pc := 9) C0 hK hk hr hw (Option.some.inj hf) dX7_places_9
def wX7_isAhead : List Cond := .code yX7_isAhead cX7_isAhead 5 (some .boolean) :: lwT
def rX7_isAhead : Room := { frames := 1, cells := 0, slots := 0, locals := 22 }
set_option maxRecDepth 100000 in
set_option maxHeartbeats 4000000 in
theorem kX7_isAhead (l : Launch) (D : va_G) (y : Nat → ClassId) (ad : Nat → Nat) (hI : XI ad 8) (v1 : Int32) (v2 : Int32) (u : S) {o : Int32} (hf : fX7_isAhead v1 v2 u = some o) : Met l yX7_isAhead wX7_isAhead rX7_isAhead (va_Pc [.ref (ad 0), .int v1, .int v2] (XW D y ad LM 8 u)) (XQi D y ad LM 8 (o, u)) 0 0 (XA ad 8) := by
  refine x_met (bytes := cX7_isAhead) (maxL := 5) (ret := (some .boolean)) (own := RX7) (by decide) rfl rfl (Nat.le_of_ble_eq_true rfl) (fun p e s m below meth c ls C0 hK hk hr hw hl => ?_)
  have hl : lv_has ls 5 [(0, .ref (ad 0)), (1, .int v1), (2, .int v2)] := hl
  unfold fX7_isAhead at hf
  refine lv_aload_n (pc := 0) C0.1 C0.2.1 dX7_isAhead_0 rfl (lv_at hl 0 rfl) ?_
  refine lv_iload_n (pc := 1) C0.1 C0.2.1 dX7_isAhead_1 rfl (lv_at hl 1 rfl) ?_
  refine lv_iconst (v := 3) (pc := 2) C0.1 C0.2.1 dX7_isAhead_2 (by decide) ?_
  obtain ⟨q1, hq1, hf⟩ := bd_e hf
  refine x_backp (pc := 3) hw (x_runV (pc := 3) (As := [.int v1, .int 3]) (rest := []) C0 hK hw hl.1 ⟨Nat.zero_le _, Nat.zero_le _⟩ (kX7_of l D y ad hI v1 3 u hq1) (by decide) ly_m0 rfl rfl wc_X7_of wm_X7_47 wi_X7_of ws_X7_of wn_X7 ⟨rfl, rfl⟩ hd_X7_of rfl ⟨Nat.le_of_ble_eq_true rfl, Nat.le_of_ble_eq_true rfl⟩ (Nat.le_of_ble_eq_true rfl) dX7_isAhead_3) (fun H locs hw => ?_)
  refine lv_aload_n (pc := 6) C0.1 C0.2.1 dX7_isAhead_6 rfl (lv_at hl 0 rfl) ?_
  refine lv_iload_n (pc := 7) C0.1 C0.2.1 dX7_isAhead_7 rfl (lv_at hl 2 rfl) ?_
  refine lv_iconst (v := 3) (pc := 8) C0.1 C0.2.1 dX7_isAhead_8 (by decide) ?_
  obtain ⟨q2, hq2, hf⟩ := bd_e hf
  refine x_backp (pc := 9) hw (x_runV (pc := 9) (As := [.int v2, .int 3]) (rest := [.int q1]) C0 hK hw hl.1 ⟨Nat.zero_le _, Nat.zero_le _⟩ (kX7_of l D y ad hI v2 3 u hq2) (by decide) ly_m0 rfl rfl wc_X7_of wm_X7_47 wi_X7_of ws_X7_of wn_X7 ⟨rfl, rfl⟩ hd_X7_of rfl ⟨Nat.le_of_ble_eq_true rfl, Nat.le_of_ble_eq_true rfl⟩ (Nat.le_of_ble_eq_true rfl) dX7_isAhead_9) (fun H locs hw => ?_)
  refine lv_icmp_eq (tgt := 36) (pc := 12) C0.1 C0.2.1 dX7_isAhead_12 (by decide) (fun hc => ?_) (fun hc => ?_)
  · have hf := if_t hf hc
    refine lv_aload_n (pc := 36) C0.1 C0.2.1 dX7_isAhead_36 rfl (lv_at hl 0 rfl) ?_
    refine lv_iload_n (pc := 37) C0.1 C0.2.1 dX7_isAhead_37 rfl (lv_at hl 1 rfl) ?_
    refine lv_iconst (v := 0) (pc := 38) C0.1 C0.2.1 dX7_isAhead_38 (by decide) ?_
    obtain ⟨q3, hq3, hf⟩ := bd_e hf
    refine x_backp (pc := 39) hw (x_runV (pc := 39) (As := [.int v1, .int 0]) (rest := []) C0 hK hw hl.1 ⟨Nat.zero_le _, Nat.zero_le _⟩ (kX7_of l D y ad hI v1 0 u hq3) (by decide) ly_m0 rfl rfl wc_X7_of wm_X7_47 wi_X7_of ws_X7_of wn_X7 ⟨rfl, rfl⟩ hd_X7_of rfl ⟨Nat.le_of_ble_eq_true rfl, Nat.le_of_ble_eq_true rfl⟩ (Nat.le_of_ble_eq_true rfl) dX7_isAhead_39) (fun H locs hw => ?_)
    refine lv_aload_n (pc := 42) C0.1 C0.2.1 dX7_isAhead_42 rfl (lv_at hl 0 rfl) ?_
    refine lv_iload_n (pc := 43) C0.1 C0.2.1 dX7_isAhead_43 rfl (lv_at hl 1 rfl) ?_
    refine lv_iconst (v := 1) (pc := 44) C0.1 C0.2.1 dX7_isAhead_44 (by decide) ?_
    obtain ⟨q4, hq4, hf⟩ := bd_e hf
    refine x_backp (pc := 45) hw (x_runV (pc := 45) (As := [.int v1, .int 1]) (rest := [.int q3]) C0 hK hw hl.1 ⟨Nat.zero_le _, Nat.zero_le _⟩ (kX7_of l D y ad hI v1 1 u hq4) (by decide) ly_m0 rfl rfl wc_X7_of wm_X7_47 wi_X7_of ws_X7_of wn_X7 ⟨rfl, rfl⟩ hd_X7_of rfl ⟨Nat.le_of_ble_eq_true rfl, Nat.le_of_ble_eq_true rfl⟩ (Nat.le_of_ble_eq_true rfl) dX7_isAhead_45) (fun H locs hw => ?_)
    refine lv_imul (pc := 48) C0.1 C0.2.1 dX7_isAhead_48 ?_
    refine lv_istore_n (pc := 49) (lv' := [(3, .int (q3 * q4)), (0, .ref (ad 0)), (1, .int v1), (2, .int v2)]) C0.1 C0.2.1 dX7_isAhead_49 rfl hl (by decide) rfl (fun ls hl => ?_)
    refine lv_aload_n (pc := 50) C0.1 C0.2.1 dX7_isAhead_50 rfl (lv_at hl 1 rfl) ?_
    refine lv_iload_n (pc := 51) C0.1 C0.2.1 dX7_isAhead_51 rfl (lv_at hl 3 rfl) ?_
    refine lv_iconst (v := 0) (pc := 52) C0.1 C0.2.1 dX7_isAhead_52 (by decide) ?_
    obtain ⟨q5, hq5, hf⟩ := bd_e hf
    refine x_backp (pc := 53) hw (x_runV (pc := 53) (As := [.int v2, .int 0]) (rest := []) C0 hK hw hl.1 ⟨Nat.zero_le _, Nat.zero_le _⟩ (kX7_of l D y ad hI v2 0 u hq5) (by decide) ly_m0 rfl rfl wc_X7_of wm_X7_47 wi_X7_of ws_X7_of wn_X7 ⟨rfl, rfl⟩ hd_X7_of rfl ⟨Nat.le_of_ble_eq_true rfl, Nat.le_of_ble_eq_true rfl⟩ (Nat.le_of_ble_eq_true rfl) dX7_isAhead_53) (fun H locs hw => ?_)
    refine lv_aload_n (pc := 56) C0.1 C0.2.1 dX7_isAhead_56 rfl (lv_at hl 1 rfl) ?_
    refine lv_iload_n (pc := 57) C0.1 C0.2.1 dX7_isAhead_57 rfl (lv_at hl 3 rfl) ?_
    refine lv_iconst (v := 1) (pc := 58) C0.1 C0.2.1 dX7_isAhead_58 (by decide) ?_
    obtain ⟨q6, hq6, hf⟩ := bd_e hf
    refine x_backp (pc := 59) hw (x_runV (pc := 59) (As := [.int v2, .int 1]) (rest := [.int q5]) C0 hK hw hl.1 ⟨Nat.zero_le _, Nat.zero_le _⟩ (kX7_of l D y ad hI v2 1 u hq6) (by decide) ly_m0 rfl rfl wc_X7_of wm_X7_47 wi_X7_of ws_X7_of wn_X7 ⟨rfl, rfl⟩ hd_X7_of rfl ⟨Nat.le_of_ble_eq_true rfl, Nat.le_of_ble_eq_true rfl⟩ (Nat.le_of_ble_eq_true rfl) dX7_isAhead_59) (fun H locs hw => ?_)
    refine lv_imul (pc := 62) C0.1 C0.2.1 dX7_isAhead_62 ?_
    refine lv_istore (pc := 63) (lv' := [(4, .int (q5 * q6)), (3, .int (q3 * q4)), (0, .ref (ad 0)), (1, .int v1), (2, .int v2)]) C0.1 C0.2.1 dX7_isAhead_63 hl (by decide) rfl (fun ls hl => ?_)
    refine lv_iload_n (pc := 65) C0.1 C0.2.1 dX7_isAhead_65 rfl (lv_at hl 1 rfl) ?_
    refine lv_iload (pc := 66) C0.1 C0.2.1 dX7_isAhead_66 (lv_at hl 0 rfl) ?_
    refine lv_icmp_eq (tgt := 85) (pc := 68) C0.1 C0.2.1 dX7_isAhead_68 (by decide) (fun hc => ?_) (fun hc => ?_)
    · have hf := if_t hf hc
      refine lv_iload_n (pc := 85) C0.1 C0.2.1 dX7_isAhead_85 rfl (lv_at hl 3 rfl) ?_
      refine lv_iload_n (pc := 86) C0.1 C0.2.1 dX7_isAhead_86 rfl (lv_at hl 4 rfl) ?_
      refine lv_icmp_ge (tgt := 94) (pc := 87) C0.1 C0.2.1 dX7_isAhead_87 (by decide) (fun hc => ?_) (fun hc => ?_)
      · have hf := if_t hf hc
        refine lv_iconst (v := 0) (pc := 94) C0.1 C0.2.1 dX7_isAhead_94 (by decide) ?_
        exact x_zret (pc := 95) C0 hK hk hr hw rfl (congrArg (fun z => (z, u)) (Option.some.inj hf)) dX7_isAhead_95
      · have hf := if_f hf hc
        refine lv_iconst (v := 1) (pc := 90) C0.1 C0.2.1 dX7_isAhead_90 (by decide) ?_
        refine lv_goto (tgt := 95) (pc := 91) C0.1 C0.2.1 dX7_isAhead_91 (by decide) ?_
        exact x_zret (pc := 95) C0 hK hk hr hw rfl (congrArg (fun z => (z, u)) (Option.some.inj hf)) dX7_isAhead_95
    · have hf := if_f hf hc
      refine lv_iload_n (pc := 71) C0.1 C0.2.1 dX7_isAhead_71 rfl (lv_at hl 1 rfl) ?_
      refine lv_iload (pc := 72) C0.1 C0.2.1 dX7_isAhead_72 (lv_at hl 0 rfl) ?_
      refine lv_icmp_le (tgt := 81) (pc := 74) C0.1 C0.2.1 dX7_isAhead_74 (by decide) (fun hc => ?_) (fun hc => ?_)
      · have hf := if_t hf hc
        refine lv_iconst (v := 0) (pc := 81) C0.1 C0.2.1 dX7_isAhead_81 (by decide) ?_
        refine lv_goto (tgt := 95) (pc := 82) C0.1 C0.2.1 dX7_isAhead_82 (by decide) ?_
        exact x_zret (pc := 95) C0 hK hk hr hw rfl (congrArg (fun z => (z, u)) (Option.some.inj hf)) dX7_isAhead_95
      · have hf := if_f hf hc
        refine lv_iconst (v := 1) (pc := 77) C0.1 C0.2.1 dX7_isAhead_77 (by decide) ?_
        refine lv_goto (tgt := 95) (pc := 78) C0.1 C0.2.1 dX7_isAhead_78 (by decide) ?_
        exact x_zret (pc := 95) C0 hK hk hr hw rfl (congrArg (fun z => (z, u)) (Option.some.inj hf)) dX7_isAhead_95
  · have hf := if_f hf hc
    refine lv_aload_n (pc := 15) C0.1 C0.2.1 dX7_isAhead_15 rfl (lv_at hl 0 rfl) ?_
    refine lv_iload_n (pc := 16) C0.1 C0.2.1 dX7_isAhead_16 rfl (lv_at hl 1 rfl) ?_
    refine lv_iconst (v := 3) (pc := 17) C0.1 C0.2.1 dX7_isAhead_17 (by decide) ?_
    obtain ⟨q7, hq7, hf⟩ := bd_e hf
    refine x_backp (pc := 18) hw (x_runV (pc := 18) (As := [.int v1, .int 3]) (rest := []) C0 hK hw hl.1 ⟨Nat.zero_le _, Nat.zero_le _⟩ (kX7_of l D y ad hI v1 3 u hq7) (by decide) ly_m0 rfl rfl wc_X7_of wm_X7_47 wi_X7_of ws_X7_of wn_X7 ⟨rfl, rfl⟩ hd_X7_of rfl ⟨Nat.le_of_ble_eq_true rfl, Nat.le_of_ble_eq_true rfl⟩ (Nat.le_of_ble_eq_true rfl) dX7_isAhead_18) (fun H locs hw => ?_)
    refine lv_aload_n (pc := 21) C0.1 C0.2.1 dX7_isAhead_21 rfl (lv_at hl 0 rfl) ?_
    refine lv_iload_n (pc := 22) C0.1 C0.2.1 dX7_isAhead_22 rfl (lv_at hl 2 rfl) ?_
    refine lv_iconst (v := 3) (pc := 23) C0.1 C0.2.1 dX7_isAhead_23 (by decide) ?_
    obtain ⟨q8, hq8, hf⟩ := bd_e hf
    refine x_backp (pc := 24) hw (x_runV (pc := 24) (As := [.int v2, .int 3]) (rest := [.int q7]) C0 hK hw hl.1 ⟨Nat.zero_le _, Nat.zero_le _⟩ (kX7_of l D y ad hI v2 3 u hq8) (by decide) ly_m0 rfl rfl wc_X7_of wm_X7_47 wi_X7_of ws_X7_of wn_X7 ⟨rfl, rfl⟩ hd_X7_of rfl ⟨Nat.le_of_ble_eq_true rfl, Nat.le_of_ble_eq_true rfl⟩ (Nat.le_of_ble_eq_true rfl) dX7_isAhead_24) (fun H locs hw => ?_)
    refine lv_icmp_le (tgt := 34) (pc := 27) C0.1 C0.2.1 dX7_isAhead_27 (by decide) (fun hc => ?_) (fun hc => ?_)
    · have hf := if_t hf hc
      refine lv_iconst (v := 0) (pc := 34) C0.1 C0.2.1 dX7_isAhead_34 (by decide) ?_
      exact x_zret (pc := 35) C0 hK hk hr hw rfl (congrArg (fun z => (z, u)) (Option.some.inj hf)) dX7_isAhead_35
    · have hf := if_f hf hc
      refine lv_iconst (v := 1) (pc := 30) C0.1 C0.2.1 dX7_isAhead_30 (by decide) ?_
      refine lv_goto (tgt := 35) (pc := 31) C0.1 C0.2.1 dX7_isAhead_31 (by decide) ?_
      exact x_zret (pc := 35) C0 hK hk hr hw rfl (congrArg (fun z => (z, u)) (Option.some.inj hf)) dX7_isAhead_35
def wX7_ordersUsually : List Cond := .code yX7_ordersUsually cX7_ordersUsually 3 none :: lwT
def rX7_ordersUsually : Room := { frames := 2, cells := 0, slots := 0, locals := 46 }
set_option maxRecDepth 100000 in
set_option maxHeartbeats 4000000 in
theorem kX7_ordersUsually (l : Launch) (D : va_G) (y : Nat → ClassId) (ad : Nat → Nat) (hI : XI ad 8)  (u : S) {o : S} (hf : fX7_ordersUsually  u = some o) : Met l yX7_ordersUsually wX7_ordersUsually rX7_ordersUsually (va_Pc [.ref (ad 0)] (XW D y ad LM 8 u)) (XQv D y ad LM 8 o) 0 0 (XA ad 8) := by
  refine x_met (bytes := cX7_ordersUsually) (maxL := 3) (ret := none) (own := RX7) (by decide) rfl rfl (Nat.le_of_ble_eq_true rfl) (fun p e s m below meth c ls C0 hK hk hr hw hl => ?_)
  have hl : lv_has ls 3 [(0, .ref (ad 0))] := hl
  unfold fX7_ordersUsually at hf
  refine lv_iconst (v := 0) (pc := 0) C0.1 C0.2.1 dX7_ordersUsually_0 (by decide) ?_
  refine lv_istore_n (pc := 1) (lv' := [(1, .int 0), (0, .ref (ad 0))]) C0.1 C0.2.1 dX7_ordersUsually_1 rfl hl (by decide) rfl (fun ls hl => ?_)
  obtain ⟨e1, he1, hf⟩ := bd_e hf
  refine X_loop (pc := 2) (xpc := 65) (fu := fun a1 => a1.2) (fl := fun a1 => [(1, .int a1.1), (0, .ref (ad 0))]) (fun a1 r hf hE hG H locs ls hw hl => ?_) he1 (fun H locs ls hw hl => ?_) hw hl
  · unfold gX7_ordersUsually_2 at hf
    refine lv_iload_n (pc := 2) C0.1 C0.2.1 dX7_ordersUsually_2 rfl (lv_at hl 0 rfl) ?_
    refine lv_aload_n (pc := 3) C0.1 C0.2.1 dX7_ordersUsually_3 rfl (lv_at hl 1 rfl) ?_
    obtain ⟨q2, hq2, hf⟩ := bd_e hf
    refine x_backp (pc := 4) hw (x_runV (pc := 4) (As := []) (rest := [.int a1.1]) C0 hK hw hl.1 ⟨Nat.zero_le _, Nat.zero_le _⟩ (kX7_trays l D y ad hI  a1.2 hq2) (by decide) ly_m0 rfl rfl wc_X7_trays wm_X7_39 wi_X7_trays ws_X7_trays wn_X7 ⟨rfl, rfl⟩ hd_X7_trays rfl ⟨Nat.le_of_ble_eq_true rfl, Nat.le_of_ble_eq_true rfl⟩ (Nat.le_of_ble_eq_true rfl) dX7_ordersUsually_4) (fun H locs hw => ?_)
    refine lv_icmp_ge (tgt := 65) (pc := 7) C0.1 C0.2.1 dX7_ordersUsually_7 (by decide) (fun hc => ?_) (fun hc => ?_)
    · have hf := if_t hf hc
      exact hE _ (Option.some.inj hf).symm H locs ls hw (lv_sub hl [0, 1] rfl)
    · have hf := if_f hf hc
      refine lv_iload_n (pc := 10) C0.1 C0.2.1 dX7_ordersUsually_10 rfl (lv_at hl 0 rfl) ?_
      refine lv_istore_n (pc := 11) (lv' := [(2, .int a1.1), (1, .int a1.1), (0, .ref (ad 0))]) C0.1 C0.2.1 dX7_ordersUsually_11 rfl hl (by decide) rfl (fun ls hl => ?_)
      obtain ⟨e3, he3, hf⟩ := bd_e hf
      refine X_loop (pc := 12) (xpc := 52) (fu := fun a2 => a2.2) (fl := fun a2 => [(2, .int a2.1), (1, .int a1.1), (0, .ref (ad 0))]) (fun a2 r hf hE hG H locs ls hw hl => ?_) he3 (fun H locs ls hw hl => ?_) hw hl
      · unfold gX7_ordersUsually_12 at hf
        refine lv_iload_n (pc := 12) C0.1 C0.2.1 dX7_ordersUsually_12 rfl (lv_at hl 0 rfl) ?_
        refine lv_if_le (tgt := 52) (pc := 13) C0.1 C0.2.1 dX7_ordersUsually_13 (by decide) (fun hc => ?_) (fun hc => ?_)
        · have hf := if_t hf hc
          exact hE _ (Option.some.inj hf).symm H locs ls hw (lv_sub hl [0, 1, 2] rfl)
        · have hf := if_f hf hc
          refine lv_aload_n (pc := 16) C0.1 C0.2.1 dX7_ordersUsually_16 rfl (lv_at hl 2 rfl) ?_
          refine lv_iload_n (pc := 17) C0.1 C0.2.1 dX7_ordersUsually_17 rfl (lv_at hl 1 rfl) ?_
          refine lv_aload_n (pc := 18) C0.1 C0.2.1 dX7_ordersUsually_18 rfl (lv_at hl 2 rfl) ?_
          refine x_get (pc := 19) (v := .ref (ad 4)) C0 hK hw (by decide) ly_m0 rfl inX7 16 (by decide) wf_X7_19 rfl rfl dX7_ordersUsually_19 ?_
          refine lv_iload_n (pc := 22) C0.1 C0.2.1 dX7_ordersUsually_22 rfl (lv_at hl 0 rfl) ?_
          refine lv_iconst (v := 1) (pc := 23) C0.1 C0.2.1 dX7_ordersUsually_23 (by decide) ?_
          refine lv_isub (pc := 24) C0.1 C0.2.1 dX7_ordersUsually_24 ?_
          obtain ⟨hi, hf⟩ := gd_e hf
          refine x_iald (pc := 25) C0 hK hw (by decide) ly_m4 hi dX7_ordersUsually_25 ?_
          obtain ⟨q4, hq4, hf⟩ := bd_e hf
          refine x_backp (pc := 26) hw (x_runV (pc := 26) (As := [.int a1.1, .int (a2.2.1 4 (a2.1 - 1).toNatClampNeg)]) (rest := []) C0 hK hw hl.1 ⟨Nat.zero_le _, Nat.zero_le _⟩ (kX7_isAhead l D y ad hI a1.1 (a2.2.1 4 (a2.1 - 1).toNatClampNeg) a2.2 hq4) (by decide) ly_m0 rfl rfl wc_X7_isAhead wm_X7_196 wi_X7_isAhead ws_X7_isAhead wn_X7 ⟨rfl, rfl⟩ hd_X7_isAhead rfl ⟨Nat.le_of_ble_eq_true rfl, Nat.le_of_ble_eq_true rfl⟩ (Nat.le_of_ble_eq_true rfl) dX7_ordersUsually_26) (fun H locs hw => ?_)
          refine lv_if_eq (tgt := 52) (pc := 29) C0.1 C0.2.1 dX7_ordersUsually_29 (by decide) (fun hc => ?_) (fun hc => ?_)
          · have hf := if_t hf hc
            exact hE _ (Option.some.inj hf).symm H locs ls hw (lv_sub hl [0, 1, 2] rfl)
          · have hf := if_f hf hc
            refine lv_aload_n (pc := 32) C0.1 C0.2.1 dX7_ordersUsually_32 rfl (lv_at hl 2 rfl) ?_
            refine x_get (pc := 33) (v := .ref (ad 4)) C0 hK hw (by decide) ly_m0 rfl inX7 16 (by decide) wf_X7_19 rfl rfl dX7_ordersUsually_33 ?_
            refine lv_iload_n (pc := 36) C0.1 C0.2.1 dX7_ordersUsually_36 rfl (lv_at hl 0 rfl) ?_
            refine lv_aload_n (pc := 37) C0.1 C0.2.1 dX7_ordersUsually_37 rfl (lv_at hl 2 rfl) ?_
            refine x_get (pc := 38) (v := .ref (ad 4)) C0 hK hw (by decide) ly_m0 rfl inX7 16 (by decide) wf_X7_19 rfl rfl dX7_ordersUsually_38 ?_
            refine lv_iload_n (pc := 41) C0.1 C0.2.1 dX7_ordersUsually_41 rfl (lv_at hl 0 rfl) ?_
            refine lv_iconst (v := 1) (pc := 42) C0.1 C0.2.1 dX7_ordersUsually_42 (by decide) ?_
            refine lv_isub (pc := 43) C0.1 C0.2.1 dX7_ordersUsually_43 ?_
            obtain ⟨hi, hf⟩ := gd_e hf
            refine x_iald (pc := 44) C0 hK hw (by decide) ly_m4 hi dX7_ordersUsually_44 ?_
            obtain ⟨hi, hf⟩ := gd_e hf
            obtain ⟨u5, hu, hf⟩ := nm_f hf
            refine x_iast (pc := 45) hI C0 hK hw (by decide) ly_m4 hi hu dX7_ordersUsually_45 (fun H locs hw => ?_)
            refine lv_iinc (pc := 46) (v := a2.1 + (-1)) (lv' := [(2, .int (a2.1 + (-1))), (1, .int a1.1), (0, .ref (ad 0))]) C0.1 C0.2.1 dX7_ordersUsually_46 hl (k := 0) rfl (congrArg (HAdd.hAdd _) (by decide)) (by decide) rfl (fun ls hl => ?_)
            refine lv_goto (tgt := 12) (pc := 49) C0.1 C0.2.1 dX7_ordersUsually_49 (by decide) ?_
            exact hG _ (Option.some.inj hf).symm H locs ls hw (lv_sub hl [0, 1, 2] rfl)
      · skip
        refine lv_aload_n (pc := 52) C0.1 C0.2.1 dX7_ordersUsually_52 rfl (lv_at hl 2 rfl) ?_
        refine x_get (pc := 53) (v := .ref (ad 4)) C0 hK hw (by decide) ly_m0 rfl inX7 16 (by decide) wf_X7_19 rfl rfl dX7_ordersUsually_53 ?_
        refine lv_iload_n (pc := 56) C0.1 C0.2.1 dX7_ordersUsually_56 rfl (lv_at hl 0 rfl) ?_
        refine lv_iload_n (pc := 57) C0.1 C0.2.1 dX7_ordersUsually_57 rfl (lv_at hl 1 rfl) ?_
        obtain ⟨hi, hf⟩ := gd_e hf
        obtain ⟨u6, hu, hf⟩ := nm_f hf
        refine x_iast (pc := 58) hI C0 hK hw (by decide) ly_m4 hi hu dX7_ordersUsually_58 (fun H locs hw => ?_)
        refine lv_iinc (pc := 59) (v := a1.1 + 1) (lv' := [(1, .int (a1.1 + 1)), (2, .int e3.1), (0, .ref (ad 0))]) C0.1 C0.2.1 dX7_ordersUsually_59 hl (k := 1) rfl rfl (by decide) rfl (fun ls hl => ?_)
        refine lv_goto (tgt := 2) (pc := 62) C0.1 C0.2.1 dX7_ordersUsually_62 (by decide) ?_
        exact hG _ (Option.some.inj hf).symm H locs ls hw (lv_sub hl [0, 2] rfl)
  · skip
    exact x_vret (pc := 65) C0 hK hk hr hw (Option.some.inj hf) dX7_ordersUsually_65
def wX7_packs : List Cond := .code yX7_packs cX7_packs 2 none :: lwT
def rX7_packs : Room := { frames := 6, cells := 0, slots := 0, locals := 138 }
set_option maxRecDepth 100000 in
set_option maxHeartbeats 4000000 in
theorem kX7_packs (l : Launch) (D : va_G) (y : Nat → ClassId) (ad : Nat → Nat) (hI : XI ad 8)  (u : S) {o : S} (hf : fX7_packs  u = some o) : Met l yX7_packs wX7_packs rX7_packs (va_Pc [.ref (ad 0)] (XW D y ad LM 8 u)) (XQv D y ad LM 8 o) 0 0 (XA ad 8) := by
  refine x_met (bytes := cX7_packs) (maxL := 2) (ret := none) (own := RX7) (by decide) rfl rfl (Nat.le_of_ble_eq_true rfl) (fun p e s m below meth c ls C0 hK hk hr hw hl => ?_)
  have hl : lv_has ls 2 [(0, .ref (ad 0))] := hl
  unfold fX7_packs at hf
  refine lv_aload_n (pc := 0) C0.1 C0.2.1 dX7_packs_0 rfl (lv_at hl 0 rfl) ?_
  obtain ⟨q1, hq1, hf⟩ := bd_e hf
  refine x_backv (pc := 1) hw (x_runV (pc := 1) (As := []) (rest := []) C0 hK hw hl.1 ⟨Nat.zero_le _, Nat.zero_le _⟩ (kX7_empties l D y ad hI  u hq1) (by decide) ly_m0 rfl rfl wc_X7_empties wm_X7_172 wi_X7_empties ws_X7_empties wn_X7 ⟨rfl, rfl⟩ hd_X7_empties rfl ⟨Nat.le_of_ble_eq_true rfl, Nat.le_of_ble_eq_true rfl⟩ (Nat.le_of_ble_eq_true rfl) dX7_packs_1) (fun H locs hw => ?_)
  refine lv_iconst (v := 0) (pc := 4) C0.1 C0.2.1 dX7_packs_4 (by decide) ?_
  refine lv_istore_n (pc := 5) (lv' := [(1, .int 0), (0, .ref (ad 0))]) C0.1 C0.2.1 dX7_packs_5 rfl hl (by decide) rfl (fun ls hl => ?_)
  obtain ⟨e2, he2, hf⟩ := bd_e hf
  refine X_loop (pc := 6) (xpc := 61) (fu := fun a1 => a1.2) (fl := fun a1 => [(1, .int a1.1), (0, .ref (ad 0))]) (fun a1 r hf hE hG H locs ls hw hl => ?_) he2 (fun H locs ls hw hl => ?_) hw hl
  · unfold gX7_packs_6 at hf
    refine lv_iload_n (pc := 6) C0.1 C0.2.1 dX7_packs_6 rfl (lv_at hl 0 rfl) ?_
    refine lv_aload_n (pc := 7) C0.1 C0.2.1 dX7_packs_7 rfl (lv_at hl 1 rfl) ?_
    obtain ⟨q3, hq3, hf⟩ := bd_e hf
    refine x_backp (pc := 8) hw (x_runV (pc := 8) (As := []) (rest := [.int a1.1]) C0 hK hw hl.1 ⟨Nat.zero_le _, Nat.zero_le _⟩ (kX7_trays l D y ad hI  a1.2 hq3) (by decide) ly_m0 rfl rfl wc_X7_trays wm_X7_39 wi_X7_trays ws_X7_trays wn_X7 ⟨rfl, rfl⟩ hd_X7_trays rfl ⟨Nat.le_of_ble_eq_true rfl, Nat.le_of_ble_eq_true rfl⟩ (Nat.le_of_ble_eq_true rfl) dX7_packs_8) (fun H locs hw => ?_)
    refine lv_icmp_ge (tgt := 61) (pc := 11) C0.1 C0.2.1 dX7_packs_11 (by decide) (fun hc => ?_) (fun hc => ?_)
    · have hf := if_t hf hc
      exact hE _ (Option.some.inj hf).symm H locs ls hw (lv_sub hl [0, 1] rfl)
    · have hf := if_f hf hc
      refine lv_aload_n (pc := 14) C0.1 C0.2.1 dX7_packs_14 rfl (lv_at hl 1 rfl) ?_
      refine lv_aload_n (pc := 15) C0.1 C0.2.1 dX7_packs_15 rfl (lv_at hl 1 rfl) ?_
      refine x_get (pc := 16) (v := .ref (ad 4)) C0 hK hw (by decide) ly_m0 rfl inX7 16 (by decide) wf_X7_19 rfl rfl dX7_packs_16 ?_
      refine lv_iload_n (pc := 19) C0.1 C0.2.1 dX7_packs_19 rfl (lv_at hl 0 rfl) ?_
      obtain ⟨hi, hf⟩ := gd_e hf
      refine x_iald (pc := 20) C0 hK hw (by decide) ly_m4 hi dX7_packs_20 ?_
      obtain ⟨q4, hq4, hf⟩ := bd_e hf
      refine x_backv (pc := 21) hw (x_runV (pc := 21) (As := [.int (a1.2.1 4 a1.1.toNatClampNeg)]) (rest := []) C0 hK hw hl.1 ⟨Nat.zero_le _, Nat.zero_le _⟩ (kX7_finds l D y ad hI (a1.2.1 4 a1.1.toNatClampNeg) a1.2 hq4) (by decide) ly_m0 rfl rfl wc_X7_finds wm_X7_193 wi_X7_finds ws_X7_finds wn_X7 ⟨rfl, rfl⟩ hd_X7_finds rfl ⟨Nat.le_of_ble_eq_true rfl, Nat.le_of_ble_eq_true rfl⟩ (Nat.le_of_ble_eq_true rfl) dX7_packs_21) (fun H locs hw => ?_)
      refine lv_aload_n (pc := 24) C0.1 C0.2.1 dX7_packs_24 rfl (lv_at hl 1 rfl) ?_
      refine x_get (pc := 25) (v := .int (q4.1 0 14)) C0 hK hw (by decide) ly_m0 rfl inX7 14 (by decide) wf_X7_181 rfl rfl dX7_packs_25 ?_
      refine lv_bipush (v := (-9)) (pc := 28) C0.1 C0.2.1 dX7_packs_28 (by decide) ?_
      refine lv_icmp_eq (tgt := 55) (pc := 30) C0.1 C0.2.1 dX7_packs_30 (by decide) (fun hc => ?_) (fun hc => ?_)
      · have hf := if_t hf hc
        refine lv_iinc (pc := 55) (v := a1.1 + 1) (lv' := [(1, .int (a1.1 + 1)), (0, .ref (ad 0))]) C0.1 C0.2.1 dX7_packs_55 hl (k := 0) rfl rfl (by decide) rfl (fun ls hl => ?_)
        refine lv_goto (tgt := 6) (pc := 58) C0.1 C0.2.1 dX7_packs_58 (by decide) ?_
        exact hG _ (Option.some.inj hf).symm H locs ls hw (lv_sub hl [0, 1] rfl)
      · have hf := if_f hf hc
        refine lv_aload_n (pc := 33) C0.1 C0.2.1 dX7_packs_33 rfl (lv_at hl 1 rfl) ?_
        refine lv_aload_n (pc := 34) C0.1 C0.2.1 dX7_packs_34 rfl (lv_at hl 1 rfl) ?_
        refine x_get (pc := 35) (v := .ref (ad 4)) C0 hK hw (by decide) ly_m0 rfl inX7 16 (by decide) wf_X7_19 rfl rfl dX7_packs_35 ?_
        refine lv_iload_n (pc := 38) C0.1 C0.2.1 dX7_packs_38 rfl (lv_at hl 0 rfl) ?_
        obtain ⟨hi, hf⟩ := gd_e hf
        refine x_iald (pc := 39) C0 hK hw (by decide) ly_m4 hi dX7_packs_39 ?_
        refine lv_aload_n (pc := 40) C0.1 C0.2.1 dX7_packs_40 rfl (lv_at hl 1 rfl) ?_
        refine x_get (pc := 41) (v := .int (q4.1 0 11)) C0 hK hw (by decide) ly_m0 rfl inX7 11 (by decide) wf_X7_184 rfl rfl dX7_packs_41 ?_
        refine lv_aload_n (pc := 44) C0.1 C0.2.1 dX7_packs_44 rfl (lv_at hl 1 rfl) ?_
        refine x_get (pc := 45) (v := .int (q4.1 0 12)) C0 hK hw (by decide) ly_m0 rfl inX7 12 (by decide) wf_X7_187 rfl rfl dX7_packs_45 ?_
        refine lv_aload_n (pc := 48) C0.1 C0.2.1 dX7_packs_48 rfl (lv_at hl 1 rfl) ?_
        refine x_get (pc := 49) (v := .int (q4.1 0 13)) C0 hK hw (by decide) ly_m0 rfl inX7 13 (by decide) wf_X7_190 rfl rfl dX7_packs_49 ?_
        obtain ⟨q5, hq5, hf⟩ := bd_e hf
        refine x_backv (pc := 52) hw (x_runV (pc := 52) (As := [.int (q4.1 4 a1.1.toNatClampNeg), .int (q4.1 0 11), .int (q4.1 0 12), .int (q4.1 0 13)]) (rest := []) C0 hK hw hl.1 ⟨Nat.zero_le _, Nat.zero_le _⟩ (kX7_comes l D y ad hI (q4.1 4 a1.1.toNatClampNeg) (q4.1 0 11) (q4.1 0 12) (q4.1 0 13) q4 hq5) (by decide) ly_m0 rfl rfl wc_X7_comes wm_X7_107 wi_X7_comes ws_X7_comes wn_X7 ⟨rfl, rfl⟩ hd_X7_comes rfl ⟨Nat.le_of_ble_eq_true rfl, Nat.le_of_ble_eq_true rfl⟩ (Nat.le_of_ble_eq_true rfl) dX7_packs_52) (fun H locs hw => ?_)
        refine lv_iinc (pc := 55) (v := a1.1 + 1) (lv' := [(1, .int (a1.1 + 1)), (0, .ref (ad 0))]) C0.1 C0.2.1 dX7_packs_55 hl (k := 0) rfl rfl (by decide) rfl (fun ls hl => ?_)
        refine lv_goto (tgt := 6) (pc := 58) C0.1 C0.2.1 dX7_packs_58 (by decide) ?_
        exact hG _ (Option.some.inj hf).symm H locs ls hw (lv_sub hl [0, 1] rfl)
  · skip
    exact x_vret (pc := 61) C0 hK hk hr hw (Option.some.inj hf) dX7_packs_61
def wX7_swaps : List Cond := .code yX7_swaps cX7_swaps 4 none :: lwT
def rX7_swaps : Room := { frames := 0, cells := 0, slots := 0, locals := 0 }
set_option maxRecDepth 100000 in
set_option maxHeartbeats 4000000 in
theorem kX7_swaps (l : Launch) (D : va_G) (y : Nat → ClassId) (ad : Nat → Nat) (hI : XI ad 8) (v1 : Int32) (v2 : Int32) (u : S) {o : S} (hf : fX7_swaps v1 v2 u = some o) : Met l yX7_swaps wX7_swaps rX7_swaps (va_Pc [.ref (ad 0), .int v1, .int v2] (XW D y ad LM 8 u)) (XQv D y ad LM 8 o) 0 0 (XA ad 8) := by
  refine x_met (bytes := cX7_swaps) (maxL := 4) (ret := none) (own := RX7) (by decide) rfl rfl (Nat.le_of_ble_eq_true rfl) (fun p e s m below meth c ls C0 hK hk hr hw hl => ?_)
  have hl : lv_has ls 4 [(0, .ref (ad 0)), (1, .int v1), (2, .int v2)] := hl
  unfold fX7_swaps at hf
  refine lv_aload_n (pc := 0) C0.1 C0.2.1 dX7_swaps_0 rfl (lv_at hl 0 rfl) ?_
  refine x_get (pc := 1) (v := .ref (ad 4)) C0 hK hw (by decide) ly_m0 rfl inX7 16 (by decide) wf_X7_19 rfl rfl dX7_swaps_1 ?_
  refine lv_iload_n (pc := 4) C0.1 C0.2.1 dX7_swaps_4 rfl (lv_at hl 1 rfl) ?_
  obtain ⟨hi, hf⟩ := gd_e hf
  refine x_iald (pc := 5) C0 hK hw (by decide) ly_m4 hi dX7_swaps_5 ?_
  refine lv_istore_n (pc := 6) (lv' := [(3, .int (u.1 4 v1.toNatClampNeg)), (0, .ref (ad 0)), (1, .int v1), (2, .int v2)]) C0.1 C0.2.1 dX7_swaps_6 rfl hl (by decide) rfl (fun ls hl => ?_)
  refine lv_aload_n (pc := 7) C0.1 C0.2.1 dX7_swaps_7 rfl (lv_at hl 1 rfl) ?_
  refine x_get (pc := 8) (v := .ref (ad 4)) C0 hK hw (by decide) ly_m0 rfl inX7 16 (by decide) wf_X7_19 rfl rfl dX7_swaps_8 ?_
  refine lv_iload_n (pc := 11) C0.1 C0.2.1 dX7_swaps_11 rfl (lv_at hl 2 rfl) ?_
  refine lv_aload_n (pc := 12) C0.1 C0.2.1 dX7_swaps_12 rfl (lv_at hl 1 rfl) ?_
  refine x_get (pc := 13) (v := .ref (ad 4)) C0 hK hw (by decide) ly_m0 rfl inX7 16 (by decide) wf_X7_19 rfl rfl dX7_swaps_13 ?_
  refine lv_iload_n (pc := 16) C0.1 C0.2.1 dX7_swaps_16 rfl (lv_at hl 3 rfl) ?_
  obtain ⟨hi, hf⟩ := gd_e hf
  refine x_iald (pc := 17) C0 hK hw (by decide) ly_m4 hi dX7_swaps_17 ?_
  obtain ⟨hi, hf⟩ := gd_e hf
  obtain ⟨u1, hu, hf⟩ := nm_f hf
  refine x_iast (pc := 18) hI C0 hK hw (by decide) ly_m4 hi hu dX7_swaps_18 (fun H locs hw => ?_)
  refine lv_aload_n (pc := 19) C0.1 C0.2.1 dX7_swaps_19 rfl (lv_at hl 1 rfl) ?_
  refine x_get (pc := 20) (v := .ref (ad 4)) C0 hK hw (by decide) ly_m0 rfl inX7 16 (by decide) wf_X7_19 rfl rfl dX7_swaps_20 ?_
  refine lv_iload_n (pc := 23) C0.1 C0.2.1 dX7_swaps_23 rfl (lv_at hl 3 rfl) ?_
  refine lv_iload_n (pc := 24) C0.1 C0.2.1 dX7_swaps_24 rfl (lv_at hl 0 rfl) ?_
  obtain ⟨hi, hf⟩ := gd_e hf
  obtain ⟨u2, hu, hf⟩ := nm_f hf
  refine x_iast (pc := 25) hI C0 hK hw (by decide) ly_m4 hi hu dX7_swaps_25 (fun H locs hw => ?_)
  exact x_vret (pc := 26) C0 hK hk hr hw (Option.some.inj hf) dX7_swaps_26
def wX7_ordersNext : List Cond := .code yX7_ordersNext cX7_ordersNext 5 (some .boolean) :: lwT
def rX7_ordersNext : Room := { frames := 1, cells := 0, slots := 0, locals := 23 }
set_option maxRecDepth 100000 in
set_option maxHeartbeats 4000000 in
theorem kX7_ordersNext (l : Launch) (D : va_G) (y : Nat → ClassId) (ad : Nat → Nat) (hI : XI ad 8)  (u : S) {o : Int32 × S} (hf : fX7_ordersNext  u = some o) : Met l yX7_ordersNext wX7_ordersNext rX7_ordersNext (va_Pc [.ref (ad 0)] (XW D y ad LM 8 u)) (XQi D y ad LM 8 o) 0 0 (XA ad 8) := by
  refine x_met (bytes := cX7_ordersNext) (maxL := 5) (ret := (some .boolean)) (own := RX7) (by decide) rfl rfl (Nat.le_of_ble_eq_true rfl) (fun p e s m below meth c ls C0 hK hk hr hw hl => ?_)
  have hl : lv_has ls 5 [(0, .ref (ad 0))] := hl
  unfold fX7_ordersNext at hf
  refine lv_aload_n (pc := 0) C0.1 C0.2.1 dX7_ordersNext_0 rfl (lv_at hl 0 rfl) ?_
  obtain ⟨q1, hq1, hf⟩ := bd_e hf
  refine x_backp (pc := 1) hw (x_runV (pc := 1) (As := []) (rest := []) C0 hK hw hl.1 ⟨Nat.zero_le _, Nat.zero_le _⟩ (kX7_trays l D y ad hI  u hq1) (by decide) ly_m0 rfl rfl wc_X7_trays wm_X7_39 wi_X7_trays ws_X7_trays wn_X7 ⟨rfl, rfl⟩ hd_X7_trays rfl ⟨Nat.le_of_ble_eq_true rfl, Nat.le_of_ble_eq_true rfl⟩ (Nat.le_of_ble_eq_true rfl) dX7_ordersNext_1) (fun H locs hw => ?_)
  refine lv_iconst (v := 2) (pc := 4) C0.1 C0.2.1 dX7_ordersNext_4 (by decide) ?_
  refine lv_isub (pc := 5) C0.1 C0.2.1 dX7_ordersNext_5 ?_
  refine lv_istore_n (pc := 6) (lv' := [(1, .int (q1 - 2)), (0, .ref (ad 0))]) C0.1 C0.2.1 dX7_ordersNext_6 rfl hl (by decide) rfl (fun ls hl => ?_)
  obtain ⟨e2, he2, hf⟩ := bd_e hf
  refine X_loop (pc := 7) (xpc := 34) (fu := fun a1 => u) (fl := fun a1 => [(1, .int a1), (0, .ref (ad 0))]) (fun a1 r hf hE hG H locs ls hw hl => ?_) he2 (fun H locs ls hw hl => ?_) hw hl
  · unfold gX7_ordersNext_7 at hf
    refine lv_iload_n (pc := 7) C0.1 C0.2.1 dX7_ordersNext_7 rfl (lv_at hl 0 rfl) ?_
    refine lv_if_lt (tgt := 34) (pc := 8) C0.1 C0.2.1 dX7_ordersNext_8 (by decide) (fun hc => ?_) (fun hc => ?_)
    · have hf := if_t hf hc
      exact hE _ (Option.some.inj hf).symm H locs ls hw (lv_sub hl [0, 1] rfl)
    · have hf := if_f hf hc
      refine lv_aload_n (pc := 11) C0.1 C0.2.1 dX7_ordersNext_11 rfl (lv_at hl 1 rfl) ?_
      refine x_get (pc := 12) (v := .ref (ad 4)) C0 hK hw (by decide) ly_m0 rfl inX7 16 (by decide) wf_X7_19 rfl rfl dX7_ordersNext_12 ?_
      refine lv_iload_n (pc := 15) C0.1 C0.2.1 dX7_ordersNext_15 rfl (lv_at hl 0 rfl) ?_
      obtain ⟨hi, hf⟩ := gd_e hf
      refine x_iald (pc := 16) C0 hK hw (by decide) ly_m4 hi dX7_ordersNext_16 ?_
      refine lv_aload_n (pc := 17) C0.1 C0.2.1 dX7_ordersNext_17 rfl (lv_at hl 1 rfl) ?_
      refine x_get (pc := 18) (v := .ref (ad 4)) C0 hK hw (by decide) ly_m0 rfl inX7 16 (by decide) wf_X7_19 rfl rfl dX7_ordersNext_18 ?_
      refine lv_iload_n (pc := 21) C0.1 C0.2.1 dX7_ordersNext_21 rfl (lv_at hl 0 rfl) ?_
      refine lv_iconst (v := 1) (pc := 22) C0.1 C0.2.1 dX7_ordersNext_22 (by decide) ?_
      refine lv_iadd (pc := 23) C0.1 C0.2.1 dX7_ordersNext_23 ?_
      obtain ⟨hi, hf⟩ := gd_e hf
      refine x_iald (pc := 24) C0 hK hw (by decide) ly_m4 hi dX7_ordersNext_24 ?_
      refine lv_icmp_le (tgt := 34) (pc := 25) C0.1 C0.2.1 dX7_ordersNext_25 (by decide) (fun hc => ?_) (fun hc => ?_)
      · have hf := if_t hf hc
        exact hE _ (Option.some.inj hf).symm H locs ls hw (lv_sub hl [0, 1] rfl)
      · have hf := if_f hf hc
        refine lv_iinc (pc := 28) (v := a1 + (-1)) (lv' := [(1, .int (a1 + (-1))), (0, .ref (ad 0))]) C0.1 C0.2.1 dX7_ordersNext_28 hl (k := 0) rfl (congrArg (HAdd.hAdd _) (by decide)) (by decide) rfl (fun ls hl => ?_)
        refine lv_goto (tgt := 7) (pc := 31) C0.1 C0.2.1 dX7_ordersNext_31 (by decide) ?_
        exact hG _ (Option.some.inj hf).symm H locs ls hw (lv_sub hl [0, 1] rfl)
  · skip
    refine lv_iload_n (pc := 34) C0.1 C0.2.1 dX7_ordersNext_34 rfl (lv_at hl 0 rfl) ?_
    refine lv_if_ge (tgt := 40) (pc := 35) C0.1 C0.2.1 dX7_ordersNext_35 (by decide) (fun hc => ?_) (fun hc => ?_)
    · have hf := if_t hf hc
      refine lv_aload_n (pc := 40) C0.1 C0.2.1 dX7_ordersNext_40 rfl (lv_at hl 1 rfl) ?_
      obtain ⟨q3, hq3, hf⟩ := bd_e hf
      refine x_backp (pc := 41) hw (x_runV (pc := 41) (As := []) (rest := []) C0 hK hw hl.1 ⟨Nat.zero_le _, Nat.zero_le _⟩ (kX7_trays l D y ad hI  u hq3) (by decide) ly_m0 rfl rfl wc_X7_trays wm_X7_39 wi_X7_trays ws_X7_trays wn_X7 ⟨rfl, rfl⟩ hd_X7_trays rfl ⟨Nat.le_of_ble_eq_true rfl, Nat.le_of_ble_eq_true rfl⟩ (Nat.le_of_ble_eq_true rfl) dX7_ordersNext_41) (fun H locs hw => ?_)
      refine lv_iconst (v := 1) (pc := 44) C0.1 C0.2.1 dX7_ordersNext_44 (by decide) ?_
      refine lv_isub (pc := 45) C0.1 C0.2.1 dX7_ordersNext_45 ?_
      refine lv_istore_n (pc := 46) (lv' := [(2, .int (q3 - 1)), (1, .int e2), (0, .ref (ad 0))]) C0.1 C0.2.1 dX7_ordersNext_46 rfl hl (by decide) rfl (fun ls hl => ?_)
      obtain ⟨e4, he4, hf⟩ := bd_e hf
      refine X_loop (pc := 47) (xpc := 68) (fu := fun a1 => u) (fl := fun a1 => [(2, .int a1), (1, .int e2), (0, .ref (ad 0))]) (fun a1 r hf hE hG H locs ls hw hl => ?_) he4 (fun H locs ls hw hl => ?_) hw hl
      · unfold gX7_ordersNext_47 at hf
        refine lv_aload_n (pc := 47) C0.1 C0.2.1 dX7_ordersNext_47 rfl (lv_at hl 2 rfl) ?_
        refine x_get (pc := 48) (v := .ref (ad 4)) C0 hK hw (by decide) ly_m0 rfl inX7 16 (by decide) wf_X7_19 rfl rfl dX7_ordersNext_48 ?_
        refine lv_iload_n (pc := 51) C0.1 C0.2.1 dX7_ordersNext_51 rfl (lv_at hl 0 rfl) ?_
        obtain ⟨hi, hf⟩ := gd_e hf
        refine x_iald (pc := 52) C0 hK hw (by decide) ly_m4 hi dX7_ordersNext_52 ?_
        refine lv_aload_n (pc := 53) C0.1 C0.2.1 dX7_ordersNext_53 rfl (lv_at hl 2 rfl) ?_
        refine x_get (pc := 54) (v := .ref (ad 4)) C0 hK hw (by decide) ly_m0 rfl inX7 16 (by decide) wf_X7_19 rfl rfl dX7_ordersNext_54 ?_
        refine lv_iload_n (pc := 57) C0.1 C0.2.1 dX7_ordersNext_57 rfl (lv_at hl 1 rfl) ?_
        obtain ⟨hi, hf⟩ := gd_e hf
        refine x_iald (pc := 58) C0 hK hw (by decide) ly_m4 hi dX7_ordersNext_58 ?_
        refine lv_icmp_ge (tgt := 68) (pc := 59) C0.1 C0.2.1 dX7_ordersNext_59 (by decide) (fun hc => ?_) (fun hc => ?_)
        · have hf := if_t hf hc
          exact hE _ (Option.some.inj hf).symm H locs ls hw (lv_sub hl [0, 1, 2] rfl)
        · have hf := if_f hf hc
          refine lv_iinc (pc := 62) (v := a1 + (-1)) (lv' := [(2, .int (a1 + (-1))), (1, .int e2), (0, .ref (ad 0))]) C0.1 C0.2.1 dX7_ordersNext_62 hl (k := 0) rfl (congrArg (HAdd.hAdd _) (by decide)) (by decide) rfl (fun ls hl => ?_)
          refine lv_goto (tgt := 47) (pc := 65) C0.1 C0.2.1 dX7_ordersNext_65 (by decide) ?_
          exact hG _ (Option.some.inj hf).symm H locs ls hw (lv_sub hl [0, 1, 2] rfl)
      · skip
        refine lv_aload_n (pc := 68) C0.1 C0.2.1 dX7_ordersNext_68 rfl (lv_at hl 2 rfl) ?_
        refine lv_iload_n (pc := 69) C0.1 C0.2.1 dX7_ordersNext_69 rfl (lv_at hl 1 rfl) ?_
        refine lv_iload_n (pc := 70) C0.1 C0.2.1 dX7_ordersNext_70 rfl (lv_at hl 0 rfl) ?_
        obtain ⟨q5, hq5, hf⟩ := bd_e hf
        refine x_backv (pc := 71) hw (x_runV (pc := 71) (As := [.int e2, .int e4]) (rest := []) C0 hK hw hl.1 ⟨Nat.zero_le _, Nat.zero_le _⟩ (kX7_swaps l D y ad hI e2 e4 u hq5) (by decide) ly_m0 rfl rfl wc_X7_swaps wm_X7_199 wi_X7_swaps ws_X7_swaps wn_X7 ⟨rfl, rfl⟩ hd_X7_swaps rfl ⟨Nat.le_of_ble_eq_true rfl, Nat.le_of_ble_eq_true rfl⟩ (Nat.le_of_ble_eq_true rfl) dX7_ordersNext_71) (fun H locs hw => ?_)
        refine lv_aload_n (pc := 74) C0.1 C0.2.1 dX7_ordersNext_74 rfl (lv_at hl 2 rfl) ?_
        obtain ⟨q6, hq6, hf⟩ := bd_e hf
        refine x_backp (pc := 75) hw (x_runV (pc := 75) (As := []) (rest := []) C0 hK hw hl.1 ⟨Nat.zero_le _, Nat.zero_le _⟩ (kX7_trays l D y ad hI  q5 hq6) (by decide) ly_m0 rfl rfl wc_X7_trays wm_X7_39 wi_X7_trays ws_X7_trays wn_X7 ⟨rfl, rfl⟩ hd_X7_trays rfl ⟨Nat.le_of_ble_eq_true rfl, Nat.le_of_ble_eq_true rfl⟩ (Nat.le_of_ble_eq_true rfl) dX7_ordersNext_75) (fun H locs hw => ?_)
        refine lv_iconst (v := 1) (pc := 78) C0.1 C0.2.1 dX7_ordersNext_78 (by decide) ?_
        refine lv_isub (pc := 79) C0.1 C0.2.1 dX7_ordersNext_79 ?_
        refine lv_istore_n (pc := 80) (lv' := [(3, .int (q6 - 1)), (2, .int e4), (1, .int e2), (0, .ref (ad 0))]) C0.1 C0.2.1 dX7_ordersNext_80 rfl hl (by decide) rfl (fun ls hl => ?_)
        refine lv_iload_n (pc := 81) C0.1 C0.2.1 dX7_ordersNext_81 rfl (lv_at hl 2 rfl) ?_
        refine lv_iconst (v := 1) (pc := 82) C0.1 C0.2.1 dX7_ordersNext_82 (by decide) ?_
        refine lv_iadd (pc := 83) C0.1 C0.2.1 dX7_ordersNext_83 ?_
        refine lv_istore (pc := 84) (lv' := [(4, .int (e2 + 1)), (3, .int (q6 - 1)), (2, .int e4), (1, .int e2), (0, .ref (ad 0))]) C0.1 C0.2.1 dX7_ordersNext_84 hl (by decide) rfl (fun ls hl => ?_)
        obtain ⟨e7, he7, hf⟩ := bd_e hf
        refine X_loop (pc := 86) (xpc := 108) (fu := fun a1 => a1.2.2) (fl := fun a1 => [(4, .int a1.2.1), (3, .int a1.1), (2, .int e4), (1, .int e2), (0, .ref (ad 0))]) (fun a1 r hf hE hG H locs ls hw hl => ?_) he7 (fun H locs ls hw hl => ?_) hw hl
        · unfold gX7_ordersNext_86 at hf
          refine lv_iload (pc := 86) C0.1 C0.2.1 dX7_ordersNext_86 (lv_at hl 0 rfl) ?_
          refine lv_iload_n (pc := 88) C0.1 C0.2.1 dX7_ordersNext_88 rfl (lv_at hl 1 rfl) ?_
          refine lv_icmp_ge (tgt := 108) (pc := 89) C0.1 C0.2.1 dX7_ordersNext_89 (by decide) (fun hc => ?_) (fun hc => ?_)
          · have hf := if_t hf hc
            exact hE _ (Option.some.inj hf).symm H locs ls hw (lv_sub hl [0, 1, 2, 3, 4] rfl)
          · have hf := if_f hf hc
            refine lv_aload_n (pc := 92) C0.1 C0.2.1 dX7_ordersNext_92 rfl (lv_at hl 4 rfl) ?_
            refine lv_iload (pc := 93) C0.1 C0.2.1 dX7_ordersNext_93 (lv_at hl 0 rfl) ?_
            refine lv_iload_n (pc := 95) C0.1 C0.2.1 dX7_ordersNext_95 rfl (lv_at hl 1 rfl) ?_
            obtain ⟨q8, hq8, hf⟩ := bd_e hf
            refine x_backv (pc := 96) hw (x_runV (pc := 96) (As := [.int a1.2.1, .int a1.1]) (rest := []) C0 hK hw hl.1 ⟨Nat.zero_le _, Nat.zero_le _⟩ (kX7_swaps l D y ad hI a1.2.1 a1.1 a1.2.2 hq8) (by decide) ly_m0 rfl rfl wc_X7_swaps wm_X7_199 wi_X7_swaps ws_X7_swaps wn_X7 ⟨rfl, rfl⟩ hd_X7_swaps rfl ⟨Nat.le_of_ble_eq_true rfl, Nat.le_of_ble_eq_true rfl⟩ (Nat.le_of_ble_eq_true rfl) dX7_ordersNext_96) (fun H locs hw => ?_)
            refine lv_iinc (pc := 99) (v := a1.1 + (-1)) (lv' := [(3, .int (a1.1 + (-1))), (4, .int a1.2.1), (2, .int e4), (1, .int e2), (0, .ref (ad 0))]) C0.1 C0.2.1 dX7_ordersNext_99 hl (k := 1) rfl (congrArg (HAdd.hAdd _) (by decide)) (by decide) rfl (fun ls hl => ?_)
            refine lv_iinc (pc := 102) (v := a1.2.1 + 1) (lv' := [(4, .int (a1.2.1 + 1)), (3, .int (a1.1 + (-1))), (2, .int e4), (1, .int e2), (0, .ref (ad 0))]) C0.1 C0.2.1 dX7_ordersNext_102 hl (k := 1) rfl rfl (by decide) rfl (fun ls hl => ?_)
            refine lv_goto (tgt := 86) (pc := 105) C0.1 C0.2.1 dX7_ordersNext_105 (by decide) ?_
            exact hG _ (Option.some.inj hf).symm H locs ls hw (lv_sub hl [0, 1, 2, 3, 4] rfl)
        · skip
          refine lv_iconst (v := 1) (pc := 108) C0.1 C0.2.1 dX7_ordersNext_108 (by decide) ?_
          exact x_zret (pc := 109) C0 hK hk hr hw rfl (Option.some.inj hf) dX7_ordersNext_109
    · have hf := if_f hf hc
      refine lv_iconst (v := 0) (pc := 38) C0.1 C0.2.1 dX7_ordersNext_38 (by decide) ?_
      exact x_zret (pc := 39) C0 hK hk hr hw rfl (Option.some.inj hf) dX7_ordersNext_39
def wX7_comesTo : List Cond := .code yX7_comesTo cX7_comesTo 2 (some .int) :: lwT
def rX7_comesTo : Room := { frames := 8, cells := 0, slots := 0, locals := 184 }
set_option maxRecDepth 100000 in
set_option maxHeartbeats 4000000 in
theorem kX7_comesTo (l : Launch) (D : va_G) (y : Nat → ClassId) (ad : Nat → Nat) (hI : XI ad 8) (v1 : Int32) (u : S) {o : Int32} (hf : fX7_comesTo v1 u = some o) : Met l yX7_comesTo wX7_comesTo rX7_comesTo (va_Pc [.ref (ad 0), .int v1] (XW D y ad LM 8 u)) (XQi D y ad LM 8 (o, u)) 0 0 (XA ad 8) := by
  refine x_met (bytes := cX7_comesTo) (maxL := 2) (ret := (some .int)) (own := RX7) (by decide) rfl rfl (Nat.le_of_ble_eq_true rfl) (fun p e s m below meth c ls C0 hK hk hr hw hl => ?_)
  have hl : lv_has ls 2 [(0, .ref (ad 0)), (1, .int v1)] := hl
  unfold fX7_comesTo at hf
  refine lv_iload_n (pc := 0) C0.1 C0.2.1 dX7_comesTo_0 rfl (lv_at hl 1 rfl) ?_
  by_cases hc0 : v1 = 0
  · have hf := if_t hf hc0
    refine lv_tableIn (tgt := 28) (pc := 1) C0.1 C0.2.1 dX7_comesTo_1 (by rw [hc0]; decide) (by rw [hc0]; decide) (by rw [hc0]; rfl) (by decide) ?_
    refine lv_aload_n (pc := 28) C0.1 C0.2.1 dX7_comesTo_28 rfl (lv_at hl 0 rfl) ?_
    obtain ⟨q1, hq1, hf⟩ := bd_e hf
    refine x_backp (pc := 29) hw (x_runV (pc := 29) (As := []) (rest := []) C0 hK hw hl.1 ⟨Nat.zero_le _, Nat.zero_le _⟩ (kX7_trays l D y ad hI  u hq1) (by decide) ly_m0 rfl rfl wc_X7_trays wm_X7_39 wi_X7_trays ws_X7_trays wn_X7 ⟨rfl, rfl⟩ hd_X7_trays rfl ⟨Nat.le_of_ble_eq_true rfl, Nat.le_of_ble_eq_true rfl⟩ (Nat.le_of_ble_eq_true rfl) dX7_comesTo_29) (fun H locs hw => ?_)
    refine lv_aload_n (pc := 32) C0.1 C0.2.1 dX7_comesTo_32 rfl (lv_at hl 0 rfl) ?_
    obtain ⟨q2, hq2, hf⟩ := bd_e hf
    refine x_backp (pc := 33) hw (x_runV (pc := 33) (As := []) (rest := [.int q1]) C0 hK hw hl.1 ⟨Nat.zero_le _, Nat.zero_le _⟩ (kX7_inBox l D y ad hI  u hq2) (by decide) ly_m0 rfl rfl wc_X7_inBox wm_X7_169 wi_X7_inBox ws_X7_inBox wn_X7 ⟨rfl, rfl⟩ hd_X7_inBox rfl ⟨Nat.le_of_ble_eq_true rfl, Nat.le_of_ble_eq_true rfl⟩ (Nat.le_of_ble_eq_true rfl) dX7_comesTo_33) (fun H locs hw => ?_)
    refine lv_isub (pc := 36) C0.1 C0.2.1 dX7_comesTo_36 ?_
    exact x_iret (pc := 37) C0 hK hk hr hw (congrArg (fun z => (z, u)) (Option.some.inj hf)) dX7_comesTo_37
  · have hf := if_f hf hc0
    by_cases hc1 : v1 = 1
    · have hf := if_t hf hc1
      refine lv_tableIn (tgt := 38) (pc := 1) C0.1 C0.2.1 dX7_comesTo_1 (by rw [hc1]; decide) (by rw [hc1]; decide) (by rw [hc1]; rfl) (by decide) ?_
      refine lv_aload_n (pc := 38) C0.1 C0.2.1 dX7_comesTo_38 rfl (lv_at hl 0 rfl) ?_
      obtain ⟨q3, hq3, hf⟩ := bd_e hf
      refine x_backp (pc := 39) hw (x_runV (pc := 39) (As := []) (rest := []) C0 hK hw hl.1 ⟨Nat.zero_le _, Nat.zero_le _⟩ (kX7_faults l D y ad hI  u hq3) (by decide) ly_m0 rfl rfl wc_X7_faults wm_X7_202 wi_X7_faults ws_X7_faults wn_X7 ⟨rfl, rfl⟩ hd_X7_faults rfl ⟨Nat.le_of_ble_eq_true rfl, Nat.le_of_ble_eq_true rfl⟩ (Nat.le_of_ble_eq_true rfl) dX7_comesTo_39) (fun H locs hw => ?_)
      exact x_iret (pc := 42) C0 hK hk hr hw (congrArg (fun z => (z, u)) (Option.some.inj hf)) dX7_comesTo_42
    · have hf := if_f hf hc1
      by_cases hc2 : v1 = 2
      · have hf := if_t hf hc2
        refine lv_tableIn (tgt := 43) (pc := 1) C0.1 C0.2.1 dX7_comesTo_1 (by rw [hc2]; decide) (by rw [hc2]; decide) (by rw [hc2]; rfl) (by decide) ?_
        refine lv_aload_n (pc := 43) C0.1 C0.2.1 dX7_comesTo_43 rfl (lv_at hl 0 rfl) ?_
        obtain ⟨q4, hq4, hf⟩ := bd_e hf
        refine x_backp (pc := 44) hw (x_runV (pc := 44) (As := []) (rest := []) C0 hK hw hl.1 ⟨Nat.zero_le _, Nat.zero_le _⟩ (kX7_boxHeight l D y ad hI  u hq4) (by decide) ly_m0 rfl rfl wc_X7_boxHeight wm_X7_127 wi_X7_boxHeight ws_X7_boxHeight wn_X7 ⟨rfl, rfl⟩ hd_X7_boxHeight rfl ⟨Nat.le_of_ble_eq_true rfl, Nat.le_of_ble_eq_true rfl⟩ (Nat.le_of_ble_eq_true rfl) dX7_comesTo_44) (fun H locs hw => ?_)
        exact x_iret (pc := 47) C0 hK hk hr hw (congrArg (fun z => (z, u)) (Option.some.inj hf)) dX7_comesTo_47
      · have hf := if_f hf hc2
        refine lv_tableOut (tgt := 48) (pc := 1) C0.1 C0.2.1 dX7_comesTo_1 (by have h0 := lv_neT hc0 (a := 0) (by decide); have h1 := lv_neT hc1 (a := 1) (by decide); have h2 := lv_neT hc2 (a := 2) (by decide); omega) (by decide) ?_
        refine lv_aload_n (pc := 48) C0.1 C0.2.1 dX7_comesTo_48 rfl (lv_at hl 0 rfl) ?_
        obtain ⟨q5, hq5, hf⟩ := bd_e hf
        refine x_backp (pc := 49) hw (x_runV (pc := 49) (As := []) (rest := []) C0 hK hw hl.1 ⟨Nat.zero_le _, Nat.zero_le _⟩ (kX7_air l D y ad hI  u hq5) (by decide) ly_m0 rfl rfl wc_X7_air wm_X7_205 wi_X7_air ws_X7_air wn_X7 ⟨rfl, rfl⟩ hd_X7_air rfl ⟨Nat.le_of_ble_eq_true rfl, Nat.le_of_ble_eq_true rfl⟩ (Nat.le_of_ble_eq_true rfl) dX7_comesTo_49) (fun H locs hw => ?_)
        exact x_iret (pc := 52) C0 hK hk hr hw (congrArg (fun z => (z, u)) (Option.some.inj hf)) dX7_comesTo_52
def wX7_isBetter : List Cond := .code yX7_isBetter cX7_isBetter 2 (some .boolean) :: lwT
def rX7_isBetter : Room := { frames := 9, cells := 0, slots := 0, locals := 205 }
set_option maxRecDepth 100000 in
set_option maxHeartbeats 4000000 in
theorem kX7_isBetter (l : Launch) (D : va_G) (y : Nat → ClassId) (ad : Nat → Nat) (hI : XI ad 8)  (u : S) {o : Int32} (hf : fX7_isBetter  u = some o) : Met l yX7_isBetter wX7_isBetter rX7_isBetter (va_Pc [.ref (ad 0)] (XW D y ad LM 8 u)) (XQi D y ad LM 8 (o, u)) 0 0 (XA ad 8) := by
  refine x_met (bytes := cX7_isBetter) (maxL := 2) (ret := (some .boolean)) (own := RX7) (by decide) rfl rfl (Nat.le_of_ble_eq_true rfl) (fun p e s m below meth c ls C0 hK hk hr hw hl => ?_)
  have hl : lv_has ls 2 [(0, .ref (ad 0))] := hl
  unfold fX7_isBetter at hf
  refine lv_iconst (v := 0) (pc := 0) C0.1 C0.2.1 dX7_isBetter_0 (by decide) ?_
  refine lv_istore_n (pc := 1) (lv' := [(1, .int 0), (0, .ref (ad 0))]) C0.1 C0.2.1 dX7_isBetter_1 rfl hl (by decide) rfl (fun ls hl => ?_)
  obtain ⟨e1, he1, hf⟩ := bd_e hf
  refine X_loopR (pc := 2) (xpc := 47) (fu := fun a1 => u) (fl := fun a1 => [(1, .int a1), (0, .ref (ad 0))]) (o := o) (fun a1 r hf hX hE hG H locs ls hw hl => ?_) he1 ?_ ?_ hw hl
  · unfold gX7_isBetter_2 at hf
    refine lv_iload_n (pc := 2) C0.1 C0.2.1 dX7_isBetter_2 rfl (lv_at hl 0 rfl) ?_
    refine lv_iconst (v := 4) (pc := 3) C0.1 C0.2.1 dX7_isBetter_3 (by decide) ?_
    refine lv_icmp_ge (tgt := 47) (pc := 4) C0.1 C0.2.1 dX7_isBetter_4 (by decide) (fun hc => ?_) (fun hc => ?_)
    · have hf := if_t hf hc
      exact hE _ (Option.some.inj hf).symm H locs ls hw (lv_sub hl [0, 1] rfl)
    · have hf := if_f hf hc
      refine lv_aload_n (pc := 7) C0.1 C0.2.1 dX7_isBetter_7 rfl (lv_at hl 1 rfl) ?_
      refine lv_iload_n (pc := 8) C0.1 C0.2.1 dX7_isBetter_8 rfl (lv_at hl 0 rfl) ?_
      obtain ⟨q2, hq2, hf⟩ := bd_e hf
      refine x_backp (pc := 9) hw (x_runV (pc := 9) (As := [.int a1]) (rest := []) C0 hK hw hl.1 ⟨Nat.zero_le _, Nat.zero_le _⟩ (kX7_comesTo l D y ad hI a1 u hq2) (by decide) ly_m0 rfl rfl wc_X7_comesTo wm_X7_208 wi_X7_comesTo ws_X7_comesTo wn_X7 ⟨rfl, rfl⟩ hd_X7_comesTo rfl ⟨Nat.le_of_ble_eq_true rfl, Nat.le_of_ble_eq_true rfl⟩ (Nat.le_of_ble_eq_true rfl) dX7_isBetter_9) (fun H locs hw => ?_)
      refine lv_aload_n (pc := 12) C0.1 C0.2.1 dX7_isBetter_12 rfl (lv_at hl 1 rfl) ?_
      refine x_get (pc := 13) (v := .ref (ad 6)) C0 hK hw (by decide) ly_m0 rfl inX7 18 (by decide) wf_X7_25 rfl rfl dX7_isBetter_13 ?_
      refine lv_iload_n (pc := 16) C0.1 C0.2.1 dX7_isBetter_16 rfl (lv_at hl 0 rfl) ?_
      obtain ⟨hi, hf⟩ := gd_e hf
      refine x_iald (pc := 17) C0 hK hw (by decide) ly_m6 hi dX7_isBetter_17 ?_
      refine lv_icmp_eq (tgt := 41) (pc := 18) C0.1 C0.2.1 dX7_isBetter_18 (by decide) (fun hc => ?_) (fun hc => ?_)
      · have hf := if_t hf hc
        refine lv_iinc (pc := 41) (v := a1 + 1) (lv' := [(1, .int (a1 + 1)), (0, .ref (ad 0))]) C0.1 C0.2.1 dX7_isBetter_41 hl (k := 0) rfl rfl (by decide) rfl (fun ls hl => ?_)
        refine lv_goto (tgt := 2) (pc := 44) C0.1 C0.2.1 dX7_isBetter_44 (by decide) ?_
        exact hG _ (Option.some.inj hf).symm H locs ls hw (lv_sub hl [0, 1] rfl)
      · have hf := if_f hf hc
        refine lv_aload_n (pc := 21) C0.1 C0.2.1 dX7_isBetter_21 rfl (lv_at hl 1 rfl) ?_
        refine lv_iload_n (pc := 22) C0.1 C0.2.1 dX7_isBetter_22 rfl (lv_at hl 0 rfl) ?_
        obtain ⟨q3, hq3, hf⟩ := bd_e hf
        refine x_backp (pc := 23) hw (x_runV (pc := 23) (As := [.int a1]) (rest := []) C0 hK hw hl.1 ⟨Nat.zero_le _, Nat.zero_le _⟩ (kX7_comesTo l D y ad hI a1 u hq3) (by decide) ly_m0 rfl rfl wc_X7_comesTo wm_X7_208 wi_X7_comesTo ws_X7_comesTo wn_X7 ⟨rfl, rfl⟩ hd_X7_comesTo rfl ⟨Nat.le_of_ble_eq_true rfl, Nat.le_of_ble_eq_true rfl⟩ (Nat.le_of_ble_eq_true rfl) dX7_isBetter_23) (fun H locs hw => ?_)
        refine lv_aload_n (pc := 26) C0.1 C0.2.1 dX7_isBetter_26 rfl (lv_at hl 1 rfl) ?_
        refine x_get (pc := 27) (v := .ref (ad 6)) C0 hK hw (by decide) ly_m0 rfl inX7 18 (by decide) wf_X7_25 rfl rfl dX7_isBetter_27 ?_
        refine lv_iload_n (pc := 30) C0.1 C0.2.1 dX7_isBetter_30 rfl (lv_at hl 0 rfl) ?_
        obtain ⟨hi, hf⟩ := gd_e hf
        refine x_iald (pc := 31) C0 hK hw (by decide) ly_m6 hi dX7_isBetter_31 ?_
        refine lv_icmp_ge (tgt := 39) (pc := 32) C0.1 C0.2.1 dX7_isBetter_32 (by decide) (fun hc => ?_) (fun hc => ?_)
        · have hf := if_t hf hc
          refine lv_iconst (v := 0) (pc := 39) C0.1 C0.2.1 dX7_isBetter_39 (by decide) ?_
          exact x_zret (pc := 40) C0 hK hk hr hw rfl (congrArg (fun z => (z, u)) (hX _ (Option.some.inj hf).symm)) dX7_isBetter_40
        · have hf := if_f hf hc
          refine lv_iconst (v := 1) (pc := 35) C0.1 C0.2.1 dX7_isBetter_35 (by decide) ?_
          refine lv_goto (tgt := 40) (pc := 36) C0.1 C0.2.1 dX7_isBetter_36 (by decide) ?_
          exact x_zret (pc := 40) C0 hK hk hr hw rfl (congrArg (fun z => (z, u)) (hX _ (Option.some.inj hf).symm)) dX7_isBetter_40
  · intro x hx
    subst hx
    exact Option.some.inj hf
  · intro e1x he H locs ls hw hl
    subst he
    have hf := sum_r hf
    refine lv_iconst (v := 0) (pc := 47) C0.1 C0.2.1 dX7_isBetter_47 (by decide) ?_
    exact x_zret (pc := 48) C0 hK hk hr hw rfl (congrArg (fun z => (z, u)) (Option.some.inj hf)) dX7_isBetter_48
def wX7_ordersBest : List Cond := .code yX7_ordersBest cX7_ordersBest 4 none :: lwT
def rX7_ordersBest : Room := { frames := 10, cells := 0, slots := 0, locals := 226 }
set_option maxRecDepth 100000 in
set_option maxHeartbeats 4000000 in
theorem kX7_ordersBest (l : Launch) (D : va_G) (y : Nat → ClassId) (ad : Nat → Nat) (hI : XI ad 8)  (u : S) {o : S} (hf : fX7_ordersBest  u = some o) : Met l yX7_ordersBest wX7_ordersBest rX7_ordersBest (va_Pc [.ref (ad 0)] (XW D y ad LM 8 u)) (XQv D y ad LM 8 o) 0 0 (XA ad 8) := by
  refine x_met (bytes := cX7_ordersBest) (maxL := 4) (ret := none) (own := RX7) (by decide) rfl rfl (Nat.le_of_ble_eq_true rfl) (fun p e s m below meth c ls C0 hK hk hr hw hl => ?_)
  have hl : lv_has ls 4 [(0, .ref (ad 0))] := hl
  unfold fX7_ordersBest at hf
  refine lv_iconst (v := 0) (pc := 0) C0.1 C0.2.1 dX7_ordersBest_0 (by decide) ?_
  refine lv_istore_n (pc := 1) (lv' := [(1, .int 0), (0, .ref (ad 0))]) C0.1 C0.2.1 dX7_ordersBest_1 rfl hl (by decide) rfl (fun ls hl => ?_)
  obtain ⟨e1, he1, hf⟩ := bd_e hf
  refine X_loop (pc := 2) (xpc := 23) (fu := fun a1 => a1.2) (fl := fun a1 => [(1, .int a1.1), (0, .ref (ad 0))]) (fun a1 r hf hE hG H locs ls hw hl => ?_) he1 (fun H locs ls hw hl => ?_) hw hl
  · unfold gX7_ordersBest_2 at hf
    refine lv_iload_n (pc := 2) C0.1 C0.2.1 dX7_ordersBest_2 rfl (lv_at hl 0 rfl) ?_
    refine lv_aload_n (pc := 3) C0.1 C0.2.1 dX7_ordersBest_3 rfl (lv_at hl 1 rfl) ?_
    obtain ⟨q2, hq2, hf⟩ := bd_e hf
    refine x_backp (pc := 4) hw (x_runV (pc := 4) (As := []) (rest := [.int a1.1]) C0 hK hw hl.1 ⟨Nat.zero_le _, Nat.zero_le _⟩ (kX7_trays l D y ad hI  a1.2 hq2) (by decide) ly_m0 rfl rfl wc_X7_trays wm_X7_39 wi_X7_trays ws_X7_trays wn_X7 ⟨rfl, rfl⟩ hd_X7_trays rfl ⟨Nat.le_of_ble_eq_true rfl, Nat.le_of_ble_eq_true rfl⟩ (Nat.le_of_ble_eq_true rfl) dX7_ordersBest_4) (fun H locs hw => ?_)
    refine lv_icmp_ge (tgt := 23) (pc := 7) C0.1 C0.2.1 dX7_ordersBest_7 (by decide) (fun hc => ?_) (fun hc => ?_)
    · have hf := if_t hf hc
      exact hE _ (Option.some.inj hf).symm H locs ls hw (lv_sub hl [0, 1] rfl)
    · have hf := if_f hf hc
      refine lv_aload_n (pc := 10) C0.1 C0.2.1 dX7_ordersBest_10 rfl (lv_at hl 1 rfl) ?_
      refine x_get (pc := 11) (v := .ref (ad 4)) C0 hK hw (by decide) ly_m0 rfl inX7 16 (by decide) wf_X7_19 rfl rfl dX7_ordersBest_11 ?_
      refine lv_iload_n (pc := 14) C0.1 C0.2.1 dX7_ordersBest_14 rfl (lv_at hl 0 rfl) ?_
      refine lv_iload_n (pc := 15) C0.1 C0.2.1 dX7_ordersBest_15 rfl (lv_at hl 0 rfl) ?_
      obtain ⟨hi, hf⟩ := gd_e hf
      obtain ⟨u3, hu, hf⟩ := nm_f hf
      refine x_iast (pc := 16) hI C0 hK hw (by decide) ly_m4 hi hu dX7_ordersBest_16 (fun H locs hw => ?_)
      refine lv_iinc (pc := 17) (v := a1.1 + 1) (lv' := [(1, .int (a1.1 + 1)), (0, .ref (ad 0))]) C0.1 C0.2.1 dX7_ordersBest_17 hl (k := 0) rfl rfl (by decide) rfl (fun ls hl => ?_)
      refine lv_goto (tgt := 2) (pc := 20) C0.1 C0.2.1 dX7_ordersBest_20 (by decide) ?_
      exact hG _ (Option.some.inj hf).symm H locs ls hw (lv_sub hl [0, 1] rfl)
  · skip
    refine lv_iconst (v := 1) (pc := 23) C0.1 C0.2.1 dX7_ordersBest_23 (by decide) ?_
    refine lv_istore_n (pc := 24) (lv' := [(1, .int 1), (0, .ref (ad 0))]) C0.1 C0.2.1 dX7_ordersBest_24 rfl hl (by decide) rfl (fun ls hl => ?_)
    refine lv_iconst (v := 1) (pc := 25) C0.1 C0.2.1 dX7_ordersBest_25 (by decide) ?_
    refine lv_istore_n (pc := 26) (lv' := [(2, .int 1), (1, .int 1), (0, .ref (ad 0))]) C0.1 C0.2.1 dX7_ordersBest_26 rfl hl (by decide) rfl (fun ls hl => ?_)
    obtain ⟨e4, he4, hf⟩ := bd_e hf
    refine X_loop (pc := 27) (xpc := 108) (fu := fun a1 => a1.2.2) (fl := fun a1 => [(2, .int a1.2.1), (1, .int a1.1), (0, .ref (ad 0))]) (fun a1 r hf hE hG H locs ls hw hl => ?_) he4 (fun H locs ls hw hl => ?_) hw hl
    · unfold gX7_ordersBest_27 at hf
      refine lv_iload_n (pc := 27) C0.1 C0.2.1 dX7_ordersBest_27 rfl (lv_at hl 0 rfl) ?_
      refine lv_if_eq (tgt := 108) (pc := 28) C0.1 C0.2.1 dX7_ordersBest_28 (by decide) (fun hc => ?_) (fun hc => ?_)
      · have hf := if_t hf hc
        exact hE _ (Option.some.inj hf).symm H locs ls hw (lv_sub hl [0, 1, 2] rfl)
      · have hf := if_f hf hc
        refine lv_aload_n (pc := 31) C0.1 C0.2.1 dX7_ordersBest_31 rfl (lv_at hl 2 rfl) ?_
        obtain ⟨q5, hq5, hf⟩ := bd_e hf
        refine x_backv (pc := 32) hw (x_runV (pc := 32) (As := []) (rest := []) C0 hK hw hl.1 ⟨Nat.zero_le _, Nat.zero_le _⟩ (kX7_packs l D y ad hI  a1.2.2 hq5) (by decide) ly_m0 rfl rfl wc_X7_packs wm_X7_211 wi_X7_packs ws_X7_packs wn_X7 ⟨rfl, rfl⟩ hd_X7_packs rfl ⟨Nat.le_of_ble_eq_true rfl, Nat.le_of_ble_eq_true rfl⟩ (Nat.le_of_ble_eq_true rfl) dX7_ordersBest_32) (fun H locs hw => ?_)
        refine lv_iload_n (pc := 35) C0.1 C0.2.1 dX7_ordersBest_35 rfl (lv_at hl 1 rfl) ?_
        refine lv_if_ne (tgt := 46) (pc := 36) C0.1 C0.2.1 dX7_ordersBest_36 (by decide) (fun hc => ?_) (fun hc => ?_)
        · have hf := if_f hf hc
          refine lv_iconst (v := 0) (pc := 46) C0.1 C0.2.1 dX7_ordersBest_46 (by decide) ?_
          refine lv_istore_n (pc := 47) (lv' := [(3, .int 0), (2, .int a1.2.1), (1, .int a1.1), (0, .ref (ad 0))]) C0.1 C0.2.1 dX7_ordersBest_47 rfl hl (by decide) rfl (fun ls hl => ?_)
          obtain ⟨e6, he6, hf⟩ := bd_e hf
          refine X_loop (pc := 48) (xpc := 70) (fu := fun a2 => a2.2) (fl := fun a2 => [(3, .int a2.1), (2, .int a1.2.1), (1, .int a1.1), (0, .ref (ad 0))]) (fun a2 r hf hE hG H locs ls hw hl => ?_) he6 (fun H locs ls hw hl => ?_) hw hl
          · unfold gX7_ordersBest_48 at hf
            refine lv_iload_n (pc := 48) C0.1 C0.2.1 dX7_ordersBest_48 rfl (lv_at hl 0 rfl) ?_
            refine lv_iconst (v := 4) (pc := 49) C0.1 C0.2.1 dX7_ordersBest_49 (by decide) ?_
            refine lv_icmp_ge (tgt := 70) (pc := 50) C0.1 C0.2.1 dX7_ordersBest_50 (by decide) (fun hc => ?_) (fun hc => ?_)
            · have hf := if_t hf hc
              exact hE _ (Option.some.inj hf).symm H locs ls hw (lv_sub hl [0, 1, 2, 3] rfl)
            · have hf := if_f hf hc
              refine lv_aload_n (pc := 53) C0.1 C0.2.1 dX7_ordersBest_53 rfl (lv_at hl 3 rfl) ?_
              refine x_get (pc := 54) (v := .ref (ad 6)) C0 hK hw (by decide) ly_m0 rfl inX7 18 (by decide) wf_X7_25 rfl rfl dX7_ordersBest_54 ?_
              refine lv_iload_n (pc := 57) C0.1 C0.2.1 dX7_ordersBest_57 rfl (lv_at hl 0 rfl) ?_
              refine lv_aload_n (pc := 58) C0.1 C0.2.1 dX7_ordersBest_58 rfl (lv_at hl 3 rfl) ?_
              refine lv_iload_n (pc := 59) C0.1 C0.2.1 dX7_ordersBest_59 rfl (lv_at hl 0 rfl) ?_
              obtain ⟨q7, hq7, hf⟩ := bd_e hf
              refine x_backp (pc := 60) hw (x_runV (pc := 60) (As := [.int a2.1]) (rest := [.int a2.1, .ref (ad 6)]) C0 hK hw hl.1 ⟨Nat.zero_le _, Nat.zero_le _⟩ (kX7_comesTo l D y ad hI a2.1 a2.2 hq7) (by decide) ly_m0 rfl rfl wc_X7_comesTo wm_X7_208 wi_X7_comesTo ws_X7_comesTo wn_X7 ⟨rfl, rfl⟩ hd_X7_comesTo rfl ⟨Nat.le_of_ble_eq_true rfl, Nat.le_of_ble_eq_true rfl⟩ (Nat.le_of_ble_eq_true rfl) dX7_ordersBest_60) (fun H locs hw => ?_)
              obtain ⟨hi, hf⟩ := gd_e hf
              obtain ⟨u8, hu, hf⟩ := nm_f hf
              refine x_iast (pc := 63) hI C0 hK hw (by decide) ly_m6 hi hu dX7_ordersBest_63 (fun H locs hw => ?_)
              refine lv_iinc (pc := 64) (v := a2.1 + 1) (lv' := [(3, .int (a2.1 + 1)), (2, .int a1.2.1), (1, .int a1.1), (0, .ref (ad 0))]) C0.1 C0.2.1 dX7_ordersBest_64 hl (k := 0) rfl rfl (by decide) rfl (fun ls hl => ?_)
              refine lv_goto (tgt := 48) (pc := 67) C0.1 C0.2.1 dX7_ordersBest_67 (by decide) ?_
              exact hG _ (Option.some.inj hf).symm H locs ls hw (lv_sub hl [0, 1, 2, 3] rfl)
          · skip
            refine lv_iconst (v := 0) (pc := 70) C0.1 C0.2.1 dX7_ordersBest_70 (by decide) ?_
            refine lv_istore_n (pc := 71) (lv' := [(3, .int 0), (2, .int a1.2.1), (1, .int a1.1), (0, .ref (ad 0))]) C0.1 C0.2.1 dX7_ordersBest_71 rfl hl (by decide) rfl (fun ls hl => ?_)
            obtain ⟨e9, he9, hf⟩ := bd_e hf
            refine X_loop (pc := 72) (xpc := 98) (fu := fun a2 => a2.2) (fl := fun a2 => [(3, .int a2.1), (2, .int a1.2.1), (1, .int a1.1), (0, .ref (ad 0))]) (fun a2 r hf hE hG H locs ls hw hl => ?_) he9 (fun H locs ls hw hl => ?_) hw hl
            · unfold gX7_ordersBest_72 at hf
              refine lv_iload_n (pc := 72) C0.1 C0.2.1 dX7_ordersBest_72 rfl (lv_at hl 0 rfl) ?_
              refine lv_aload_n (pc := 73) C0.1 C0.2.1 dX7_ordersBest_73 rfl (lv_at hl 3 rfl) ?_
              obtain ⟨q10, hq10, hf⟩ := bd_e hf
              refine x_backp (pc := 74) hw (x_runV (pc := 74) (As := []) (rest := [.int a2.1]) C0 hK hw hl.1 ⟨Nat.zero_le _, Nat.zero_le _⟩ (kX7_trays l D y ad hI  a2.2 hq10) (by decide) ly_m0 rfl rfl wc_X7_trays wm_X7_39 wi_X7_trays ws_X7_trays wn_X7 ⟨rfl, rfl⟩ hd_X7_trays rfl ⟨Nat.le_of_ble_eq_true rfl, Nat.le_of_ble_eq_true rfl⟩ (Nat.le_of_ble_eq_true rfl) dX7_ordersBest_74) (fun H locs hw => ?_)
              refine lv_icmp_ge (tgt := 98) (pc := 77) C0.1 C0.2.1 dX7_ordersBest_77 (by decide) (fun hc => ?_) (fun hc => ?_)
              · have hf := if_t hf hc
                exact hE _ (Option.some.inj hf).symm H locs ls hw (lv_sub hl [0, 1, 2, 3] rfl)
              · have hf := if_f hf hc
                refine lv_aload_n (pc := 80) C0.1 C0.2.1 dX7_ordersBest_80 rfl (lv_at hl 3 rfl) ?_
                refine x_get (pc := 81) (v := .ref (ad 5)) C0 hK hw (by decide) ly_m0 rfl inX7 17 (by decide) wf_X7_22 rfl rfl dX7_ordersBest_81 ?_
                refine lv_iload_n (pc := 84) C0.1 C0.2.1 dX7_ordersBest_84 rfl (lv_at hl 0 rfl) ?_
                refine lv_aload_n (pc := 85) C0.1 C0.2.1 dX7_ordersBest_85 rfl (lv_at hl 3 rfl) ?_
                refine x_get (pc := 86) (v := .ref (ad 4)) C0 hK hw (by decide) ly_m0 rfl inX7 16 (by decide) wf_X7_19 rfl rfl dX7_ordersBest_86 ?_
                refine lv_iload_n (pc := 89) C0.1 C0.2.1 dX7_ordersBest_89 rfl (lv_at hl 0 rfl) ?_
                obtain ⟨hi, hf⟩ := gd_e hf
                refine x_iald (pc := 90) C0 hK hw (by decide) ly_m4 hi dX7_ordersBest_90 ?_
                obtain ⟨hi, hf⟩ := gd_e hf
                obtain ⟨u11, hu, hf⟩ := nm_f hf
                refine x_iast (pc := 91) hI C0 hK hw (by decide) ly_m5 hi hu dX7_ordersBest_91 (fun H locs hw => ?_)
                refine lv_iinc (pc := 92) (v := a2.1 + 1) (lv' := [(3, .int (a2.1 + 1)), (2, .int a1.2.1), (1, .int a1.1), (0, .ref (ad 0))]) C0.1 C0.2.1 dX7_ordersBest_92 hl (k := 0) rfl rfl (by decide) rfl (fun ls hl => ?_)
                refine lv_goto (tgt := 72) (pc := 95) C0.1 C0.2.1 dX7_ordersBest_95 (by decide) ?_
                exact hG _ (Option.some.inj hf).symm H locs ls hw (lv_sub hl [0, 1, 2, 3] rfl)
            · skip
              refine lv_iconst (v := 0) (pc := 98) C0.1 C0.2.1 dX7_ordersBest_98 (by decide) ?_
              refine lv_istore_n (pc := 99) (lv' := [(1, .int 0), (3, .int e9.1), (2, .int a1.2.1), (0, .ref (ad 0))]) C0.1 C0.2.1 dX7_ordersBest_99 rfl hl (by decide) rfl (fun ls hl => ?_)
              refine lv_aload_n (pc := 100) C0.1 C0.2.1 dX7_ordersBest_100 rfl (lv_at hl 3 rfl) ?_
              obtain ⟨q12, hq12, hf⟩ := bd_e hf
              refine x_back (pc := 101) hw (x_runV (pc := 101) (As := []) (rest := []) C0 hK hw hl.1 ⟨Nat.zero_le _, Nat.zero_le _⟩ (kX7_ordersNext l D y ad hI  e9.2 hq12) (by decide) ly_m0 rfl rfl wc_X7_ordersNext wm_X7_217 wi_X7_ordersNext ws_X7_ordersNext wn_X7 ⟨rfl, rfl⟩ hd_X7_ordersNext rfl ⟨Nat.le_of_ble_eq_true rfl, Nat.le_of_ble_eq_true rfl⟩ (Nat.le_of_ble_eq_true rfl) dX7_ordersBest_101) (fun H locs hw => ?_)
              refine lv_istore_n (pc := 104) (lv' := [(2, .int q12.1), (1, .int 0), (3, .int e9.1), (0, .ref (ad 0))]) C0.1 C0.2.1 dX7_ordersBest_104 rfl hl (by decide) rfl (fun ls hl => ?_)
              refine lv_goto (tgt := 27) (pc := 105) C0.1 C0.2.1 dX7_ordersBest_105 (by decide) ?_
              exact hG _ (Option.some.inj hf).symm H locs ls hw (lv_sub hl [0, 1, 3] rfl)
        · have hf := if_t hf hc
          refine lv_aload_n (pc := 39) C0.1 C0.2.1 dX7_ordersBest_39 rfl (lv_at hl 2 rfl) ?_
          obtain ⟨q13, hq13, hf⟩ := bd_e hf
          refine x_backp (pc := 40) hw (x_runV (pc := 40) (As := []) (rest := []) C0 hK hw hl.1 ⟨Nat.zero_le _, Nat.zero_le _⟩ (kX7_isBetter l D y ad hI  q5 hq13) (by decide) ly_m0 rfl rfl wc_X7_isBetter wm_X7_214 wi_X7_isBetter ws_X7_isBetter wn_X7 ⟨rfl, rfl⟩ hd_X7_isBetter rfl ⟨Nat.le_of_ble_eq_true rfl, Nat.le_of_ble_eq_true rfl⟩ (Nat.le_of_ble_eq_true rfl) dX7_ordersBest_40) (fun H locs hw => ?_)
          refine lv_if_eq (tgt := 98) (pc := 43) C0.1 C0.2.1 dX7_ordersBest_43 (by decide) (fun hc => ?_) (fun hc => ?_)
          · have hf := if_t hf hc
            refine lv_iconst (v := 0) (pc := 98) C0.1 C0.2.1 dX7_ordersBest_98 (by decide) ?_
            refine lv_istore_n (pc := 99) (lv' := [(1, .int 0), (2, .int a1.2.1), (0, .ref (ad 0))]) C0.1 C0.2.1 dX7_ordersBest_99 rfl hl (by decide) rfl (fun ls hl => ?_)
            refine lv_aload_n (pc := 100) C0.1 C0.2.1 dX7_ordersBest_100 rfl (lv_at hl 2 rfl) ?_
            obtain ⟨q14, hq14, hf⟩ := bd_e hf
            refine x_back (pc := 101) hw (x_runV (pc := 101) (As := []) (rest := []) C0 hK hw hl.1 ⟨Nat.zero_le _, Nat.zero_le _⟩ (kX7_ordersNext l D y ad hI  q5 hq14) (by decide) ly_m0 rfl rfl wc_X7_ordersNext wm_X7_217 wi_X7_ordersNext ws_X7_ordersNext wn_X7 ⟨rfl, rfl⟩ hd_X7_ordersNext rfl ⟨Nat.le_of_ble_eq_true rfl, Nat.le_of_ble_eq_true rfl⟩ (Nat.le_of_ble_eq_true rfl) dX7_ordersBest_101) (fun H locs hw => ?_)
            refine lv_istore_n (pc := 104) (lv' := [(2, .int q14.1), (1, .int 0), (0, .ref (ad 0))]) C0.1 C0.2.1 dX7_ordersBest_104 rfl hl (by decide) rfl (fun ls hl => ?_)
            refine lv_goto (tgt := 27) (pc := 105) C0.1 C0.2.1 dX7_ordersBest_105 (by decide) ?_
            exact hG _ (Option.some.inj hf).symm H locs ls hw (lv_sub hl [0, 1, 2] rfl)
          · have hf := if_f hf hc
            refine lv_iconst (v := 0) (pc := 46) C0.1 C0.2.1 dX7_ordersBest_46 (by decide) ?_
            refine lv_istore_n (pc := 47) (lv' := [(3, .int 0), (2, .int a1.2.1), (1, .int a1.1), (0, .ref (ad 0))]) C0.1 C0.2.1 dX7_ordersBest_47 rfl hl (by decide) rfl (fun ls hl => ?_)
            obtain ⟨e15, he15, hf⟩ := bd_e hf
            refine X_loop (pc := 48) (xpc := 70) (fu := fun a2 => a2.2) (fl := fun a2 => [(3, .int a2.1), (2, .int a1.2.1), (1, .int a1.1), (0, .ref (ad 0))]) (fun a2 r hf hE hG H locs ls hw hl => ?_) he15 (fun H locs ls hw hl => ?_) hw hl
            · unfold gX7_ordersBest_48 at hf
              refine lv_iload_n (pc := 48) C0.1 C0.2.1 dX7_ordersBest_48 rfl (lv_at hl 0 rfl) ?_
              refine lv_iconst (v := 4) (pc := 49) C0.1 C0.2.1 dX7_ordersBest_49 (by decide) ?_
              refine lv_icmp_ge (tgt := 70) (pc := 50) C0.1 C0.2.1 dX7_ordersBest_50 (by decide) (fun hc => ?_) (fun hc => ?_)
              · have hf := if_t hf hc
                exact hE _ (Option.some.inj hf).symm H locs ls hw (lv_sub hl [0, 1, 2, 3] rfl)
              · have hf := if_f hf hc
                refine lv_aload_n (pc := 53) C0.1 C0.2.1 dX7_ordersBest_53 rfl (lv_at hl 3 rfl) ?_
                refine x_get (pc := 54) (v := .ref (ad 6)) C0 hK hw (by decide) ly_m0 rfl inX7 18 (by decide) wf_X7_25 rfl rfl dX7_ordersBest_54 ?_
                refine lv_iload_n (pc := 57) C0.1 C0.2.1 dX7_ordersBest_57 rfl (lv_at hl 0 rfl) ?_
                refine lv_aload_n (pc := 58) C0.1 C0.2.1 dX7_ordersBest_58 rfl (lv_at hl 3 rfl) ?_
                refine lv_iload_n (pc := 59) C0.1 C0.2.1 dX7_ordersBest_59 rfl (lv_at hl 0 rfl) ?_
                obtain ⟨q16, hq16, hf⟩ := bd_e hf
                refine x_backp (pc := 60) hw (x_runV (pc := 60) (As := [.int a2.1]) (rest := [.int a2.1, .ref (ad 6)]) C0 hK hw hl.1 ⟨Nat.zero_le _, Nat.zero_le _⟩ (kX7_comesTo l D y ad hI a2.1 a2.2 hq16) (by decide) ly_m0 rfl rfl wc_X7_comesTo wm_X7_208 wi_X7_comesTo ws_X7_comesTo wn_X7 ⟨rfl, rfl⟩ hd_X7_comesTo rfl ⟨Nat.le_of_ble_eq_true rfl, Nat.le_of_ble_eq_true rfl⟩ (Nat.le_of_ble_eq_true rfl) dX7_ordersBest_60) (fun H locs hw => ?_)
                obtain ⟨hi, hf⟩ := gd_e hf
                obtain ⟨u17, hu, hf⟩ := nm_f hf
                refine x_iast (pc := 63) hI C0 hK hw (by decide) ly_m6 hi hu dX7_ordersBest_63 (fun H locs hw => ?_)
                refine lv_iinc (pc := 64) (v := a2.1 + 1) (lv' := [(3, .int (a2.1 + 1)), (2, .int a1.2.1), (1, .int a1.1), (0, .ref (ad 0))]) C0.1 C0.2.1 dX7_ordersBest_64 hl (k := 0) rfl rfl (by decide) rfl (fun ls hl => ?_)
                refine lv_goto (tgt := 48) (pc := 67) C0.1 C0.2.1 dX7_ordersBest_67 (by decide) ?_
                exact hG _ (Option.some.inj hf).symm H locs ls hw (lv_sub hl [0, 1, 2, 3] rfl)
            · skip
              refine lv_iconst (v := 0) (pc := 70) C0.1 C0.2.1 dX7_ordersBest_70 (by decide) ?_
              refine lv_istore_n (pc := 71) (lv' := [(3, .int 0), (2, .int a1.2.1), (1, .int a1.1), (0, .ref (ad 0))]) C0.1 C0.2.1 dX7_ordersBest_71 rfl hl (by decide) rfl (fun ls hl => ?_)
              obtain ⟨e18, he18, hf⟩ := bd_e hf
              refine X_loop (pc := 72) (xpc := 98) (fu := fun a2 => a2.2) (fl := fun a2 => [(3, .int a2.1), (2, .int a1.2.1), (1, .int a1.1), (0, .ref (ad 0))]) (fun a2 r hf hE hG H locs ls hw hl => ?_) he18 (fun H locs ls hw hl => ?_) hw hl
              · unfold gX7_ordersBest_72 at hf
                refine lv_iload_n (pc := 72) C0.1 C0.2.1 dX7_ordersBest_72 rfl (lv_at hl 0 rfl) ?_
                refine lv_aload_n (pc := 73) C0.1 C0.2.1 dX7_ordersBest_73 rfl (lv_at hl 3 rfl) ?_
                obtain ⟨q19, hq19, hf⟩ := bd_e hf
                refine x_backp (pc := 74) hw (x_runV (pc := 74) (As := []) (rest := [.int a2.1]) C0 hK hw hl.1 ⟨Nat.zero_le _, Nat.zero_le _⟩ (kX7_trays l D y ad hI  a2.2 hq19) (by decide) ly_m0 rfl rfl wc_X7_trays wm_X7_39 wi_X7_trays ws_X7_trays wn_X7 ⟨rfl, rfl⟩ hd_X7_trays rfl ⟨Nat.le_of_ble_eq_true rfl, Nat.le_of_ble_eq_true rfl⟩ (Nat.le_of_ble_eq_true rfl) dX7_ordersBest_74) (fun H locs hw => ?_)
                refine lv_icmp_ge (tgt := 98) (pc := 77) C0.1 C0.2.1 dX7_ordersBest_77 (by decide) (fun hc => ?_) (fun hc => ?_)
                · have hf := if_t hf hc
                  exact hE _ (Option.some.inj hf).symm H locs ls hw (lv_sub hl [0, 1, 2, 3] rfl)
                · have hf := if_f hf hc
                  refine lv_aload_n (pc := 80) C0.1 C0.2.1 dX7_ordersBest_80 rfl (lv_at hl 3 rfl) ?_
                  refine x_get (pc := 81) (v := .ref (ad 5)) C0 hK hw (by decide) ly_m0 rfl inX7 17 (by decide) wf_X7_22 rfl rfl dX7_ordersBest_81 ?_
                  refine lv_iload_n (pc := 84) C0.1 C0.2.1 dX7_ordersBest_84 rfl (lv_at hl 0 rfl) ?_
                  refine lv_aload_n (pc := 85) C0.1 C0.2.1 dX7_ordersBest_85 rfl (lv_at hl 3 rfl) ?_
                  refine x_get (pc := 86) (v := .ref (ad 4)) C0 hK hw (by decide) ly_m0 rfl inX7 16 (by decide) wf_X7_19 rfl rfl dX7_ordersBest_86 ?_
                  refine lv_iload_n (pc := 89) C0.1 C0.2.1 dX7_ordersBest_89 rfl (lv_at hl 0 rfl) ?_
                  obtain ⟨hi, hf⟩ := gd_e hf
                  refine x_iald (pc := 90) C0 hK hw (by decide) ly_m4 hi dX7_ordersBest_90 ?_
                  obtain ⟨hi, hf⟩ := gd_e hf
                  obtain ⟨u20, hu, hf⟩ := nm_f hf
                  refine x_iast (pc := 91) hI C0 hK hw (by decide) ly_m5 hi hu dX7_ordersBest_91 (fun H locs hw => ?_)
                  refine lv_iinc (pc := 92) (v := a2.1 + 1) (lv' := [(3, .int (a2.1 + 1)), (2, .int a1.2.1), (1, .int a1.1), (0, .ref (ad 0))]) C0.1 C0.2.1 dX7_ordersBest_92 hl (k := 0) rfl rfl (by decide) rfl (fun ls hl => ?_)
                  refine lv_goto (tgt := 72) (pc := 95) C0.1 C0.2.1 dX7_ordersBest_95 (by decide) ?_
                  exact hG _ (Option.some.inj hf).symm H locs ls hw (lv_sub hl [0, 1, 2, 3] rfl)
              · skip
                refine lv_iconst (v := 0) (pc := 98) C0.1 C0.2.1 dX7_ordersBest_98 (by decide) ?_
                refine lv_istore_n (pc := 99) (lv' := [(1, .int 0), (3, .int e18.1), (2, .int a1.2.1), (0, .ref (ad 0))]) C0.1 C0.2.1 dX7_ordersBest_99 rfl hl (by decide) rfl (fun ls hl => ?_)
                refine lv_aload_n (pc := 100) C0.1 C0.2.1 dX7_ordersBest_100 rfl (lv_at hl 3 rfl) ?_
                obtain ⟨q21, hq21, hf⟩ := bd_e hf
                refine x_back (pc := 101) hw (x_runV (pc := 101) (As := []) (rest := []) C0 hK hw hl.1 ⟨Nat.zero_le _, Nat.zero_le _⟩ (kX7_ordersNext l D y ad hI  e18.2 hq21) (by decide) ly_m0 rfl rfl wc_X7_ordersNext wm_X7_217 wi_X7_ordersNext ws_X7_ordersNext wn_X7 ⟨rfl, rfl⟩ hd_X7_ordersNext rfl ⟨Nat.le_of_ble_eq_true rfl, Nat.le_of_ble_eq_true rfl⟩ (Nat.le_of_ble_eq_true rfl) dX7_ordersBest_101) (fun H locs hw => ?_)
                refine lv_istore_n (pc := 104) (lv' := [(2, .int q21.1), (1, .int 0), (3, .int e18.1), (0, .ref (ad 0))]) C0.1 C0.2.1 dX7_ordersBest_104 rfl hl (by decide) rfl (fun ls hl => ?_)
                refine lv_goto (tgt := 27) (pc := 105) C0.1 C0.2.1 dX7_ordersBest_105 (by decide) ?_
                exact hG _ (Option.some.inj hf).symm H locs ls hw (lv_sub hl [0, 1, 3] rfl)
    · skip
      refine lv_iconst (v := 0) (pc := 108) C0.1 C0.2.1 dX7_ordersBest_108 (by decide) ?_
      refine lv_istore_n (pc := 109) (lv' := [(3, .int 0), (2, .int e4.2.1), (1, .int e4.1), (0, .ref (ad 0))]) C0.1 C0.2.1 dX7_ordersBest_109 rfl hl (by decide) rfl (fun ls hl => ?_)
      obtain ⟨e22, he22, hf⟩ := bd_e hf
      refine X_loop (pc := 110) (xpc := 136) (fu := fun a1 => a1.2) (fl := fun a1 => [(3, .int a1.1), (2, .int e4.2.1), (1, .int e4.1), (0, .ref (ad 0))]) (fun a1 r hf hE hG H locs ls hw hl => ?_) he22 (fun H locs ls hw hl => ?_) hw hl
      · unfold gX7_ordersBest_110 at hf
        refine lv_iload_n (pc := 110) C0.1 C0.2.1 dX7_ordersBest_110 rfl (lv_at hl 0 rfl) ?_
        refine lv_aload_n (pc := 111) C0.1 C0.2.1 dX7_ordersBest_111 rfl (lv_at hl 3 rfl) ?_
        obtain ⟨q23, hq23, hf⟩ := bd_e hf
        refine x_backp (pc := 112) hw (x_runV (pc := 112) (As := []) (rest := [.int a1.1]) C0 hK hw hl.1 ⟨Nat.zero_le _, Nat.zero_le _⟩ (kX7_trays l D y ad hI  a1.2 hq23) (by decide) ly_m0 rfl rfl wc_X7_trays wm_X7_39 wi_X7_trays ws_X7_trays wn_X7 ⟨rfl, rfl⟩ hd_X7_trays rfl ⟨Nat.le_of_ble_eq_true rfl, Nat.le_of_ble_eq_true rfl⟩ (Nat.le_of_ble_eq_true rfl) dX7_ordersBest_112) (fun H locs hw => ?_)
        refine lv_icmp_ge (tgt := 136) (pc := 115) C0.1 C0.2.1 dX7_ordersBest_115 (by decide) (fun hc => ?_) (fun hc => ?_)
        · have hf := if_t hf hc
          exact hE _ (Option.some.inj hf).symm H locs ls hw (lv_sub hl [0, 1, 2, 3] rfl)
        · have hf := if_f hf hc
          refine lv_aload_n (pc := 118) C0.1 C0.2.1 dX7_ordersBest_118 rfl (lv_at hl 3 rfl) ?_
          refine x_get (pc := 119) (v := .ref (ad 4)) C0 hK hw (by decide) ly_m0 rfl inX7 16 (by decide) wf_X7_19 rfl rfl dX7_ordersBest_119 ?_
          refine lv_iload_n (pc := 122) C0.1 C0.2.1 dX7_ordersBest_122 rfl (lv_at hl 0 rfl) ?_
          refine lv_aload_n (pc := 123) C0.1 C0.2.1 dX7_ordersBest_123 rfl (lv_at hl 3 rfl) ?_
          refine x_get (pc := 124) (v := .ref (ad 5)) C0 hK hw (by decide) ly_m0 rfl inX7 17 (by decide) wf_X7_22 rfl rfl dX7_ordersBest_124 ?_
          refine lv_iload_n (pc := 127) C0.1 C0.2.1 dX7_ordersBest_127 rfl (lv_at hl 0 rfl) ?_
          obtain ⟨hi, hf⟩ := gd_e hf
          refine x_iald (pc := 128) C0 hK hw (by decide) ly_m5 hi dX7_ordersBest_128 ?_
          obtain ⟨hi, hf⟩ := gd_e hf
          obtain ⟨u24, hu, hf⟩ := nm_f hf
          refine x_iast (pc := 129) hI C0 hK hw (by decide) ly_m4 hi hu dX7_ordersBest_129 (fun H locs hw => ?_)
          refine lv_iinc (pc := 130) (v := a1.1 + 1) (lv' := [(3, .int (a1.1 + 1)), (2, .int e4.2.1), (1, .int e4.1), (0, .ref (ad 0))]) C0.1 C0.2.1 dX7_ordersBest_130 hl (k := 0) rfl rfl (by decide) rfl (fun ls hl => ?_)
          refine lv_goto (tgt := 110) (pc := 133) C0.1 C0.2.1 dX7_ordersBest_133 (by decide) ?_
          exact hG _ (Option.some.inj hf).symm H locs ls hw (lv_sub hl [0, 1, 2, 3] rfl)
      · skip
        exact x_vret (pc := 136) C0 hK hk hr hw (Option.some.inj hf) dX7_ordersBest_136
def wX7_pack : List Cond := .code yX7_pack cX7_pack 1 (some .int) :: lwT
def rX7_pack : Room := { frames := 9, cells := 0, slots := 0, locals := 205 }
set_option maxRecDepth 100000 in
set_option maxHeartbeats 4000000 in
theorem kX7_pack (l : Launch) (D : va_G) (y : Nat → ClassId) (ad : Nat → Nat) (hI : XI ad 8)  (u : S) {o : Int32 × S} (hf : fX7_pack  u = some o) : Met l yX7_pack wX7_pack rX7_pack (va_Pc [.ref (ad 0)] (XW D y ad LM 8 u)) (XQi D y ad LM 8 o) 0 0 (XA ad 8) := by
  refine x_met (bytes := cX7_pack) (maxL := 1) (ret := (some .int)) (own := RX7) (by decide) rfl rfl (Nat.le_of_ble_eq_true rfl) (fun p e s m below meth c ls C0 hK hk hr hw hl => ?_)
  have hl : lv_has ls 1 [(0, .ref (ad 0))] := hl
  unfold fX7_pack at hf
  refine lv_aload_n (pc := 0) C0.1 C0.2.1 dX7_pack_0 rfl (lv_at hl 0 rfl) ?_
  obtain ⟨q1, hq1, hf⟩ := bd_e hf
  refine x_backv (pc := 1) hw (x_runV (pc := 1) (As := []) (rest := []) C0 hK hw hl.1 ⟨Nat.zero_le _, Nat.zero_le _⟩ (kX7_records l D y ad hI  u hq1) (by decide) ly_m0 rfl rfl wc_X7_records wm_X7_104 wi_X7_records ws_X7_records wn_X7 ⟨rfl, rfl⟩ hd_X7_records rfl ⟨Nat.le_of_ble_eq_true rfl, Nat.le_of_ble_eq_true rfl⟩ (Nat.le_of_ble_eq_true rfl) dX7_pack_1) (fun H locs hw => ?_)
  refine lv_aload_n (pc := 4) C0.1 C0.2.1 dX7_pack_4 rfl (lv_at hl 0 rfl) ?_
  obtain ⟨q2, hq2, hf⟩ := bd_e hf
  refine x_backv (pc := 5) hw (x_runV (pc := 5) (As := []) (rest := []) C0 hK hw hl.1 ⟨Nat.zero_le _, Nat.zero_le _⟩ (kX7_ordersUsually l D y ad hI  q1 hq2) (by decide) ly_m0 rfl rfl wc_X7_ordersUsually wm_X7_220 wi_X7_ordersUsually ws_X7_ordersUsually wn_X7 ⟨rfl, rfl⟩ hd_X7_ordersUsually rfl ⟨Nat.le_of_ble_eq_true rfl, Nat.le_of_ble_eq_true rfl⟩ (Nat.le_of_ble_eq_true rfl) dX7_pack_5) (fun H locs hw => ?_)
  refine lv_aload_n (pc := 8) C0.1 C0.2.1 dX7_pack_8 rfl (lv_at hl 0 rfl) ?_
  obtain ⟨q3, hq3, hf⟩ := bd_e hf
  refine x_backv (pc := 9) hw (x_runV (pc := 9) (As := []) (rest := []) C0 hK hw hl.1 ⟨Nat.zero_le _, Nat.zero_le _⟩ (kX7_packs l D y ad hI  q2 hq3) (by decide) ly_m0 rfl rfl wc_X7_packs wm_X7_211 wi_X7_packs ws_X7_packs wn_X7 ⟨rfl, rfl⟩ hd_X7_packs rfl ⟨Nat.le_of_ble_eq_true rfl, Nat.le_of_ble_eq_true rfl⟩ (Nat.le_of_ble_eq_true rfl) dX7_pack_9) (fun H locs hw => ?_)
  refine lv_aload_n (pc := 12) C0.1 C0.2.1 dX7_pack_12 rfl (lv_at hl 0 rfl) ?_
  refine lv_iconst (v := 0) (pc := 13) C0.1 C0.2.1 dX7_pack_13 (by decide) ?_
  obtain ⟨q4, hq4, hf⟩ := bd_e hf
  refine x_backp (pc := 14) hw (x_runV (pc := 14) (As := [.int 0]) (rest := []) C0 hK hw hl.1 ⟨Nat.zero_le _, Nat.zero_le _⟩ (kX7_comesTo l D y ad hI 0 q3 hq4) (by decide) ly_m0 rfl rfl wc_X7_comesTo wm_X7_208 wi_X7_comesTo ws_X7_comesTo wn_X7 ⟨rfl, rfl⟩ hd_X7_comesTo rfl ⟨Nat.le_of_ble_eq_true rfl, Nat.le_of_ble_eq_true rfl⟩ (Nat.le_of_ble_eq_true rfl) dX7_pack_14) (fun H locs hw => ?_)
  exact x_iret (pc := 17) C0 hK hk hr hw (Option.some.inj hf) dX7_pack_17
def wX7_packBest : List Cond := .code yX7_packBest cX7_packBest 1 (some .int) :: lwT
def rX7_packBest : Room := { frames := 11, cells := 0, slots := 0, locals := 249 }
set_option maxRecDepth 100000 in
set_option maxHeartbeats 4000000 in
theorem kX7_packBest (l : Launch) (D : va_G) (y : Nat → ClassId) (ad : Nat → Nat) (hI : XI ad 8)  (u : S) {o : Int32 × S} (hf : fX7_packBest  u = some o) : Met l yX7_packBest wX7_packBest rX7_packBest (va_Pc [.ref (ad 0)] (XW D y ad LM 8 u)) (XQi D y ad LM 8 o) 0 0 (XA ad 8) := by
  refine x_met (bytes := cX7_packBest) (maxL := 1) (ret := (some .int)) (own := RX7) (by decide) rfl rfl (Nat.le_of_ble_eq_true rfl) (fun p e s m below meth c ls C0 hK hk hr hw hl => ?_)
  have hl : lv_has ls 1 [(0, .ref (ad 0))] := hl
  unfold fX7_packBest at hf
  refine lv_aload_n (pc := 0) C0.1 C0.2.1 dX7_packBest_0 rfl (lv_at hl 0 rfl) ?_
  obtain ⟨q1, hq1, hf⟩ := bd_e hf
  refine x_backp (pc := 1) hw (x_runV (pc := 1) (As := []) (rest := []) C0 hK hw hl.1 ⟨Nat.zero_le _, Nat.zero_le _⟩ (kX7_trays l D y ad hI  u hq1) (by decide) ly_m0 rfl rfl wc_X7_trays wm_X7_39 wi_X7_trays ws_X7_trays wn_X7 ⟨rfl, rfl⟩ hd_X7_trays rfl ⟨Nat.le_of_ble_eq_true rfl, Nat.le_of_ble_eq_true rfl⟩ (Nat.le_of_ble_eq_true rfl) dX7_packBest_1) (fun H locs hw => ?_)
  refine lv_iconst (v := 5) (pc := 4) C0.1 C0.2.1 dX7_packBest_4 (by decide) ?_
  refine lv_icmp_le (tgt := 11) (pc := 5) C0.1 C0.2.1 dX7_packBest_5 (by decide) (fun hc => ?_) (fun hc => ?_)
  · have hf := if_t hf hc
    refine lv_aload_n (pc := 11) C0.1 C0.2.1 dX7_packBest_11 rfl (lv_at hl 0 rfl) ?_
    obtain ⟨q2, hq2, hf⟩ := bd_e hf
    refine x_backv (pc := 12) hw (x_runV (pc := 12) (As := []) (rest := []) C0 hK hw hl.1 ⟨Nat.zero_le _, Nat.zero_le _⟩ (kX7_records l D y ad hI  u hq2) (by decide) ly_m0 rfl rfl wc_X7_records wm_X7_104 wi_X7_records ws_X7_records wn_X7 ⟨rfl, rfl⟩ hd_X7_records rfl ⟨Nat.le_of_ble_eq_true rfl, Nat.le_of_ble_eq_true rfl⟩ (Nat.le_of_ble_eq_true rfl) dX7_packBest_12) (fun H locs hw => ?_)
    refine lv_aload_n (pc := 15) C0.1 C0.2.1 dX7_packBest_15 rfl (lv_at hl 0 rfl) ?_
    obtain ⟨q3, hq3, hf⟩ := bd_e hf
    refine x_backv (pc := 16) hw (x_runV (pc := 16) (As := []) (rest := []) C0 hK hw hl.1 ⟨Nat.zero_le _, Nat.zero_le _⟩ (kX7_ordersBest l D y ad hI  q2 hq3) (by decide) ly_m0 rfl rfl wc_X7_ordersBest wm_X7_223 wi_X7_ordersBest ws_X7_ordersBest wn_X7 ⟨rfl, rfl⟩ hd_X7_ordersBest rfl ⟨Nat.le_of_ble_eq_true rfl, Nat.le_of_ble_eq_true rfl⟩ (Nat.le_of_ble_eq_true rfl) dX7_packBest_16) (fun H locs hw => ?_)
    refine lv_aload_n (pc := 19) C0.1 C0.2.1 dX7_packBest_19 rfl (lv_at hl 0 rfl) ?_
    obtain ⟨q4, hq4, hf⟩ := bd_e hf
    refine x_backv (pc := 20) hw (x_runV (pc := 20) (As := []) (rest := []) C0 hK hw hl.1 ⟨Nat.zero_le _, Nat.zero_le _⟩ (kX7_packs l D y ad hI  q3 hq4) (by decide) ly_m0 rfl rfl wc_X7_packs wm_X7_211 wi_X7_packs ws_X7_packs wn_X7 ⟨rfl, rfl⟩ hd_X7_packs rfl ⟨Nat.le_of_ble_eq_true rfl, Nat.le_of_ble_eq_true rfl⟩ (Nat.le_of_ble_eq_true rfl) dX7_packBest_20) (fun H locs hw => ?_)
    refine lv_aload_n (pc := 23) C0.1 C0.2.1 dX7_packBest_23 rfl (lv_at hl 0 rfl) ?_
    refine lv_iconst (v := 0) (pc := 24) C0.1 C0.2.1 dX7_packBest_24 (by decide) ?_
    obtain ⟨q5, hq5, hf⟩ := bd_e hf
    refine x_backp (pc := 25) hw (x_runV (pc := 25) (As := [.int 0]) (rest := []) C0 hK hw hl.1 ⟨Nat.zero_le _, Nat.zero_le _⟩ (kX7_comesTo l D y ad hI 0 q4 hq5) (by decide) ly_m0 rfl rfl wc_X7_comesTo wm_X7_208 wi_X7_comesTo ws_X7_comesTo wn_X7 ⟨rfl, rfl⟩ hd_X7_comesTo rfl ⟨Nat.le_of_ble_eq_true rfl, Nat.le_of_ble_eq_true rfl⟩ (Nat.le_of_ble_eq_true rfl) dX7_packBest_25) (fun H locs hw => ?_)
    exact x_iret (pc := 28) C0 hK hk hr hw (Option.some.inj hf) dX7_packBest_28
  · have hf := if_f hf hc
    refine lv_bipush (v := (-2)) (pc := 8) C0.1 C0.2.1 dX7_packBest_8 (by decide) ?_
    exact x_iret (pc := 10) C0 hK hk hr hw (Option.some.inj hf) dX7_packBest_10
def wX7_ifPacked : List Cond := .code yX7_ifPacked cX7_ifPacked 4 (some .int) :: lwT
def rX7_ifPacked : Room := { frames := 11, cells := 0, slots := 0, locals := 249 }
set_option maxRecDepth 100000 in
set_option maxHeartbeats 4000000 in
theorem kX7_ifPacked (l : Launch) (D : va_G) (y : Nat → ClassId) (ad : Nat → Nat) (hI : XI ad 8) (v1 : Int32) (v2 : Int32) (u : S) {o : Int32 × S} (hf : fX7_ifPacked v1 v2 u = some o) : Met l yX7_ifPacked wX7_ifPacked rX7_ifPacked (va_Pc [.ref (ad 0), .int v1, .int v2] (XW D y ad LM 8 u)) (XQi D y ad LM 8 o) 0 0 (XA ad 8) := by
  refine x_met (bytes := cX7_ifPacked) (maxL := 4) (ret := (some .int)) (own := RX7) (by decide) rfl rfl (Nat.le_of_ble_eq_true rfl) (fun p e s m below meth c ls C0 hK hk hr hw hl => ?_)
  have hl : lv_has ls 4 [(0, .ref (ad 0)), (1, .int v1), (2, .int v2)] := hl
  unfold fX7_ifPacked at hf
  refine lv_iload_n (pc := 0) C0.1 C0.2.1 dX7_ifPacked_0 rfl (lv_at hl 2 rfl) ?_
  refine lv_if_lt (tgt := 14) (pc := 1) C0.1 C0.2.1 dX7_ifPacked_1 (by decide) (fun hc => ?_) (fun hc => ?_)
  · have hf := if_t hf hc
    refine lv_iconst (v := (-1)) (pc := 14) C0.1 C0.2.1 dX7_ifPacked_14 (by decide) ?_
    exact x_iret (pc := 15) C0 hK hk hr hw (Option.some.inj hf) dX7_ifPacked_15
  · have hf := if_f hf hc
    refine lv_iload_n (pc := 4) C0.1 C0.2.1 dX7_ifPacked_4 rfl (lv_at hl 2 rfl) ?_
    refine lv_iconst (v := 4) (pc := 5) C0.1 C0.2.1 dX7_ifPacked_5 (by decide) ?_
    refine lv_bipush (v := 9) (pc := 6) C0.1 C0.2.1 dX7_ifPacked_6 (by decide) ?_
    obtain ⟨q1, hq1, hf⟩ := bd_e hf
    refine x_backp (pc := 8) hw (x_runS (pc := 8) (As := [.int v2, .int 4, .int 9]) (rest := []) C0 hK hw hl.1 ⟨Nat.zero_le _, Nat.zero_le _⟩ (kX7_in l D y ad hI v2 4 9 u hq1) rfl wc_X7_in wm_X7_43 wt_X7_in wn_X7 ⟨rfl, rfl⟩ hd_X7_in rfl ⟨Nat.le_of_ble_eq_true rfl, Nat.le_of_ble_eq_true rfl⟩ (Nat.le_of_ble_eq_true rfl) dX7_ifPacked_8) (fun H locs hw => ?_)
    refine lv_if_eq (tgt := 16) (pc := 11) C0.1 C0.2.1 dX7_ifPacked_11 (by decide) (fun hc => ?_) (fun hc => ?_)
    · have hf := if_t hf hc
      refine lv_iload_n (pc := 16) C0.1 C0.2.1 dX7_ifPacked_16 rfl (lv_at hl 1 rfl) ?_
      refine lv_if_eq (tgt := 31) (pc := 17) C0.1 C0.2.1 dX7_ifPacked_17 (by decide) (fun hc => ?_) (fun hc => ?_)
      · have hf := if_t hf hc
        refine lv_iload_n (pc := 31) C0.1 C0.2.1 dX7_ifPacked_31 rfl (lv_at hl 2 rfl) ?_
        refine lv_bipush (v := 10) (pc := 32) C0.1 C0.2.1 dX7_ifPacked_32 (by decide) ?_
        refine lv_icmp_lt (tgt := 51) (pc := 34) C0.1 C0.2.1 dX7_ifPacked_34 (by decide) (fun hc => ?_) (fun hc => ?_)
        · have hf := if_t hf hc
          refine lv_aload_n (pc := 51) C0.1 C0.2.1 dX7_ifPacked_51 rfl (lv_at hl 0 rfl) ?_
          refine lv_iconst (v := 0) (pc := 52) C0.1 C0.2.1 dX7_ifPacked_52 (by decide) ?_
          refine lv_bipush (v := 10) (pc := 53) C0.1 C0.2.1 dX7_ifPacked_53 (by decide) ?_
          obtain ⟨q2, hq2, hf⟩ := bd_e hf
          refine x_backv (pc := 55) hw (x_runV (pc := 55) (As := [.int 0, .int 10]) (rest := []) C0 hK hw hl.1 ⟨Nat.zero_le _, Nat.zero_le _⟩ (kX7_copies l D y ad hI 0 10 u hq2) (by decide) ly_m0 rfl rfl wc_X7_copies wm_X7_35 wi_X7_copies ws_X7_copies wn_X7 ⟨rfl, rfl⟩ hd_X7_copies rfl ⟨Nat.le_of_ble_eq_true rfl, Nat.le_of_ble_eq_true rfl⟩ (Nat.le_of_ble_eq_true rfl) dX7_ifPacked_55) (fun H locs hw => ?_)
          refine lv_iload_n (pc := 58) C0.1 C0.2.1 dX7_ifPacked_58 rfl (lv_at hl 1 rfl) ?_
          refine lv_if_eq (tgt := 69) (pc := 59) C0.1 C0.2.1 dX7_ifPacked_59 (by decide) (fun hc => ?_) (fun hc => ?_)
          · have hf := if_t hf hc
            refine lv_aload_n (pc := 69) C0.1 C0.2.1 dX7_ifPacked_69 rfl (lv_at hl 0 rfl) ?_
            obtain ⟨q3, hq3, hf⟩ := bd_e hf
            refine x_backv (pc := 70) hw (x_runV (pc := 70) (As := []) (rest := []) C0 hK hw hl.1 ⟨Nat.zero_le _, Nat.zero_le _⟩ (kX7_ordersUsually l D y ad hI  q2 hq3) (by decide) ly_m0 rfl rfl wc_X7_ordersUsually wm_X7_220 wi_X7_ordersUsually ws_X7_ordersUsually wn_X7 ⟨rfl, rfl⟩ hd_X7_ordersUsually rfl ⟨Nat.le_of_ble_eq_true rfl, Nat.le_of_ble_eq_true rfl⟩ (Nat.le_of_ble_eq_true rfl) dX7_ifPacked_70) (fun H locs hw => ?_)
            refine lv_aload_n (pc := 73) C0.1 C0.2.1 dX7_ifPacked_73 rfl (lv_at hl 0 rfl) ?_
            obtain ⟨q4, hq4, hf⟩ := bd_e hf
            refine x_backv (pc := 74) hw (x_runV (pc := 74) (As := []) (rest := []) C0 hK hw hl.1 ⟨Nat.zero_le _, Nat.zero_le _⟩ (kX7_packs l D y ad hI  q3 hq4) (by decide) ly_m0 rfl rfl wc_X7_packs wm_X7_211 wi_X7_packs ws_X7_packs wn_X7 ⟨rfl, rfl⟩ hd_X7_packs rfl ⟨Nat.le_of_ble_eq_true rfl, Nat.le_of_ble_eq_true rfl⟩ (Nat.le_of_ble_eq_true rfl) dX7_ifPacked_74) (fun H locs hw => ?_)
            refine lv_iload_n (pc := 77) C0.1 C0.2.1 dX7_ifPacked_77 rfl (lv_at hl 2 rfl) ?_
            refine lv_bipush (v := 10) (pc := 78) C0.1 C0.2.1 dX7_ifPacked_78 (by decide) ?_
            refine lv_icmp_lt (tgt := 95) (pc := 80) C0.1 C0.2.1 dX7_ifPacked_80 (by decide) (fun hc => ?_) (fun hc => ?_)
            · have hf := if_t hf hc
              refine lv_aload_n (pc := 95) C0.1 C0.2.1 dX7_ifPacked_95 rfl (lv_at hl 0 rfl) ?_
              refine lv_iload_n (pc := 96) C0.1 C0.2.1 dX7_ifPacked_96 rfl (lv_at hl 2 rfl) ?_
              obtain ⟨q5, hq5, hf⟩ := bd_e hf
              refine x_backp (pc := 97) hw (x_runV (pc := 97) (As := [.int v2]) (rest := []) C0 hK hw hl.1 ⟨Nat.zero_le _, Nat.zero_le _⟩ (kX7_comesTo l D y ad hI v2 q4 hq5) (by decide) ly_m0 rfl rfl wc_X7_comesTo wm_X7_208 wi_X7_comesTo ws_X7_comesTo wn_X7 ⟨rfl, rfl⟩ hd_X7_comesTo rfl ⟨Nat.le_of_ble_eq_true rfl, Nat.le_of_ble_eq_true rfl⟩ (Nat.le_of_ble_eq_true rfl) dX7_ifPacked_97) (fun H locs hw => ?_)
              refine lv_istore_n (pc := 100) (lv' := [(3, .int q5), (0, .ref (ad 0)), (1, .int v1), (2, .int v2)]) C0.1 C0.2.1 dX7_ifPacked_100 rfl hl (by decide) rfl (fun ls hl => ?_)
              refine lv_aload_n (pc := 101) C0.1 C0.2.1 dX7_ifPacked_101 rfl (lv_at hl 1 rfl) ?_
              refine lv_bipush (v := 10) (pc := 102) C0.1 C0.2.1 dX7_ifPacked_102 (by decide) ?_
              refine lv_iconst (v := 0) (pc := 104) C0.1 C0.2.1 dX7_ifPacked_104 (by decide) ?_
              obtain ⟨q6, hq6, hf⟩ := bd_e hf
              refine x_backv (pc := 105) hw (x_runV (pc := 105) (As := [.int 10, .int 0]) (rest := []) C0 hK hw hl.1 ⟨Nat.zero_le _, Nat.zero_le _⟩ (kX7_copies l D y ad hI 10 0 q4 hq6) (by decide) ly_m0 rfl rfl wc_X7_copies wm_X7_35 wi_X7_copies ws_X7_copies wn_X7 ⟨rfl, rfl⟩ hd_X7_copies rfl ⟨Nat.le_of_ble_eq_true rfl, Nat.le_of_ble_eq_true rfl⟩ (Nat.le_of_ble_eq_true rfl) dX7_ifPacked_105) (fun H locs hw => ?_)
              refine lv_iload_n (pc := 108) C0.1 C0.2.1 dX7_ifPacked_108 rfl (lv_at hl 0 rfl) ?_
              exact x_iret (pc := 109) C0 hK hk hr hw (Option.some.inj hf) dX7_ifPacked_109
            · have hf := if_f hf hc
              refine lv_aload_n (pc := 83) C0.1 C0.2.1 dX7_ifPacked_83 rfl (lv_at hl 0 rfl) ?_
              refine x_get (pc := 84) (v := .ref (ad 4)) C0 hK hw (by decide) ly_m0 rfl inX7 16 (by decide) wf_X7_19 rfl rfl dX7_ifPacked_84 ?_
              refine lv_iload_n (pc := 87) C0.1 C0.2.1 dX7_ifPacked_87 rfl (lv_at hl 2 rfl) ?_
              refine lv_bipush (v := 10) (pc := 88) C0.1 C0.2.1 dX7_ifPacked_88 (by decide) ?_
              refine lv_isub (pc := 90) C0.1 C0.2.1 dX7_ifPacked_90 ?_
              obtain ⟨hi, hf⟩ := gd_e hf
              refine x_iald (pc := 91) C0 hK hw (by decide) ly_m4 hi dX7_ifPacked_91 ?_
              refine lv_goto (tgt := 100) (pc := 92) C0.1 C0.2.1 dX7_ifPacked_92 (by decide) ?_
              refine lv_istore_n (pc := 100) (lv' := [(3, .int (q4.1 4 (v2 - 10).toNatClampNeg)), (0, .ref (ad 0)), (1, .int v1), (2, .int v2)]) C0.1 C0.2.1 dX7_ifPacked_100 rfl hl (by decide) rfl (fun ls hl => ?_)
              refine lv_aload_n (pc := 101) C0.1 C0.2.1 dX7_ifPacked_101 rfl (lv_at hl 1 rfl) ?_
              refine lv_bipush (v := 10) (pc := 102) C0.1 C0.2.1 dX7_ifPacked_102 (by decide) ?_
              refine lv_iconst (v := 0) (pc := 104) C0.1 C0.2.1 dX7_ifPacked_104 (by decide) ?_
              obtain ⟨q7, hq7, hf⟩ := bd_e hf
              refine x_backv (pc := 105) hw (x_runV (pc := 105) (As := [.int 10, .int 0]) (rest := []) C0 hK hw hl.1 ⟨Nat.zero_le _, Nat.zero_le _⟩ (kX7_copies l D y ad hI 10 0 q4 hq7) (by decide) ly_m0 rfl rfl wc_X7_copies wm_X7_35 wi_X7_copies ws_X7_copies wn_X7 ⟨rfl, rfl⟩ hd_X7_copies rfl ⟨Nat.le_of_ble_eq_true rfl, Nat.le_of_ble_eq_true rfl⟩ (Nat.le_of_ble_eq_true rfl) dX7_ifPacked_105) (fun H locs hw => ?_)
              refine lv_iload_n (pc := 108) C0.1 C0.2.1 dX7_ifPacked_108 rfl (lv_at hl 0 rfl) ?_
              exact x_iret (pc := 109) C0 hK hk hr hw (Option.some.inj hf) dX7_ifPacked_109
          · have hf := if_f hf hc
            refine lv_aload_n (pc := 62) C0.1 C0.2.1 dX7_ifPacked_62 rfl (lv_at hl 0 rfl) ?_
            obtain ⟨q8, hq8, hf⟩ := bd_e hf
            refine x_backv (pc := 63) hw (x_runV (pc := 63) (As := []) (rest := []) C0 hK hw hl.1 ⟨Nat.zero_le _, Nat.zero_le _⟩ (kX7_ordersBest l D y ad hI  q2 hq8) (by decide) ly_m0 rfl rfl wc_X7_ordersBest wm_X7_223 wi_X7_ordersBest ws_X7_ordersBest wn_X7 ⟨rfl, rfl⟩ hd_X7_ordersBest rfl ⟨Nat.le_of_ble_eq_true rfl, Nat.le_of_ble_eq_true rfl⟩ (Nat.le_of_ble_eq_true rfl) dX7_ifPacked_63) (fun H locs hw => ?_)
            refine lv_goto (tgt := 73) (pc := 66) C0.1 C0.2.1 dX7_ifPacked_66 (by decide) ?_
            refine lv_aload_n (pc := 73) C0.1 C0.2.1 dX7_ifPacked_73 rfl (lv_at hl 0 rfl) ?_
            obtain ⟨q9, hq9, hf⟩ := bd_e hf
            refine x_backv (pc := 74) hw (x_runV (pc := 74) (As := []) (rest := []) C0 hK hw hl.1 ⟨Nat.zero_le _, Nat.zero_le _⟩ (kX7_packs l D y ad hI  q8 hq9) (by decide) ly_m0 rfl rfl wc_X7_packs wm_X7_211 wi_X7_packs ws_X7_packs wn_X7 ⟨rfl, rfl⟩ hd_X7_packs rfl ⟨Nat.le_of_ble_eq_true rfl, Nat.le_of_ble_eq_true rfl⟩ (Nat.le_of_ble_eq_true rfl) dX7_ifPacked_74) (fun H locs hw => ?_)
            refine lv_iload_n (pc := 77) C0.1 C0.2.1 dX7_ifPacked_77 rfl (lv_at hl 2 rfl) ?_
            refine lv_bipush (v := 10) (pc := 78) C0.1 C0.2.1 dX7_ifPacked_78 (by decide) ?_
            refine lv_icmp_lt (tgt := 95) (pc := 80) C0.1 C0.2.1 dX7_ifPacked_80 (by decide) (fun hc => ?_) (fun hc => ?_)
            · have hf := if_t hf hc
              refine lv_aload_n (pc := 95) C0.1 C0.2.1 dX7_ifPacked_95 rfl (lv_at hl 0 rfl) ?_
              refine lv_iload_n (pc := 96) C0.1 C0.2.1 dX7_ifPacked_96 rfl (lv_at hl 2 rfl) ?_
              obtain ⟨q10, hq10, hf⟩ := bd_e hf
              refine x_backp (pc := 97) hw (x_runV (pc := 97) (As := [.int v2]) (rest := []) C0 hK hw hl.1 ⟨Nat.zero_le _, Nat.zero_le _⟩ (kX7_comesTo l D y ad hI v2 q9 hq10) (by decide) ly_m0 rfl rfl wc_X7_comesTo wm_X7_208 wi_X7_comesTo ws_X7_comesTo wn_X7 ⟨rfl, rfl⟩ hd_X7_comesTo rfl ⟨Nat.le_of_ble_eq_true rfl, Nat.le_of_ble_eq_true rfl⟩ (Nat.le_of_ble_eq_true rfl) dX7_ifPacked_97) (fun H locs hw => ?_)
              refine lv_istore_n (pc := 100) (lv' := [(3, .int q10), (0, .ref (ad 0)), (1, .int v1), (2, .int v2)]) C0.1 C0.2.1 dX7_ifPacked_100 rfl hl (by decide) rfl (fun ls hl => ?_)
              refine lv_aload_n (pc := 101) C0.1 C0.2.1 dX7_ifPacked_101 rfl (lv_at hl 1 rfl) ?_
              refine lv_bipush (v := 10) (pc := 102) C0.1 C0.2.1 dX7_ifPacked_102 (by decide) ?_
              refine lv_iconst (v := 0) (pc := 104) C0.1 C0.2.1 dX7_ifPacked_104 (by decide) ?_
              obtain ⟨q11, hq11, hf⟩ := bd_e hf
              refine x_backv (pc := 105) hw (x_runV (pc := 105) (As := [.int 10, .int 0]) (rest := []) C0 hK hw hl.1 ⟨Nat.zero_le _, Nat.zero_le _⟩ (kX7_copies l D y ad hI 10 0 q9 hq11) (by decide) ly_m0 rfl rfl wc_X7_copies wm_X7_35 wi_X7_copies ws_X7_copies wn_X7 ⟨rfl, rfl⟩ hd_X7_copies rfl ⟨Nat.le_of_ble_eq_true rfl, Nat.le_of_ble_eq_true rfl⟩ (Nat.le_of_ble_eq_true rfl) dX7_ifPacked_105) (fun H locs hw => ?_)
              refine lv_iload_n (pc := 108) C0.1 C0.2.1 dX7_ifPacked_108 rfl (lv_at hl 0 rfl) ?_
              exact x_iret (pc := 109) C0 hK hk hr hw (Option.some.inj hf) dX7_ifPacked_109
            · have hf := if_f hf hc
              refine lv_aload_n (pc := 83) C0.1 C0.2.1 dX7_ifPacked_83 rfl (lv_at hl 0 rfl) ?_
              refine x_get (pc := 84) (v := .ref (ad 4)) C0 hK hw (by decide) ly_m0 rfl inX7 16 (by decide) wf_X7_19 rfl rfl dX7_ifPacked_84 ?_
              refine lv_iload_n (pc := 87) C0.1 C0.2.1 dX7_ifPacked_87 rfl (lv_at hl 2 rfl) ?_
              refine lv_bipush (v := 10) (pc := 88) C0.1 C0.2.1 dX7_ifPacked_88 (by decide) ?_
              refine lv_isub (pc := 90) C0.1 C0.2.1 dX7_ifPacked_90 ?_
              obtain ⟨hi, hf⟩ := gd_e hf
              refine x_iald (pc := 91) C0 hK hw (by decide) ly_m4 hi dX7_ifPacked_91 ?_
              refine lv_goto (tgt := 100) (pc := 92) C0.1 C0.2.1 dX7_ifPacked_92 (by decide) ?_
              refine lv_istore_n (pc := 100) (lv' := [(3, .int (q9.1 4 (v2 - 10).toNatClampNeg)), (0, .ref (ad 0)), (1, .int v1), (2, .int v2)]) C0.1 C0.2.1 dX7_ifPacked_100 rfl hl (by decide) rfl (fun ls hl => ?_)
              refine lv_aload_n (pc := 101) C0.1 C0.2.1 dX7_ifPacked_101 rfl (lv_at hl 1 rfl) ?_
              refine lv_bipush (v := 10) (pc := 102) C0.1 C0.2.1 dX7_ifPacked_102 (by decide) ?_
              refine lv_iconst (v := 0) (pc := 104) C0.1 C0.2.1 dX7_ifPacked_104 (by decide) ?_
              obtain ⟨q12, hq12, hf⟩ := bd_e hf
              refine x_backv (pc := 105) hw (x_runV (pc := 105) (As := [.int 10, .int 0]) (rest := []) C0 hK hw hl.1 ⟨Nat.zero_le _, Nat.zero_le _⟩ (kX7_copies l D y ad hI 10 0 q9 hq12) (by decide) ly_m0 rfl rfl wc_X7_copies wm_X7_35 wi_X7_copies ws_X7_copies wn_X7 ⟨rfl, rfl⟩ hd_X7_copies rfl ⟨Nat.le_of_ble_eq_true rfl, Nat.le_of_ble_eq_true rfl⟩ (Nat.le_of_ble_eq_true rfl) dX7_ifPacked_105) (fun H locs hw => ?_)
              refine lv_iload_n (pc := 108) C0.1 C0.2.1 dX7_ifPacked_108 rfl (lv_at hl 0 rfl) ?_
              exact x_iret (pc := 109) C0 hK hk hr hw (Option.some.inj hf) dX7_ifPacked_109
        · have hf := if_f hf hc
          refine lv_iload_n (pc := 37) C0.1 C0.2.1 dX7_ifPacked_37 rfl (lv_at hl 2 rfl) ?_
          refine lv_bipush (v := 10) (pc := 38) C0.1 C0.2.1 dX7_ifPacked_38 (by decide) ?_
          refine lv_isub (pc := 40) C0.1 C0.2.1 dX7_ifPacked_40 ?_
          refine lv_aload_n (pc := 41) C0.1 C0.2.1 dX7_ifPacked_41 rfl (lv_at hl 0 rfl) ?_
          obtain ⟨q13, hq13, hf⟩ := bd_e hf
          refine x_backp (pc := 42) hw (x_runV (pc := 42) (As := []) (rest := [.int (v2 - 10)]) C0 hK hw hl.1 ⟨Nat.zero_le _, Nat.zero_le _⟩ (kX7_trays l D y ad hI  u hq13) (by decide) ly_m0 rfl rfl wc_X7_trays wm_X7_39 wi_X7_trays ws_X7_trays wn_X7 ⟨rfl, rfl⟩ hd_X7_trays rfl ⟨Nat.le_of_ble_eq_true rfl, Nat.le_of_ble_eq_true rfl⟩ (Nat.le_of_ble_eq_true rfl) dX7_ifPacked_42) (fun H locs hw => ?_)
          refine lv_icmp_lt (tgt := 51) (pc := 45) C0.1 C0.2.1 dX7_ifPacked_45 (by decide) (fun hc => ?_) (fun hc => ?_)
          · have hf := if_t hf hc
            refine lv_aload_n (pc := 51) C0.1 C0.2.1 dX7_ifPacked_51 rfl (lv_at hl 0 rfl) ?_
            refine lv_iconst (v := 0) (pc := 52) C0.1 C0.2.1 dX7_ifPacked_52 (by decide) ?_
            refine lv_bipush (v := 10) (pc := 53) C0.1 C0.2.1 dX7_ifPacked_53 (by decide) ?_
            obtain ⟨q14, hq14, hf⟩ := bd_e hf
            refine x_backv (pc := 55) hw (x_runV (pc := 55) (As := [.int 0, .int 10]) (rest := []) C0 hK hw hl.1 ⟨Nat.zero_le _, Nat.zero_le _⟩ (kX7_copies l D y ad hI 0 10 u hq14) (by decide) ly_m0 rfl rfl wc_X7_copies wm_X7_35 wi_X7_copies ws_X7_copies wn_X7 ⟨rfl, rfl⟩ hd_X7_copies rfl ⟨Nat.le_of_ble_eq_true rfl, Nat.le_of_ble_eq_true rfl⟩ (Nat.le_of_ble_eq_true rfl) dX7_ifPacked_55) (fun H locs hw => ?_)
            refine lv_iload_n (pc := 58) C0.1 C0.2.1 dX7_ifPacked_58 rfl (lv_at hl 1 rfl) ?_
            refine lv_if_eq (tgt := 69) (pc := 59) C0.1 C0.2.1 dX7_ifPacked_59 (by decide) (fun hc => ?_) (fun hc => ?_)
            · have hf := if_t hf hc
              refine lv_aload_n (pc := 69) C0.1 C0.2.1 dX7_ifPacked_69 rfl (lv_at hl 0 rfl) ?_
              obtain ⟨q15, hq15, hf⟩ := bd_e hf
              refine x_backv (pc := 70) hw (x_runV (pc := 70) (As := []) (rest := []) C0 hK hw hl.1 ⟨Nat.zero_le _, Nat.zero_le _⟩ (kX7_ordersUsually l D y ad hI  q14 hq15) (by decide) ly_m0 rfl rfl wc_X7_ordersUsually wm_X7_220 wi_X7_ordersUsually ws_X7_ordersUsually wn_X7 ⟨rfl, rfl⟩ hd_X7_ordersUsually rfl ⟨Nat.le_of_ble_eq_true rfl, Nat.le_of_ble_eq_true rfl⟩ (Nat.le_of_ble_eq_true rfl) dX7_ifPacked_70) (fun H locs hw => ?_)
              refine lv_aload_n (pc := 73) C0.1 C0.2.1 dX7_ifPacked_73 rfl (lv_at hl 0 rfl) ?_
              obtain ⟨q16, hq16, hf⟩ := bd_e hf
              refine x_backv (pc := 74) hw (x_runV (pc := 74) (As := []) (rest := []) C0 hK hw hl.1 ⟨Nat.zero_le _, Nat.zero_le _⟩ (kX7_packs l D y ad hI  q15 hq16) (by decide) ly_m0 rfl rfl wc_X7_packs wm_X7_211 wi_X7_packs ws_X7_packs wn_X7 ⟨rfl, rfl⟩ hd_X7_packs rfl ⟨Nat.le_of_ble_eq_true rfl, Nat.le_of_ble_eq_true rfl⟩ (Nat.le_of_ble_eq_true rfl) dX7_ifPacked_74) (fun H locs hw => ?_)
              refine lv_iload_n (pc := 77) C0.1 C0.2.1 dX7_ifPacked_77 rfl (lv_at hl 2 rfl) ?_
              refine lv_bipush (v := 10) (pc := 78) C0.1 C0.2.1 dX7_ifPacked_78 (by decide) ?_
              refine lv_icmp_lt (tgt := 95) (pc := 80) C0.1 C0.2.1 dX7_ifPacked_80 (by decide) (fun hc => ?_) (fun hc => ?_)
              · have hf := if_t hf hc
                refine lv_aload_n (pc := 95) C0.1 C0.2.1 dX7_ifPacked_95 rfl (lv_at hl 0 rfl) ?_
                refine lv_iload_n (pc := 96) C0.1 C0.2.1 dX7_ifPacked_96 rfl (lv_at hl 2 rfl) ?_
                obtain ⟨q17, hq17, hf⟩ := bd_e hf
                refine x_backp (pc := 97) hw (x_runV (pc := 97) (As := [.int v2]) (rest := []) C0 hK hw hl.1 ⟨Nat.zero_le _, Nat.zero_le _⟩ (kX7_comesTo l D y ad hI v2 q16 hq17) (by decide) ly_m0 rfl rfl wc_X7_comesTo wm_X7_208 wi_X7_comesTo ws_X7_comesTo wn_X7 ⟨rfl, rfl⟩ hd_X7_comesTo rfl ⟨Nat.le_of_ble_eq_true rfl, Nat.le_of_ble_eq_true rfl⟩ (Nat.le_of_ble_eq_true rfl) dX7_ifPacked_97) (fun H locs hw => ?_)
                refine lv_istore_n (pc := 100) (lv' := [(3, .int q17), (0, .ref (ad 0)), (1, .int v1), (2, .int v2)]) C0.1 C0.2.1 dX7_ifPacked_100 rfl hl (by decide) rfl (fun ls hl => ?_)
                refine lv_aload_n (pc := 101) C0.1 C0.2.1 dX7_ifPacked_101 rfl (lv_at hl 1 rfl) ?_
                refine lv_bipush (v := 10) (pc := 102) C0.1 C0.2.1 dX7_ifPacked_102 (by decide) ?_
                refine lv_iconst (v := 0) (pc := 104) C0.1 C0.2.1 dX7_ifPacked_104 (by decide) ?_
                obtain ⟨q18, hq18, hf⟩ := bd_e hf
                refine x_backv (pc := 105) hw (x_runV (pc := 105) (As := [.int 10, .int 0]) (rest := []) C0 hK hw hl.1 ⟨Nat.zero_le _, Nat.zero_le _⟩ (kX7_copies l D y ad hI 10 0 q16 hq18) (by decide) ly_m0 rfl rfl wc_X7_copies wm_X7_35 wi_X7_copies ws_X7_copies wn_X7 ⟨rfl, rfl⟩ hd_X7_copies rfl ⟨Nat.le_of_ble_eq_true rfl, Nat.le_of_ble_eq_true rfl⟩ (Nat.le_of_ble_eq_true rfl) dX7_ifPacked_105) (fun H locs hw => ?_)
                refine lv_iload_n (pc := 108) C0.1 C0.2.1 dX7_ifPacked_108 rfl (lv_at hl 0 rfl) ?_
                exact x_iret (pc := 109) C0 hK hk hr hw (Option.some.inj hf) dX7_ifPacked_109
              · have hf := if_f hf hc
                refine lv_aload_n (pc := 83) C0.1 C0.2.1 dX7_ifPacked_83 rfl (lv_at hl 0 rfl) ?_
                refine x_get (pc := 84) (v := .ref (ad 4)) C0 hK hw (by decide) ly_m0 rfl inX7 16 (by decide) wf_X7_19 rfl rfl dX7_ifPacked_84 ?_
                refine lv_iload_n (pc := 87) C0.1 C0.2.1 dX7_ifPacked_87 rfl (lv_at hl 2 rfl) ?_
                refine lv_bipush (v := 10) (pc := 88) C0.1 C0.2.1 dX7_ifPacked_88 (by decide) ?_
                refine lv_isub (pc := 90) C0.1 C0.2.1 dX7_ifPacked_90 ?_
                obtain ⟨hi, hf⟩ := gd_e hf
                refine x_iald (pc := 91) C0 hK hw (by decide) ly_m4 hi dX7_ifPacked_91 ?_
                refine lv_goto (tgt := 100) (pc := 92) C0.1 C0.2.1 dX7_ifPacked_92 (by decide) ?_
                refine lv_istore_n (pc := 100) (lv' := [(3, .int (q16.1 4 (v2 - 10).toNatClampNeg)), (0, .ref (ad 0)), (1, .int v1), (2, .int v2)]) C0.1 C0.2.1 dX7_ifPacked_100 rfl hl (by decide) rfl (fun ls hl => ?_)
                refine lv_aload_n (pc := 101) C0.1 C0.2.1 dX7_ifPacked_101 rfl (lv_at hl 1 rfl) ?_
                refine lv_bipush (v := 10) (pc := 102) C0.1 C0.2.1 dX7_ifPacked_102 (by decide) ?_
                refine lv_iconst (v := 0) (pc := 104) C0.1 C0.2.1 dX7_ifPacked_104 (by decide) ?_
                obtain ⟨q19, hq19, hf⟩ := bd_e hf
                refine x_backv (pc := 105) hw (x_runV (pc := 105) (As := [.int 10, .int 0]) (rest := []) C0 hK hw hl.1 ⟨Nat.zero_le _, Nat.zero_le _⟩ (kX7_copies l D y ad hI 10 0 q16 hq19) (by decide) ly_m0 rfl rfl wc_X7_copies wm_X7_35 wi_X7_copies ws_X7_copies wn_X7 ⟨rfl, rfl⟩ hd_X7_copies rfl ⟨Nat.le_of_ble_eq_true rfl, Nat.le_of_ble_eq_true rfl⟩ (Nat.le_of_ble_eq_true rfl) dX7_ifPacked_105) (fun H locs hw => ?_)
                refine lv_iload_n (pc := 108) C0.1 C0.2.1 dX7_ifPacked_108 rfl (lv_at hl 0 rfl) ?_
                exact x_iret (pc := 109) C0 hK hk hr hw (Option.some.inj hf) dX7_ifPacked_109
            · have hf := if_f hf hc
              refine lv_aload_n (pc := 62) C0.1 C0.2.1 dX7_ifPacked_62 rfl (lv_at hl 0 rfl) ?_
              obtain ⟨q20, hq20, hf⟩ := bd_e hf
              refine x_backv (pc := 63) hw (x_runV (pc := 63) (As := []) (rest := []) C0 hK hw hl.1 ⟨Nat.zero_le _, Nat.zero_le _⟩ (kX7_ordersBest l D y ad hI  q14 hq20) (by decide) ly_m0 rfl rfl wc_X7_ordersBest wm_X7_223 wi_X7_ordersBest ws_X7_ordersBest wn_X7 ⟨rfl, rfl⟩ hd_X7_ordersBest rfl ⟨Nat.le_of_ble_eq_true rfl, Nat.le_of_ble_eq_true rfl⟩ (Nat.le_of_ble_eq_true rfl) dX7_ifPacked_63) (fun H locs hw => ?_)
              refine lv_goto (tgt := 73) (pc := 66) C0.1 C0.2.1 dX7_ifPacked_66 (by decide) ?_
              refine lv_aload_n (pc := 73) C0.1 C0.2.1 dX7_ifPacked_73 rfl (lv_at hl 0 rfl) ?_
              obtain ⟨q21, hq21, hf⟩ := bd_e hf
              refine x_backv (pc := 74) hw (x_runV (pc := 74) (As := []) (rest := []) C0 hK hw hl.1 ⟨Nat.zero_le _, Nat.zero_le _⟩ (kX7_packs l D y ad hI  q20 hq21) (by decide) ly_m0 rfl rfl wc_X7_packs wm_X7_211 wi_X7_packs ws_X7_packs wn_X7 ⟨rfl, rfl⟩ hd_X7_packs rfl ⟨Nat.le_of_ble_eq_true rfl, Nat.le_of_ble_eq_true rfl⟩ (Nat.le_of_ble_eq_true rfl) dX7_ifPacked_74) (fun H locs hw => ?_)
              refine lv_iload_n (pc := 77) C0.1 C0.2.1 dX7_ifPacked_77 rfl (lv_at hl 2 rfl) ?_
              refine lv_bipush (v := 10) (pc := 78) C0.1 C0.2.1 dX7_ifPacked_78 (by decide) ?_
              refine lv_icmp_lt (tgt := 95) (pc := 80) C0.1 C0.2.1 dX7_ifPacked_80 (by decide) (fun hc => ?_) (fun hc => ?_)
              · have hf := if_t hf hc
                refine lv_aload_n (pc := 95) C0.1 C0.2.1 dX7_ifPacked_95 rfl (lv_at hl 0 rfl) ?_
                refine lv_iload_n (pc := 96) C0.1 C0.2.1 dX7_ifPacked_96 rfl (lv_at hl 2 rfl) ?_
                obtain ⟨q22, hq22, hf⟩ := bd_e hf
                refine x_backp (pc := 97) hw (x_runV (pc := 97) (As := [.int v2]) (rest := []) C0 hK hw hl.1 ⟨Nat.zero_le _, Nat.zero_le _⟩ (kX7_comesTo l D y ad hI v2 q21 hq22) (by decide) ly_m0 rfl rfl wc_X7_comesTo wm_X7_208 wi_X7_comesTo ws_X7_comesTo wn_X7 ⟨rfl, rfl⟩ hd_X7_comesTo rfl ⟨Nat.le_of_ble_eq_true rfl, Nat.le_of_ble_eq_true rfl⟩ (Nat.le_of_ble_eq_true rfl) dX7_ifPacked_97) (fun H locs hw => ?_)
                refine lv_istore_n (pc := 100) (lv' := [(3, .int q22), (0, .ref (ad 0)), (1, .int v1), (2, .int v2)]) C0.1 C0.2.1 dX7_ifPacked_100 rfl hl (by decide) rfl (fun ls hl => ?_)
                refine lv_aload_n (pc := 101) C0.1 C0.2.1 dX7_ifPacked_101 rfl (lv_at hl 1 rfl) ?_
                refine lv_bipush (v := 10) (pc := 102) C0.1 C0.2.1 dX7_ifPacked_102 (by decide) ?_
                refine lv_iconst (v := 0) (pc := 104) C0.1 C0.2.1 dX7_ifPacked_104 (by decide) ?_
                obtain ⟨q23, hq23, hf⟩ := bd_e hf
                refine x_backv (pc := 105) hw (x_runV (pc := 105) (As := [.int 10, .int 0]) (rest := []) C0 hK hw hl.1 ⟨Nat.zero_le _, Nat.zero_le _⟩ (kX7_copies l D y ad hI 10 0 q21 hq23) (by decide) ly_m0 rfl rfl wc_X7_copies wm_X7_35 wi_X7_copies ws_X7_copies wn_X7 ⟨rfl, rfl⟩ hd_X7_copies rfl ⟨Nat.le_of_ble_eq_true rfl, Nat.le_of_ble_eq_true rfl⟩ (Nat.le_of_ble_eq_true rfl) dX7_ifPacked_105) (fun H locs hw => ?_)
                refine lv_iload_n (pc := 108) C0.1 C0.2.1 dX7_ifPacked_108 rfl (lv_at hl 0 rfl) ?_
                exact x_iret (pc := 109) C0 hK hk hr hw (Option.some.inj hf) dX7_ifPacked_109
              · have hf := if_f hf hc
                refine lv_aload_n (pc := 83) C0.1 C0.2.1 dX7_ifPacked_83 rfl (lv_at hl 0 rfl) ?_
                refine x_get (pc := 84) (v := .ref (ad 4)) C0 hK hw (by decide) ly_m0 rfl inX7 16 (by decide) wf_X7_19 rfl rfl dX7_ifPacked_84 ?_
                refine lv_iload_n (pc := 87) C0.1 C0.2.1 dX7_ifPacked_87 rfl (lv_at hl 2 rfl) ?_
                refine lv_bipush (v := 10) (pc := 88) C0.1 C0.2.1 dX7_ifPacked_88 (by decide) ?_
                refine lv_isub (pc := 90) C0.1 C0.2.1 dX7_ifPacked_90 ?_
                obtain ⟨hi, hf⟩ := gd_e hf
                refine x_iald (pc := 91) C0 hK hw (by decide) ly_m4 hi dX7_ifPacked_91 ?_
                refine lv_goto (tgt := 100) (pc := 92) C0.1 C0.2.1 dX7_ifPacked_92 (by decide) ?_
                refine lv_istore_n (pc := 100) (lv' := [(3, .int (q21.1 4 (v2 - 10).toNatClampNeg)), (0, .ref (ad 0)), (1, .int v1), (2, .int v2)]) C0.1 C0.2.1 dX7_ifPacked_100 rfl hl (by decide) rfl (fun ls hl => ?_)
                refine lv_aload_n (pc := 101) C0.1 C0.2.1 dX7_ifPacked_101 rfl (lv_at hl 1 rfl) ?_
                refine lv_bipush (v := 10) (pc := 102) C0.1 C0.2.1 dX7_ifPacked_102 (by decide) ?_
                refine lv_iconst (v := 0) (pc := 104) C0.1 C0.2.1 dX7_ifPacked_104 (by decide) ?_
                obtain ⟨q24, hq24, hf⟩ := bd_e hf
                refine x_backv (pc := 105) hw (x_runV (pc := 105) (As := [.int 10, .int 0]) (rest := []) C0 hK hw hl.1 ⟨Nat.zero_le _, Nat.zero_le _⟩ (kX7_copies l D y ad hI 10 0 q21 hq24) (by decide) ly_m0 rfl rfl wc_X7_copies wm_X7_35 wi_X7_copies ws_X7_copies wn_X7 ⟨rfl, rfl⟩ hd_X7_copies rfl ⟨Nat.le_of_ble_eq_true rfl, Nat.le_of_ble_eq_true rfl⟩ (Nat.le_of_ble_eq_true rfl) dX7_ifPacked_105) (fun H locs hw => ?_)
                refine lv_iload_n (pc := 108) C0.1 C0.2.1 dX7_ifPacked_108 rfl (lv_at hl 0 rfl) ?_
                exact x_iret (pc := 109) C0 hK hk hr hw (Option.some.inj hf) dX7_ifPacked_109
          · have hf := if_f hf hc
            refine lv_bipush (v := (-9)) (pc := 48) C0.1 C0.2.1 dX7_ifPacked_48 (by decide) ?_
            exact x_iret (pc := 50) C0 hK hk hr hw (Option.some.inj hf) dX7_ifPacked_50
      · have hf := if_f hf hc
        refine lv_aload_n (pc := 20) C0.1 C0.2.1 dX7_ifPacked_20 rfl (lv_at hl 0 rfl) ?_
        obtain ⟨q25, hq25, hf⟩ := bd_e hf
        refine x_backp (pc := 21) hw (x_runV (pc := 21) (As := []) (rest := []) C0 hK hw hl.1 ⟨Nat.zero_le _, Nat.zero_le _⟩ (kX7_trays l D y ad hI  u hq25) (by decide) ly_m0 rfl rfl wc_X7_trays wm_X7_39 wi_X7_trays ws_X7_trays wn_X7 ⟨rfl, rfl⟩ hd_X7_trays rfl ⟨Nat.le_of_ble_eq_true rfl, Nat.le_of_ble_eq_true rfl⟩ (Nat.le_of_ble_eq_true rfl) dX7_ifPacked_21) (fun H locs hw => ?_)
        refine lv_iconst (v := 5) (pc := 24) C0.1 C0.2.1 dX7_ifPacked_24 (by decide) ?_
        refine lv_icmp_le (tgt := 31) (pc := 25) C0.1 C0.2.1 dX7_ifPacked_25 (by decide) (fun hc => ?_) (fun hc => ?_)
        · have hf := if_t hf hc
          refine lv_iload_n (pc := 31) C0.1 C0.2.1 dX7_ifPacked_31 rfl (lv_at hl 2 rfl) ?_
          refine lv_bipush (v := 10) (pc := 32) C0.1 C0.2.1 dX7_ifPacked_32 (by decide) ?_
          refine lv_icmp_lt (tgt := 51) (pc := 34) C0.1 C0.2.1 dX7_ifPacked_34 (by decide) (fun hc => ?_) (fun hc => ?_)
          · have hf := if_t hf hc
            refine lv_aload_n (pc := 51) C0.1 C0.2.1 dX7_ifPacked_51 rfl (lv_at hl 0 rfl) ?_
            refine lv_iconst (v := 0) (pc := 52) C0.1 C0.2.1 dX7_ifPacked_52 (by decide) ?_
            refine lv_bipush (v := 10) (pc := 53) C0.1 C0.2.1 dX7_ifPacked_53 (by decide) ?_
            obtain ⟨q26, hq26, hf⟩ := bd_e hf
            refine x_backv (pc := 55) hw (x_runV (pc := 55) (As := [.int 0, .int 10]) (rest := []) C0 hK hw hl.1 ⟨Nat.zero_le _, Nat.zero_le _⟩ (kX7_copies l D y ad hI 0 10 u hq26) (by decide) ly_m0 rfl rfl wc_X7_copies wm_X7_35 wi_X7_copies ws_X7_copies wn_X7 ⟨rfl, rfl⟩ hd_X7_copies rfl ⟨Nat.le_of_ble_eq_true rfl, Nat.le_of_ble_eq_true rfl⟩ (Nat.le_of_ble_eq_true rfl) dX7_ifPacked_55) (fun H locs hw => ?_)
            refine lv_iload_n (pc := 58) C0.1 C0.2.1 dX7_ifPacked_58 rfl (lv_at hl 1 rfl) ?_
            refine lv_if_eq (tgt := 69) (pc := 59) C0.1 C0.2.1 dX7_ifPacked_59 (by decide) (fun hc => ?_) (fun hc => ?_)
            · have hf := if_t hf hc
              refine lv_aload_n (pc := 69) C0.1 C0.2.1 dX7_ifPacked_69 rfl (lv_at hl 0 rfl) ?_
              obtain ⟨q27, hq27, hf⟩ := bd_e hf
              refine x_backv (pc := 70) hw (x_runV (pc := 70) (As := []) (rest := []) C0 hK hw hl.1 ⟨Nat.zero_le _, Nat.zero_le _⟩ (kX7_ordersUsually l D y ad hI  q26 hq27) (by decide) ly_m0 rfl rfl wc_X7_ordersUsually wm_X7_220 wi_X7_ordersUsually ws_X7_ordersUsually wn_X7 ⟨rfl, rfl⟩ hd_X7_ordersUsually rfl ⟨Nat.le_of_ble_eq_true rfl, Nat.le_of_ble_eq_true rfl⟩ (Nat.le_of_ble_eq_true rfl) dX7_ifPacked_70) (fun H locs hw => ?_)
              refine lv_aload_n (pc := 73) C0.1 C0.2.1 dX7_ifPacked_73 rfl (lv_at hl 0 rfl) ?_
              obtain ⟨q28, hq28, hf⟩ := bd_e hf
              refine x_backv (pc := 74) hw (x_runV (pc := 74) (As := []) (rest := []) C0 hK hw hl.1 ⟨Nat.zero_le _, Nat.zero_le _⟩ (kX7_packs l D y ad hI  q27 hq28) (by decide) ly_m0 rfl rfl wc_X7_packs wm_X7_211 wi_X7_packs ws_X7_packs wn_X7 ⟨rfl, rfl⟩ hd_X7_packs rfl ⟨Nat.le_of_ble_eq_true rfl, Nat.le_of_ble_eq_true rfl⟩ (Nat.le_of_ble_eq_true rfl) dX7_ifPacked_74) (fun H locs hw => ?_)
              refine lv_iload_n (pc := 77) C0.1 C0.2.1 dX7_ifPacked_77 rfl (lv_at hl 2 rfl) ?_
              refine lv_bipush (v := 10) (pc := 78) C0.1 C0.2.1 dX7_ifPacked_78 (by decide) ?_
              refine lv_icmp_lt (tgt := 95) (pc := 80) C0.1 C0.2.1 dX7_ifPacked_80 (by decide) (fun hc => ?_) (fun hc => ?_)
              · have hf := if_t hf hc
                refine lv_aload_n (pc := 95) C0.1 C0.2.1 dX7_ifPacked_95 rfl (lv_at hl 0 rfl) ?_
                refine lv_iload_n (pc := 96) C0.1 C0.2.1 dX7_ifPacked_96 rfl (lv_at hl 2 rfl) ?_
                obtain ⟨q29, hq29, hf⟩ := bd_e hf
                refine x_backp (pc := 97) hw (x_runV (pc := 97) (As := [.int v2]) (rest := []) C0 hK hw hl.1 ⟨Nat.zero_le _, Nat.zero_le _⟩ (kX7_comesTo l D y ad hI v2 q28 hq29) (by decide) ly_m0 rfl rfl wc_X7_comesTo wm_X7_208 wi_X7_comesTo ws_X7_comesTo wn_X7 ⟨rfl, rfl⟩ hd_X7_comesTo rfl ⟨Nat.le_of_ble_eq_true rfl, Nat.le_of_ble_eq_true rfl⟩ (Nat.le_of_ble_eq_true rfl) dX7_ifPacked_97) (fun H locs hw => ?_)
                refine lv_istore_n (pc := 100) (lv' := [(3, .int q29), (0, .ref (ad 0)), (1, .int v1), (2, .int v2)]) C0.1 C0.2.1 dX7_ifPacked_100 rfl hl (by decide) rfl (fun ls hl => ?_)
                refine lv_aload_n (pc := 101) C0.1 C0.2.1 dX7_ifPacked_101 rfl (lv_at hl 1 rfl) ?_
                refine lv_bipush (v := 10) (pc := 102) C0.1 C0.2.1 dX7_ifPacked_102 (by decide) ?_
                refine lv_iconst (v := 0) (pc := 104) C0.1 C0.2.1 dX7_ifPacked_104 (by decide) ?_
                obtain ⟨q30, hq30, hf⟩ := bd_e hf
                refine x_backv (pc := 105) hw (x_runV (pc := 105) (As := [.int 10, .int 0]) (rest := []) C0 hK hw hl.1 ⟨Nat.zero_le _, Nat.zero_le _⟩ (kX7_copies l D y ad hI 10 0 q28 hq30) (by decide) ly_m0 rfl rfl wc_X7_copies wm_X7_35 wi_X7_copies ws_X7_copies wn_X7 ⟨rfl, rfl⟩ hd_X7_copies rfl ⟨Nat.le_of_ble_eq_true rfl, Nat.le_of_ble_eq_true rfl⟩ (Nat.le_of_ble_eq_true rfl) dX7_ifPacked_105) (fun H locs hw => ?_)
                refine lv_iload_n (pc := 108) C0.1 C0.2.1 dX7_ifPacked_108 rfl (lv_at hl 0 rfl) ?_
                exact x_iret (pc := 109) C0 hK hk hr hw (Option.some.inj hf) dX7_ifPacked_109
              · have hf := if_f hf hc
                refine lv_aload_n (pc := 83) C0.1 C0.2.1 dX7_ifPacked_83 rfl (lv_at hl 0 rfl) ?_
                refine x_get (pc := 84) (v := .ref (ad 4)) C0 hK hw (by decide) ly_m0 rfl inX7 16 (by decide) wf_X7_19 rfl rfl dX7_ifPacked_84 ?_
                refine lv_iload_n (pc := 87) C0.1 C0.2.1 dX7_ifPacked_87 rfl (lv_at hl 2 rfl) ?_
                refine lv_bipush (v := 10) (pc := 88) C0.1 C0.2.1 dX7_ifPacked_88 (by decide) ?_
                refine lv_isub (pc := 90) C0.1 C0.2.1 dX7_ifPacked_90 ?_
                obtain ⟨hi, hf⟩ := gd_e hf
                refine x_iald (pc := 91) C0 hK hw (by decide) ly_m4 hi dX7_ifPacked_91 ?_
                refine lv_goto (tgt := 100) (pc := 92) C0.1 C0.2.1 dX7_ifPacked_92 (by decide) ?_
                refine lv_istore_n (pc := 100) (lv' := [(3, .int (q28.1 4 (v2 - 10).toNatClampNeg)), (0, .ref (ad 0)), (1, .int v1), (2, .int v2)]) C0.1 C0.2.1 dX7_ifPacked_100 rfl hl (by decide) rfl (fun ls hl => ?_)
                refine lv_aload_n (pc := 101) C0.1 C0.2.1 dX7_ifPacked_101 rfl (lv_at hl 1 rfl) ?_
                refine lv_bipush (v := 10) (pc := 102) C0.1 C0.2.1 dX7_ifPacked_102 (by decide) ?_
                refine lv_iconst (v := 0) (pc := 104) C0.1 C0.2.1 dX7_ifPacked_104 (by decide) ?_
                obtain ⟨q31, hq31, hf⟩ := bd_e hf
                refine x_backv (pc := 105) hw (x_runV (pc := 105) (As := [.int 10, .int 0]) (rest := []) C0 hK hw hl.1 ⟨Nat.zero_le _, Nat.zero_le _⟩ (kX7_copies l D y ad hI 10 0 q28 hq31) (by decide) ly_m0 rfl rfl wc_X7_copies wm_X7_35 wi_X7_copies ws_X7_copies wn_X7 ⟨rfl, rfl⟩ hd_X7_copies rfl ⟨Nat.le_of_ble_eq_true rfl, Nat.le_of_ble_eq_true rfl⟩ (Nat.le_of_ble_eq_true rfl) dX7_ifPacked_105) (fun H locs hw => ?_)
                refine lv_iload_n (pc := 108) C0.1 C0.2.1 dX7_ifPacked_108 rfl (lv_at hl 0 rfl) ?_
                exact x_iret (pc := 109) C0 hK hk hr hw (Option.some.inj hf) dX7_ifPacked_109
            · have hf := if_f hf hc
              refine lv_aload_n (pc := 62) C0.1 C0.2.1 dX7_ifPacked_62 rfl (lv_at hl 0 rfl) ?_
              obtain ⟨q32, hq32, hf⟩ := bd_e hf
              refine x_backv (pc := 63) hw (x_runV (pc := 63) (As := []) (rest := []) C0 hK hw hl.1 ⟨Nat.zero_le _, Nat.zero_le _⟩ (kX7_ordersBest l D y ad hI  q26 hq32) (by decide) ly_m0 rfl rfl wc_X7_ordersBest wm_X7_223 wi_X7_ordersBest ws_X7_ordersBest wn_X7 ⟨rfl, rfl⟩ hd_X7_ordersBest rfl ⟨Nat.le_of_ble_eq_true rfl, Nat.le_of_ble_eq_true rfl⟩ (Nat.le_of_ble_eq_true rfl) dX7_ifPacked_63) (fun H locs hw => ?_)
              refine lv_goto (tgt := 73) (pc := 66) C0.1 C0.2.1 dX7_ifPacked_66 (by decide) ?_
              refine lv_aload_n (pc := 73) C0.1 C0.2.1 dX7_ifPacked_73 rfl (lv_at hl 0 rfl) ?_
              obtain ⟨q33, hq33, hf⟩ := bd_e hf
              refine x_backv (pc := 74) hw (x_runV (pc := 74) (As := []) (rest := []) C0 hK hw hl.1 ⟨Nat.zero_le _, Nat.zero_le _⟩ (kX7_packs l D y ad hI  q32 hq33) (by decide) ly_m0 rfl rfl wc_X7_packs wm_X7_211 wi_X7_packs ws_X7_packs wn_X7 ⟨rfl, rfl⟩ hd_X7_packs rfl ⟨Nat.le_of_ble_eq_true rfl, Nat.le_of_ble_eq_true rfl⟩ (Nat.le_of_ble_eq_true rfl) dX7_ifPacked_74) (fun H locs hw => ?_)
              refine lv_iload_n (pc := 77) C0.1 C0.2.1 dX7_ifPacked_77 rfl (lv_at hl 2 rfl) ?_
              refine lv_bipush (v := 10) (pc := 78) C0.1 C0.2.1 dX7_ifPacked_78 (by decide) ?_
              refine lv_icmp_lt (tgt := 95) (pc := 80) C0.1 C0.2.1 dX7_ifPacked_80 (by decide) (fun hc => ?_) (fun hc => ?_)
              · have hf := if_t hf hc
                refine lv_aload_n (pc := 95) C0.1 C0.2.1 dX7_ifPacked_95 rfl (lv_at hl 0 rfl) ?_
                refine lv_iload_n (pc := 96) C0.1 C0.2.1 dX7_ifPacked_96 rfl (lv_at hl 2 rfl) ?_
                obtain ⟨q34, hq34, hf⟩ := bd_e hf
                refine x_backp (pc := 97) hw (x_runV (pc := 97) (As := [.int v2]) (rest := []) C0 hK hw hl.1 ⟨Nat.zero_le _, Nat.zero_le _⟩ (kX7_comesTo l D y ad hI v2 q33 hq34) (by decide) ly_m0 rfl rfl wc_X7_comesTo wm_X7_208 wi_X7_comesTo ws_X7_comesTo wn_X7 ⟨rfl, rfl⟩ hd_X7_comesTo rfl ⟨Nat.le_of_ble_eq_true rfl, Nat.le_of_ble_eq_true rfl⟩ (Nat.le_of_ble_eq_true rfl) dX7_ifPacked_97) (fun H locs hw => ?_)
                refine lv_istore_n (pc := 100) (lv' := [(3, .int q34), (0, .ref (ad 0)), (1, .int v1), (2, .int v2)]) C0.1 C0.2.1 dX7_ifPacked_100 rfl hl (by decide) rfl (fun ls hl => ?_)
                refine lv_aload_n (pc := 101) C0.1 C0.2.1 dX7_ifPacked_101 rfl (lv_at hl 1 rfl) ?_
                refine lv_bipush (v := 10) (pc := 102) C0.1 C0.2.1 dX7_ifPacked_102 (by decide) ?_
                refine lv_iconst (v := 0) (pc := 104) C0.1 C0.2.1 dX7_ifPacked_104 (by decide) ?_
                obtain ⟨q35, hq35, hf⟩ := bd_e hf
                refine x_backv (pc := 105) hw (x_runV (pc := 105) (As := [.int 10, .int 0]) (rest := []) C0 hK hw hl.1 ⟨Nat.zero_le _, Nat.zero_le _⟩ (kX7_copies l D y ad hI 10 0 q33 hq35) (by decide) ly_m0 rfl rfl wc_X7_copies wm_X7_35 wi_X7_copies ws_X7_copies wn_X7 ⟨rfl, rfl⟩ hd_X7_copies rfl ⟨Nat.le_of_ble_eq_true rfl, Nat.le_of_ble_eq_true rfl⟩ (Nat.le_of_ble_eq_true rfl) dX7_ifPacked_105) (fun H locs hw => ?_)
                refine lv_iload_n (pc := 108) C0.1 C0.2.1 dX7_ifPacked_108 rfl (lv_at hl 0 rfl) ?_
                exact x_iret (pc := 109) C0 hK hk hr hw (Option.some.inj hf) dX7_ifPacked_109
              · have hf := if_f hf hc
                refine lv_aload_n (pc := 83) C0.1 C0.2.1 dX7_ifPacked_83 rfl (lv_at hl 0 rfl) ?_
                refine x_get (pc := 84) (v := .ref (ad 4)) C0 hK hw (by decide) ly_m0 rfl inX7 16 (by decide) wf_X7_19 rfl rfl dX7_ifPacked_84 ?_
                refine lv_iload_n (pc := 87) C0.1 C0.2.1 dX7_ifPacked_87 rfl (lv_at hl 2 rfl) ?_
                refine lv_bipush (v := 10) (pc := 88) C0.1 C0.2.1 dX7_ifPacked_88 (by decide) ?_
                refine lv_isub (pc := 90) C0.1 C0.2.1 dX7_ifPacked_90 ?_
                obtain ⟨hi, hf⟩ := gd_e hf
                refine x_iald (pc := 91) C0 hK hw (by decide) ly_m4 hi dX7_ifPacked_91 ?_
                refine lv_goto (tgt := 100) (pc := 92) C0.1 C0.2.1 dX7_ifPacked_92 (by decide) ?_
                refine lv_istore_n (pc := 100) (lv' := [(3, .int (q33.1 4 (v2 - 10).toNatClampNeg)), (0, .ref (ad 0)), (1, .int v1), (2, .int v2)]) C0.1 C0.2.1 dX7_ifPacked_100 rfl hl (by decide) rfl (fun ls hl => ?_)
                refine lv_aload_n (pc := 101) C0.1 C0.2.1 dX7_ifPacked_101 rfl (lv_at hl 1 rfl) ?_
                refine lv_bipush (v := 10) (pc := 102) C0.1 C0.2.1 dX7_ifPacked_102 (by decide) ?_
                refine lv_iconst (v := 0) (pc := 104) C0.1 C0.2.1 dX7_ifPacked_104 (by decide) ?_
                obtain ⟨q36, hq36, hf⟩ := bd_e hf
                refine x_backv (pc := 105) hw (x_runV (pc := 105) (As := [.int 10, .int 0]) (rest := []) C0 hK hw hl.1 ⟨Nat.zero_le _, Nat.zero_le _⟩ (kX7_copies l D y ad hI 10 0 q33 hq36) (by decide) ly_m0 rfl rfl wc_X7_copies wm_X7_35 wi_X7_copies ws_X7_copies wn_X7 ⟨rfl, rfl⟩ hd_X7_copies rfl ⟨Nat.le_of_ble_eq_true rfl, Nat.le_of_ble_eq_true rfl⟩ (Nat.le_of_ble_eq_true rfl) dX7_ifPacked_105) (fun H locs hw => ?_)
                refine lv_iload_n (pc := 108) C0.1 C0.2.1 dX7_ifPacked_108 rfl (lv_at hl 0 rfl) ?_
                exact x_iret (pc := 109) C0 hK hk hr hw (Option.some.inj hf) dX7_ifPacked_109
          · have hf := if_f hf hc
            refine lv_iload_n (pc := 37) C0.1 C0.2.1 dX7_ifPacked_37 rfl (lv_at hl 2 rfl) ?_
            refine lv_bipush (v := 10) (pc := 38) C0.1 C0.2.1 dX7_ifPacked_38 (by decide) ?_
            refine lv_isub (pc := 40) C0.1 C0.2.1 dX7_ifPacked_40 ?_
            refine lv_aload_n (pc := 41) C0.1 C0.2.1 dX7_ifPacked_41 rfl (lv_at hl 0 rfl) ?_
            obtain ⟨q37, hq37, hf⟩ := bd_e hf
            refine x_backp (pc := 42) hw (x_runV (pc := 42) (As := []) (rest := [.int (v2 - 10)]) C0 hK hw hl.1 ⟨Nat.zero_le _, Nat.zero_le _⟩ (kX7_trays l D y ad hI  u hq37) (by decide) ly_m0 rfl rfl wc_X7_trays wm_X7_39 wi_X7_trays ws_X7_trays wn_X7 ⟨rfl, rfl⟩ hd_X7_trays rfl ⟨Nat.le_of_ble_eq_true rfl, Nat.le_of_ble_eq_true rfl⟩ (Nat.le_of_ble_eq_true rfl) dX7_ifPacked_42) (fun H locs hw => ?_)
            refine lv_icmp_lt (tgt := 51) (pc := 45) C0.1 C0.2.1 dX7_ifPacked_45 (by decide) (fun hc => ?_) (fun hc => ?_)
            · have hf := if_t hf hc
              refine lv_aload_n (pc := 51) C0.1 C0.2.1 dX7_ifPacked_51 rfl (lv_at hl 0 rfl) ?_
              refine lv_iconst (v := 0) (pc := 52) C0.1 C0.2.1 dX7_ifPacked_52 (by decide) ?_
              refine lv_bipush (v := 10) (pc := 53) C0.1 C0.2.1 dX7_ifPacked_53 (by decide) ?_
              obtain ⟨q38, hq38, hf⟩ := bd_e hf
              refine x_backv (pc := 55) hw (x_runV (pc := 55) (As := [.int 0, .int 10]) (rest := []) C0 hK hw hl.1 ⟨Nat.zero_le _, Nat.zero_le _⟩ (kX7_copies l D y ad hI 0 10 u hq38) (by decide) ly_m0 rfl rfl wc_X7_copies wm_X7_35 wi_X7_copies ws_X7_copies wn_X7 ⟨rfl, rfl⟩ hd_X7_copies rfl ⟨Nat.le_of_ble_eq_true rfl, Nat.le_of_ble_eq_true rfl⟩ (Nat.le_of_ble_eq_true rfl) dX7_ifPacked_55) (fun H locs hw => ?_)
              refine lv_iload_n (pc := 58) C0.1 C0.2.1 dX7_ifPacked_58 rfl (lv_at hl 1 rfl) ?_
              refine lv_if_eq (tgt := 69) (pc := 59) C0.1 C0.2.1 dX7_ifPacked_59 (by decide) (fun hc => ?_) (fun hc => ?_)
              · have hf := if_t hf hc
                refine lv_aload_n (pc := 69) C0.1 C0.2.1 dX7_ifPacked_69 rfl (lv_at hl 0 rfl) ?_
                obtain ⟨q39, hq39, hf⟩ := bd_e hf
                refine x_backv (pc := 70) hw (x_runV (pc := 70) (As := []) (rest := []) C0 hK hw hl.1 ⟨Nat.zero_le _, Nat.zero_le _⟩ (kX7_ordersUsually l D y ad hI  q38 hq39) (by decide) ly_m0 rfl rfl wc_X7_ordersUsually wm_X7_220 wi_X7_ordersUsually ws_X7_ordersUsually wn_X7 ⟨rfl, rfl⟩ hd_X7_ordersUsually rfl ⟨Nat.le_of_ble_eq_true rfl, Nat.le_of_ble_eq_true rfl⟩ (Nat.le_of_ble_eq_true rfl) dX7_ifPacked_70) (fun H locs hw => ?_)
                refine lv_aload_n (pc := 73) C0.1 C0.2.1 dX7_ifPacked_73 rfl (lv_at hl 0 rfl) ?_
                obtain ⟨q40, hq40, hf⟩ := bd_e hf
                refine x_backv (pc := 74) hw (x_runV (pc := 74) (As := []) (rest := []) C0 hK hw hl.1 ⟨Nat.zero_le _, Nat.zero_le _⟩ (kX7_packs l D y ad hI  q39 hq40) (by decide) ly_m0 rfl rfl wc_X7_packs wm_X7_211 wi_X7_packs ws_X7_packs wn_X7 ⟨rfl, rfl⟩ hd_X7_packs rfl ⟨Nat.le_of_ble_eq_true rfl, Nat.le_of_ble_eq_true rfl⟩ (Nat.le_of_ble_eq_true rfl) dX7_ifPacked_74) (fun H locs hw => ?_)
                refine lv_iload_n (pc := 77) C0.1 C0.2.1 dX7_ifPacked_77 rfl (lv_at hl 2 rfl) ?_
                refine lv_bipush (v := 10) (pc := 78) C0.1 C0.2.1 dX7_ifPacked_78 (by decide) ?_
                refine lv_icmp_lt (tgt := 95) (pc := 80) C0.1 C0.2.1 dX7_ifPacked_80 (by decide) (fun hc => ?_) (fun hc => ?_)
                · have hf := if_t hf hc
                  refine lv_aload_n (pc := 95) C0.1 C0.2.1 dX7_ifPacked_95 rfl (lv_at hl 0 rfl) ?_
                  refine lv_iload_n (pc := 96) C0.1 C0.2.1 dX7_ifPacked_96 rfl (lv_at hl 2 rfl) ?_
                  obtain ⟨q41, hq41, hf⟩ := bd_e hf
                  refine x_backp (pc := 97) hw (x_runV (pc := 97) (As := [.int v2]) (rest := []) C0 hK hw hl.1 ⟨Nat.zero_le _, Nat.zero_le _⟩ (kX7_comesTo l D y ad hI v2 q40 hq41) (by decide) ly_m0 rfl rfl wc_X7_comesTo wm_X7_208 wi_X7_comesTo ws_X7_comesTo wn_X7 ⟨rfl, rfl⟩ hd_X7_comesTo rfl ⟨Nat.le_of_ble_eq_true rfl, Nat.le_of_ble_eq_true rfl⟩ (Nat.le_of_ble_eq_true rfl) dX7_ifPacked_97) (fun H locs hw => ?_)
                  refine lv_istore_n (pc := 100) (lv' := [(3, .int q41), (0, .ref (ad 0)), (1, .int v1), (2, .int v2)]) C0.1 C0.2.1 dX7_ifPacked_100 rfl hl (by decide) rfl (fun ls hl => ?_)
                  refine lv_aload_n (pc := 101) C0.1 C0.2.1 dX7_ifPacked_101 rfl (lv_at hl 1 rfl) ?_
                  refine lv_bipush (v := 10) (pc := 102) C0.1 C0.2.1 dX7_ifPacked_102 (by decide) ?_
                  refine lv_iconst (v := 0) (pc := 104) C0.1 C0.2.1 dX7_ifPacked_104 (by decide) ?_
                  obtain ⟨q42, hq42, hf⟩ := bd_e hf
                  refine x_backv (pc := 105) hw (x_runV (pc := 105) (As := [.int 10, .int 0]) (rest := []) C0 hK hw hl.1 ⟨Nat.zero_le _, Nat.zero_le _⟩ (kX7_copies l D y ad hI 10 0 q40 hq42) (by decide) ly_m0 rfl rfl wc_X7_copies wm_X7_35 wi_X7_copies ws_X7_copies wn_X7 ⟨rfl, rfl⟩ hd_X7_copies rfl ⟨Nat.le_of_ble_eq_true rfl, Nat.le_of_ble_eq_true rfl⟩ (Nat.le_of_ble_eq_true rfl) dX7_ifPacked_105) (fun H locs hw => ?_)
                  refine lv_iload_n (pc := 108) C0.1 C0.2.1 dX7_ifPacked_108 rfl (lv_at hl 0 rfl) ?_
                  exact x_iret (pc := 109) C0 hK hk hr hw (Option.some.inj hf) dX7_ifPacked_109
                · have hf := if_f hf hc
                  refine lv_aload_n (pc := 83) C0.1 C0.2.1 dX7_ifPacked_83 rfl (lv_at hl 0 rfl) ?_
                  refine x_get (pc := 84) (v := .ref (ad 4)) C0 hK hw (by decide) ly_m0 rfl inX7 16 (by decide) wf_X7_19 rfl rfl dX7_ifPacked_84 ?_
                  refine lv_iload_n (pc := 87) C0.1 C0.2.1 dX7_ifPacked_87 rfl (lv_at hl 2 rfl) ?_
                  refine lv_bipush (v := 10) (pc := 88) C0.1 C0.2.1 dX7_ifPacked_88 (by decide) ?_
                  refine lv_isub (pc := 90) C0.1 C0.2.1 dX7_ifPacked_90 ?_
                  obtain ⟨hi, hf⟩ := gd_e hf
                  refine x_iald (pc := 91) C0 hK hw (by decide) ly_m4 hi dX7_ifPacked_91 ?_
                  refine lv_goto (tgt := 100) (pc := 92) C0.1 C0.2.1 dX7_ifPacked_92 (by decide) ?_
                  refine lv_istore_n (pc := 100) (lv' := [(3, .int (q40.1 4 (v2 - 10).toNatClampNeg)), (0, .ref (ad 0)), (1, .int v1), (2, .int v2)]) C0.1 C0.2.1 dX7_ifPacked_100 rfl hl (by decide) rfl (fun ls hl => ?_)
                  refine lv_aload_n (pc := 101) C0.1 C0.2.1 dX7_ifPacked_101 rfl (lv_at hl 1 rfl) ?_
                  refine lv_bipush (v := 10) (pc := 102) C0.1 C0.2.1 dX7_ifPacked_102 (by decide) ?_
                  refine lv_iconst (v := 0) (pc := 104) C0.1 C0.2.1 dX7_ifPacked_104 (by decide) ?_
                  obtain ⟨q43, hq43, hf⟩ := bd_e hf
                  refine x_backv (pc := 105) hw (x_runV (pc := 105) (As := [.int 10, .int 0]) (rest := []) C0 hK hw hl.1 ⟨Nat.zero_le _, Nat.zero_le _⟩ (kX7_copies l D y ad hI 10 0 q40 hq43) (by decide) ly_m0 rfl rfl wc_X7_copies wm_X7_35 wi_X7_copies ws_X7_copies wn_X7 ⟨rfl, rfl⟩ hd_X7_copies rfl ⟨Nat.le_of_ble_eq_true rfl, Nat.le_of_ble_eq_true rfl⟩ (Nat.le_of_ble_eq_true rfl) dX7_ifPacked_105) (fun H locs hw => ?_)
                  refine lv_iload_n (pc := 108) C0.1 C0.2.1 dX7_ifPacked_108 rfl (lv_at hl 0 rfl) ?_
                  exact x_iret (pc := 109) C0 hK hk hr hw (Option.some.inj hf) dX7_ifPacked_109
              · have hf := if_f hf hc
                refine lv_aload_n (pc := 62) C0.1 C0.2.1 dX7_ifPacked_62 rfl (lv_at hl 0 rfl) ?_
                obtain ⟨q44, hq44, hf⟩ := bd_e hf
                refine x_backv (pc := 63) hw (x_runV (pc := 63) (As := []) (rest := []) C0 hK hw hl.1 ⟨Nat.zero_le _, Nat.zero_le _⟩ (kX7_ordersBest l D y ad hI  q38 hq44) (by decide) ly_m0 rfl rfl wc_X7_ordersBest wm_X7_223 wi_X7_ordersBest ws_X7_ordersBest wn_X7 ⟨rfl, rfl⟩ hd_X7_ordersBest rfl ⟨Nat.le_of_ble_eq_true rfl, Nat.le_of_ble_eq_true rfl⟩ (Nat.le_of_ble_eq_true rfl) dX7_ifPacked_63) (fun H locs hw => ?_)
                refine lv_goto (tgt := 73) (pc := 66) C0.1 C0.2.1 dX7_ifPacked_66 (by decide) ?_
                refine lv_aload_n (pc := 73) C0.1 C0.2.1 dX7_ifPacked_73 rfl (lv_at hl 0 rfl) ?_
                obtain ⟨q45, hq45, hf⟩ := bd_e hf
                refine x_backv (pc := 74) hw (x_runV (pc := 74) (As := []) (rest := []) C0 hK hw hl.1 ⟨Nat.zero_le _, Nat.zero_le _⟩ (kX7_packs l D y ad hI  q44 hq45) (by decide) ly_m0 rfl rfl wc_X7_packs wm_X7_211 wi_X7_packs ws_X7_packs wn_X7 ⟨rfl, rfl⟩ hd_X7_packs rfl ⟨Nat.le_of_ble_eq_true rfl, Nat.le_of_ble_eq_true rfl⟩ (Nat.le_of_ble_eq_true rfl) dX7_ifPacked_74) (fun H locs hw => ?_)
                refine lv_iload_n (pc := 77) C0.1 C0.2.1 dX7_ifPacked_77 rfl (lv_at hl 2 rfl) ?_
                refine lv_bipush (v := 10) (pc := 78) C0.1 C0.2.1 dX7_ifPacked_78 (by decide) ?_
                refine lv_icmp_lt (tgt := 95) (pc := 80) C0.1 C0.2.1 dX7_ifPacked_80 (by decide) (fun hc => ?_) (fun hc => ?_)
                · have hf := if_t hf hc
                  refine lv_aload_n (pc := 95) C0.1 C0.2.1 dX7_ifPacked_95 rfl (lv_at hl 0 rfl) ?_
                  refine lv_iload_n (pc := 96) C0.1 C0.2.1 dX7_ifPacked_96 rfl (lv_at hl 2 rfl) ?_
                  obtain ⟨q46, hq46, hf⟩ := bd_e hf
                  refine x_backp (pc := 97) hw (x_runV (pc := 97) (As := [.int v2]) (rest := []) C0 hK hw hl.1 ⟨Nat.zero_le _, Nat.zero_le _⟩ (kX7_comesTo l D y ad hI v2 q45 hq46) (by decide) ly_m0 rfl rfl wc_X7_comesTo wm_X7_208 wi_X7_comesTo ws_X7_comesTo wn_X7 ⟨rfl, rfl⟩ hd_X7_comesTo rfl ⟨Nat.le_of_ble_eq_true rfl, Nat.le_of_ble_eq_true rfl⟩ (Nat.le_of_ble_eq_true rfl) dX7_ifPacked_97) (fun H locs hw => ?_)
                  refine lv_istore_n (pc := 100) (lv' := [(3, .int q46), (0, .ref (ad 0)), (1, .int v1), (2, .int v2)]) C0.1 C0.2.1 dX7_ifPacked_100 rfl hl (by decide) rfl (fun ls hl => ?_)
                  refine lv_aload_n (pc := 101) C0.1 C0.2.1 dX7_ifPacked_101 rfl (lv_at hl 1 rfl) ?_
                  refine lv_bipush (v := 10) (pc := 102) C0.1 C0.2.1 dX7_ifPacked_102 (by decide) ?_
                  refine lv_iconst (v := 0) (pc := 104) C0.1 C0.2.1 dX7_ifPacked_104 (by decide) ?_
                  obtain ⟨q47, hq47, hf⟩ := bd_e hf
                  refine x_backv (pc := 105) hw (x_runV (pc := 105) (As := [.int 10, .int 0]) (rest := []) C0 hK hw hl.1 ⟨Nat.zero_le _, Nat.zero_le _⟩ (kX7_copies l D y ad hI 10 0 q45 hq47) (by decide) ly_m0 rfl rfl wc_X7_copies wm_X7_35 wi_X7_copies ws_X7_copies wn_X7 ⟨rfl, rfl⟩ hd_X7_copies rfl ⟨Nat.le_of_ble_eq_true rfl, Nat.le_of_ble_eq_true rfl⟩ (Nat.le_of_ble_eq_true rfl) dX7_ifPacked_105) (fun H locs hw => ?_)
                  refine lv_iload_n (pc := 108) C0.1 C0.2.1 dX7_ifPacked_108 rfl (lv_at hl 0 rfl) ?_
                  exact x_iret (pc := 109) C0 hK hk hr hw (Option.some.inj hf) dX7_ifPacked_109
                · have hf := if_f hf hc
                  refine lv_aload_n (pc := 83) C0.1 C0.2.1 dX7_ifPacked_83 rfl (lv_at hl 0 rfl) ?_
                  refine x_get (pc := 84) (v := .ref (ad 4)) C0 hK hw (by decide) ly_m0 rfl inX7 16 (by decide) wf_X7_19 rfl rfl dX7_ifPacked_84 ?_
                  refine lv_iload_n (pc := 87) C0.1 C0.2.1 dX7_ifPacked_87 rfl (lv_at hl 2 rfl) ?_
                  refine lv_bipush (v := 10) (pc := 88) C0.1 C0.2.1 dX7_ifPacked_88 (by decide) ?_
                  refine lv_isub (pc := 90) C0.1 C0.2.1 dX7_ifPacked_90 ?_
                  obtain ⟨hi, hf⟩ := gd_e hf
                  refine x_iald (pc := 91) C0 hK hw (by decide) ly_m4 hi dX7_ifPacked_91 ?_
                  refine lv_goto (tgt := 100) (pc := 92) C0.1 C0.2.1 dX7_ifPacked_92 (by decide) ?_
                  refine lv_istore_n (pc := 100) (lv' := [(3, .int (q45.1 4 (v2 - 10).toNatClampNeg)), (0, .ref (ad 0)), (1, .int v1), (2, .int v2)]) C0.1 C0.2.1 dX7_ifPacked_100 rfl hl (by decide) rfl (fun ls hl => ?_)
                  refine lv_aload_n (pc := 101) C0.1 C0.2.1 dX7_ifPacked_101 rfl (lv_at hl 1 rfl) ?_
                  refine lv_bipush (v := 10) (pc := 102) C0.1 C0.2.1 dX7_ifPacked_102 (by decide) ?_
                  refine lv_iconst (v := 0) (pc := 104) C0.1 C0.2.1 dX7_ifPacked_104 (by decide) ?_
                  obtain ⟨q48, hq48, hf⟩ := bd_e hf
                  refine x_backv (pc := 105) hw (x_runV (pc := 105) (As := [.int 10, .int 0]) (rest := []) C0 hK hw hl.1 ⟨Nat.zero_le _, Nat.zero_le _⟩ (kX7_copies l D y ad hI 10 0 q45 hq48) (by decide) ly_m0 rfl rfl wc_X7_copies wm_X7_35 wi_X7_copies ws_X7_copies wn_X7 ⟨rfl, rfl⟩ hd_X7_copies rfl ⟨Nat.le_of_ble_eq_true rfl, Nat.le_of_ble_eq_true rfl⟩ (Nat.le_of_ble_eq_true rfl) dX7_ifPacked_105) (fun H locs hw => ?_)
                  refine lv_iload_n (pc := 108) C0.1 C0.2.1 dX7_ifPacked_108 rfl (lv_at hl 0 rfl) ?_
                  exact x_iret (pc := 109) C0 hK hk hr hw (Option.some.inj hf) dX7_ifPacked_109
            · have hf := if_f hf hc
              refine lv_bipush (v := (-9)) (pc := 48) C0.1 C0.2.1 dX7_ifPacked_48 (by decide) ?_
              exact x_iret (pc := 50) C0 hK hk hr hw (Option.some.inj hf) dX7_ifPacked_50
        · have hf := if_f hf hc
          refine lv_bipush (v := (-2)) (pc := 28) C0.1 C0.2.1 dX7_ifPacked_28 (by decide) ?_
          exact x_iret (pc := 30) C0 hK hk hr hw (Option.some.inj hf) dX7_ifPacked_30
    · have hf := if_f hf hc
      refine lv_iconst (v := (-1)) (pc := 14) C0.1 C0.2.1 dX7_ifPacked_14 (by decide) ?_
      exact x_iret (pc := 15) C0 hK hk hr hw (Option.some.inj hf) dX7_ifPacked_15
def wX7_gets : List Cond := .code yX7_gets cX7_gets 6 (some .int) :: lwT
def rX7_gets : Room := { frames := 6, cells := 0, slots := 0, locals := 138 }
set_option maxRecDepth 100000 in
set_option maxHeartbeats 4000000 in
theorem kX7_gets (l : Launch) (D : va_G) (y : Nat → ClassId) (ad : Nat → Nat) (hI : XI ad 8) (v1 : Int32) (u : S) {o : Int32 × S} (hf : fX7_gets v1 u = some o) : Met l yX7_gets wX7_gets rX7_gets (va_Pc [.ref (ad 0), .int v1] (XW D y ad LM 8 u)) (XQi D y ad LM 8 o) 0 0 (XA ad 8) := by
  refine x_met (bytes := cX7_gets) (maxL := 6) (ret := (some .int)) (own := RX7) (by decide) rfl rfl (Nat.le_of_ble_eq_true rfl) (fun p e s m below meth c ls C0 hK hk hr hw hl => ?_)
  have hl : lv_has ls 6 [(0, .ref (ad 0)), (1, .int v1)] := hl
  unfold fX7_gets at hf
  refine lv_aload_n (pc := 0) C0.1 C0.2.1 dX7_gets_0 rfl (lv_at hl 0 rfl) ?_
  refine lv_iload_n (pc := 1) C0.1 C0.2.1 dX7_gets_1 rfl (lv_at hl 1 rfl) ?_
  obtain ⟨q1, hq1, hf⟩ := bd_e hf
  refine x_backp (pc := 2) hw (x_runV (pc := 2) (As := [.int v1]) (rest := []) C0 hK hw hl.1 ⟨Nat.zero_le _, Nat.zero_le _⟩ (kX7_above l D y ad hI v1 u hq1) (by decide) ly_m0 rfl rfl wc_X7_above wm_X7_118 wi_X7_above ws_X7_above wn_X7 ⟨rfl, rfl⟩ hd_X7_above rfl ⟨Nat.le_of_ble_eq_true rfl, Nat.le_of_ble_eq_true rfl⟩ (Nat.le_of_ble_eq_true rfl) dX7_gets_2) (fun H locs hw => ?_)
  refine lv_istore_n (pc := 5) (lv' := [(2, .int q1), (0, .ref (ad 0)), (1, .int v1)]) C0.1 C0.2.1 dX7_gets_5 rfl hl (by decide) rfl (fun ls hl => ?_)
  refine lv_iconst (v := 0) (pc := 6) C0.1 C0.2.1 dX7_gets_6 (by decide) ?_
  refine lv_istore_n (pc := 7) (lv' := [(3, .int 0), (2, .int q1), (0, .ref (ad 0)), (1, .int v1)]) C0.1 C0.2.1 dX7_gets_7 rfl hl (by decide) rfl (fun ls hl => ?_)
  refine lv_iconst (v := 0) (pc := 8) C0.1 C0.2.1 dX7_gets_8 (by decide) ?_
  refine lv_istore (pc := 9) (lv' := [(4, .int 0), (3, .int 0), (2, .int q1), (0, .ref (ad 0)), (1, .int v1)]) C0.1 C0.2.1 dX7_gets_9 hl (by decide) rfl (fun ls hl => ?_)
  obtain ⟨e2, he2, hf⟩ := bd_e hf
  refine X_loop (pc := 11) (xpc := 104) (fu := fun a1 => a1.2.2) (fl := fun a1 => [(4, .int a1.2.1), (3, .int a1.1), (2, .int q1), (0, .ref (ad 0)), (1, .int v1)]) (fun a1 r hf hE hG H locs ls hw hl => ?_) he2 (fun H locs ls hw hl => ?_) hw hl
  · unfold gX7_gets_11 at hf
    refine lv_iload (pc := 11) C0.1 C0.2.1 dX7_gets_11 (lv_at hl 0 rfl) ?_
    refine lv_aload_n (pc := 13) C0.1 C0.2.1 dX7_gets_13 rfl (lv_at hl 3 rfl) ?_
    obtain ⟨q3, hq3, hf⟩ := bd_e hf
    refine x_backp (pc := 14) hw (x_runV (pc := 14) (As := []) (rest := [.int a1.2.1]) C0 hK hw hl.1 ⟨Nat.zero_le _, Nat.zero_le _⟩ (kX7_trays l D y ad hI  a1.2.2 hq3) (by decide) ly_m0 rfl rfl wc_X7_trays wm_X7_39 wi_X7_trays ws_X7_trays wn_X7 ⟨rfl, rfl⟩ hd_X7_trays rfl ⟨Nat.le_of_ble_eq_true rfl, Nat.le_of_ble_eq_true rfl⟩ (Nat.le_of_ble_eq_true rfl) dX7_gets_14) (fun H locs hw => ?_)
    refine lv_icmp_ge (tgt := 104) (pc := 17) C0.1 C0.2.1 dX7_gets_17 (by decide) (fun hc => ?_) (fun hc => ?_)
    · have hf := if_t hf hc
      exact hE _ (Option.some.inj hf).symm H locs ls hw (lv_sub hl [0, 1, 2, 3, 4] rfl)
    · have hf := if_f hf hc
      refine lv_iload_n (pc := 20) C0.1 C0.2.1 dX7_gets_20 rfl (lv_at hl 2 rfl) ?_
      refine lv_iload (pc := 21) C0.1 C0.2.1 dX7_gets_21 (lv_at hl 0 rfl) ?_
      refine lv_ishr (pc := 23) C0.1 C0.2.1 dX7_gets_23 ?_
      refine lv_iconst (v := 1) (pc := 24) C0.1 C0.2.1 dX7_gets_24 (by decide) ?_
      refine lv_iand (pc := 25) C0.1 C0.2.1 dX7_gets_25 ?_
      refine lv_iconst (v := 1) (pc := 26) C0.1 C0.2.1 dX7_gets_26 (by decide) ?_
      refine lv_icmp_ne (tgt := 98) (pc := 27) C0.1 C0.2.1 dX7_gets_27 (by decide) (fun hc => ?_) (fun hc => ?_)
      · have hf := if_f hf hc
        refine lv_iinc (pc := 98) (v := a1.2.1 + 1) (lv' := [(4, .int (a1.2.1 + 1)), (3, .int a1.1), (2, .int q1), (0, .ref (ad 0)), (1, .int v1)]) C0.1 C0.2.1 dX7_gets_98 hl (k := 0) rfl rfl (by decide) rfl (fun ls hl => ?_)
        refine lv_goto (tgt := 11) (pc := 101) C0.1 C0.2.1 dX7_gets_101 (by decide) ?_
        exact hG _ (Option.some.inj hf).symm H locs ls hw (lv_sub hl [0, 1, 2, 3, 4] rfl)
      · have hf := if_t hf hc
        refine lv_iload_n (pc := 30) C0.1 C0.2.1 dX7_gets_30 rfl (lv_at hl 1 rfl) ?_
        refine lv_istore (pc := 31) (lv' := [(5, .int a1.1), (4, .int a1.2.1), (3, .int a1.1), (2, .int q1), (0, .ref (ad 0)), (1, .int v1)]) C0.1 C0.2.1 dX7_gets_31 hl (by decide) rfl (fun ls hl => ?_)
        obtain ⟨e4, he4, hf⟩ := bd_e hf
        refine X_loop (pc := 33) (xpc := 86) (fu := fun a2 => a2.2) (fl := fun a2 => [(5, .int a2.1), (4, .int a1.2.1), (3, .int a1.1), (2, .int q1), (0, .ref (ad 0)), (1, .int v1)]) (fun a2 r hf hE hG H locs ls hw hl => ?_) he4 (fun H locs ls hw hl => ?_) hw hl
        · unfold gX7_gets_33 at hf
          refine lv_iload (pc := 33) C0.1 C0.2.1 dX7_gets_33 (lv_at hl 0 rfl) ?_
          refine lv_if_le (tgt := 86) (pc := 35) C0.1 C0.2.1 dX7_gets_35 (by decide) (fun hc => ?_) (fun hc => ?_)
          · have hf := if_t hf hc
            exact hE _ (Option.some.inj hf).symm H locs ls hw (lv_sub hl [0, 1, 2, 3, 4, 5] rfl)
          · have hf := if_f hf hc
            refine lv_aload_n (pc := 38) C0.1 C0.2.1 dX7_gets_38 rfl (lv_at hl 4 rfl) ?_
            refine lv_aload_n (pc := 39) C0.1 C0.2.1 dX7_gets_39 rfl (lv_at hl 4 rfl) ?_
            refine x_get (pc := 40) (v := .ref (ad 7)) C0 hK hw (by decide) ly_m0 rfl inX7 19 (by decide) wf_X7_28 rfl rfl dX7_gets_40 ?_
            refine lv_iload (pc := 43) C0.1 C0.2.1 dX7_gets_43 (lv_at hl 0 rfl) ?_
            refine lv_iconst (v := 1) (pc := 45) C0.1 C0.2.1 dX7_gets_45 (by decide) ?_
            refine lv_isub (pc := 46) C0.1 C0.2.1 dX7_gets_46 ?_
            obtain ⟨hi, hf⟩ := gd_e hf
            refine x_iald (pc := 47) C0 hK hw (by decide) ly_m7 hi dX7_gets_47 ?_
            refine lv_bipush (v := 9) (pc := 48) C0.1 C0.2.1 dX7_gets_48 (by decide) ?_
            obtain ⟨q5, hq5, hf⟩ := bd_e hf
            refine x_backp (pc := 50) hw (x_runV (pc := 50) (As := [.int (a2.2.1 7 (a2.1 - 1).toNatClampNeg), .int 9]) (rest := []) C0 hK hw hl.1 ⟨Nat.zero_le _, Nat.zero_le _⟩ (kX7_of l D y ad hI (a2.2.1 7 (a2.1 - 1).toNatClampNeg) 9 a2.2 hq5) (by decide) ly_m0 rfl rfl wc_X7_of wm_X7_47 wi_X7_of ws_X7_of wn_X7 ⟨rfl, rfl⟩ hd_X7_of rfl ⟨Nat.le_of_ble_eq_true rfl, Nat.le_of_ble_eq_true rfl⟩ (Nat.le_of_ble_eq_true rfl) dX7_gets_50) (fun H locs hw => ?_)
            refine lv_aload_n (pc := 53) C0.1 C0.2.1 dX7_gets_53 rfl (lv_at hl 4 rfl) ?_
            refine lv_iload (pc := 54) C0.1 C0.2.1 dX7_gets_54 (lv_at hl 1 rfl) ?_
            refine lv_bipush (v := 9) (pc := 56) C0.1 C0.2.1 dX7_gets_56 (by decide) ?_
            obtain ⟨q6, hq6, hf⟩ := bd_e hf
            refine x_backp (pc := 58) hw (x_runV (pc := 58) (As := [.int a1.2.1, .int 9]) (rest := [.int q5]) C0 hK hw hl.1 ⟨Nat.zero_le _, Nat.zero_le _⟩ (kX7_of l D y ad hI a1.2.1 9 a2.2 hq6) (by decide) ly_m0 rfl rfl wc_X7_of wm_X7_47 wi_X7_of ws_X7_of wn_X7 ⟨rfl, rfl⟩ hd_X7_of rfl ⟨Nat.le_of_ble_eq_true rfl, Nat.le_of_ble_eq_true rfl⟩ (Nat.le_of_ble_eq_true rfl) dX7_gets_58) (fun H locs hw => ?_)
            refine lv_icmp_le (tgt := 86) (pc := 61) C0.1 C0.2.1 dX7_gets_61 (by decide) (fun hc => ?_) (fun hc => ?_)
            · have hf := if_t hf hc
              exact hE _ (Option.some.inj hf).symm H locs ls hw (lv_sub hl [0, 1, 2, 3, 4, 5] rfl)
            · have hf := if_f hf hc
              refine lv_aload_n (pc := 64) C0.1 C0.2.1 dX7_gets_64 rfl (lv_at hl 4 rfl) ?_
              refine x_get (pc := 65) (v := .ref (ad 7)) C0 hK hw (by decide) ly_m0 rfl inX7 19 (by decide) wf_X7_28 rfl rfl dX7_gets_65 ?_
              refine lv_iload (pc := 68) C0.1 C0.2.1 dX7_gets_68 (lv_at hl 0 rfl) ?_
              refine lv_aload_n (pc := 70) C0.1 C0.2.1 dX7_gets_70 rfl (lv_at hl 4 rfl) ?_
              refine x_get (pc := 71) (v := .ref (ad 7)) C0 hK hw (by decide) ly_m0 rfl inX7 19 (by decide) wf_X7_28 rfl rfl dX7_gets_71 ?_
              refine lv_iload (pc := 74) C0.1 C0.2.1 dX7_gets_74 (lv_at hl 0 rfl) ?_
              refine lv_iconst (v := 1) (pc := 76) C0.1 C0.2.1 dX7_gets_76 (by decide) ?_
              refine lv_isub (pc := 77) C0.1 C0.2.1 dX7_gets_77 ?_
              obtain ⟨hi, hf⟩ := gd_e hf
              refine x_iald (pc := 78) C0 hK hw (by decide) ly_m7 hi dX7_gets_78 ?_
              obtain ⟨hi, hf⟩ := gd_e hf
              obtain ⟨u7, hu, hf⟩ := nm_f hf
              refine x_iast (pc := 79) hI C0 hK hw (by decide) ly_m7 hi hu dX7_gets_79 (fun H locs hw => ?_)
              refine lv_iinc (pc := 80) (v := a2.1 + (-1)) (lv' := [(5, .int (a2.1 + (-1))), (4, .int a1.2.1), (3, .int a1.1), (2, .int q1), (0, .ref (ad 0)), (1, .int v1)]) C0.1 C0.2.1 dX7_gets_80 hl (k := 0) rfl (congrArg (HAdd.hAdd _) (by decide)) (by decide) rfl (fun ls hl => ?_)
              refine lv_goto (tgt := 33) (pc := 83) C0.1 C0.2.1 dX7_gets_83 (by decide) ?_
              exact hG _ (Option.some.inj hf).symm H locs ls hw (lv_sub hl [0, 1, 2, 3, 4, 5] rfl)
        · skip
          refine lv_aload_n (pc := 86) C0.1 C0.2.1 dX7_gets_86 rfl (lv_at hl 4 rfl) ?_
          refine x_get (pc := 87) (v := .ref (ad 7)) C0 hK hw (by decide) ly_m0 rfl inX7 19 (by decide) wf_X7_28 rfl rfl dX7_gets_87 ?_
          refine lv_iload (pc := 90) C0.1 C0.2.1 dX7_gets_90 (lv_at hl 0 rfl) ?_
          refine lv_iload (pc := 92) C0.1 C0.2.1 dX7_gets_92 (lv_at hl 1 rfl) ?_
          obtain ⟨hi, hf⟩ := gd_e hf
          obtain ⟨u8, hu, hf⟩ := nm_f hf
          refine x_iast (pc := 94) hI C0 hK hw (by decide) ly_m7 hi hu dX7_gets_94 (fun H locs hw => ?_)
          refine lv_iinc (pc := 95) (v := a1.1 + 1) (lv' := [(3, .int (a1.1 + 1)), (5, .int e4.1), (4, .int a1.2.1), (2, .int q1), (0, .ref (ad 0)), (1, .int v1)]) C0.1 C0.2.1 dX7_gets_95 hl (k := 2) rfl rfl (by decide) rfl (fun ls hl => ?_)
          refine lv_iinc (pc := 98) (v := a1.2.1 + 1) (lv' := [(4, .int (a1.2.1 + 1)), (3, .int (a1.1 + 1)), (5, .int e4.1), (2, .int q1), (0, .ref (ad 0)), (1, .int v1)]) C0.1 C0.2.1 dX7_gets_98 hl (k := 2) rfl rfl (by decide) rfl (fun ls hl => ?_)
          refine lv_goto (tgt := 11) (pc := 101) C0.1 C0.2.1 dX7_gets_101 (by decide) ?_
          exact hG _ (Option.some.inj hf).symm H locs ls hw (lv_sub hl [0, 1, 3, 4, 5] rfl)
  · skip
    refine lv_aload_n (pc := 104) C0.1 C0.2.1 dX7_gets_104 rfl (lv_at hl 3 rfl) ?_
    refine lv_iload_n (pc := 105) C0.1 C0.2.1 dX7_gets_105 rfl (lv_at hl 4 rfl) ?_
    obtain ⟨q9, hq9, hf⟩ := bd_e hf
    refine x_backv (pc := 106) hw (x_runV (pc := 106) (As := [.int v1]) (rest := []) C0 hK hw hl.1 ⟨Nat.zero_le _, Nat.zero_le _⟩ (kX7_leaves l D y ad hI v1 e2.2.2 hq9) (by decide) ly_m0 rfl rfl wc_X7_leaves wm_X7_67 wi_X7_leaves ws_X7_leaves wn_X7 ⟨rfl, rfl⟩ hd_X7_leaves rfl ⟨Nat.le_of_ble_eq_true rfl, Nat.le_of_ble_eq_true rfl⟩ (Nat.le_of_ble_eq_true rfl) dX7_gets_106) (fun H locs hw => ?_)
    refine lv_iconst (v := 0) (pc := 109) C0.1 C0.2.1 dX7_gets_109 (by decide) ?_
    refine lv_istore (pc := 110) (lv' := [(4, .int 0), (3, .int e2.1), (2, .int q1), (0, .ref (ad 0)), (1, .int v1)]) C0.1 C0.2.1 dX7_gets_110 hl (by decide) rfl (fun ls hl => ?_)
    obtain ⟨e10, he10, hf⟩ := bd_e hf
    refine X_loop (pc := 112) (xpc := 137) (fu := fun a1 => a1.2) (fl := fun a1 => [(4, .int a1.1), (3, .int e2.1), (2, .int q1), (0, .ref (ad 0)), (1, .int v1)]) (fun a1 r hf hE hG H locs ls hw hl => ?_) he10 (fun H locs ls hw hl => ?_) hw hl
    · unfold gX7_gets_112 at hf
      refine lv_iload (pc := 112) C0.1 C0.2.1 dX7_gets_112 (lv_at hl 0 rfl) ?_
      refine lv_iload_n (pc := 114) C0.1 C0.2.1 dX7_gets_114 rfl (lv_at hl 1 rfl) ?_
      refine lv_icmp_ge (tgt := 137) (pc := 115) C0.1 C0.2.1 dX7_gets_115 (by decide) (fun hc => ?_) (fun hc => ?_)
      · have hf := if_t hf hc
        exact hE _ (Option.some.inj hf).symm H locs ls hw (lv_sub hl [0, 1, 2, 3, 4] rfl)
      · have hf := if_f hf hc
        refine lv_aload_n (pc := 118) C0.1 C0.2.1 dX7_gets_118 rfl (lv_at hl 3 rfl) ?_
        refine lv_aload_n (pc := 119) C0.1 C0.2.1 dX7_gets_119 rfl (lv_at hl 3 rfl) ?_
        refine x_get (pc := 120) (v := .ref (ad 7)) C0 hK hw (by decide) ly_m0 rfl inX7 19 (by decide) wf_X7_28 rfl rfl dX7_gets_120 ?_
        refine lv_iload (pc := 123) C0.1 C0.2.1 dX7_gets_123 (lv_at hl 0 rfl) ?_
        obtain ⟨hi, hf⟩ := gd_e hf
        refine x_iald (pc := 125) C0 hK hw (by decide) ly_m7 hi dX7_gets_125 ?_
        refine lv_iconst (v := 5) (pc := 126) C0.1 C0.2.1 dX7_gets_126 (by decide) ?_
        refine lv_iconst (v := 0) (pc := 127) C0.1 C0.2.1 dX7_gets_127 (by decide) ?_
        obtain ⟨q11, hq11, hf⟩ := bd_e hf
        refine x_backv (pc := 128) hw (x_runV (pc := 128) (As := [.int (a1.2.1 7 a1.1.toNatClampNeg), .int 5, .int 0]) (rest := []) C0 hK hw hl.1 ⟨Nat.zero_le _, Nat.zero_le _⟩ (kX7_sets l D y ad hI (a1.2.1 7 a1.1.toNatClampNeg) 5 0 a1.2 hq11) (by decide) ly_m0 rfl rfl wc_X7_sets wm_X7_63 wi_X7_sets ws_X7_sets wn_X7 ⟨rfl, rfl⟩ hd_X7_sets rfl ⟨Nat.le_of_ble_eq_true rfl, Nat.le_of_ble_eq_true rfl⟩ (Nat.le_of_ble_eq_true rfl) dX7_gets_128) (fun H locs hw => ?_)
        refine lv_iinc (pc := 131) (v := a1.1 + 1) (lv' := [(4, .int (a1.1 + 1)), (3, .int e2.1), (2, .int q1), (0, .ref (ad 0)), (1, .int v1)]) C0.1 C0.2.1 dX7_gets_131 hl (k := 0) rfl rfl (by decide) rfl (fun ls hl => ?_)
        refine lv_goto (tgt := 112) (pc := 134) C0.1 C0.2.1 dX7_gets_134 (by decide) ?_
        exact hG _ (Option.some.inj hf).symm H locs ls hw (lv_sub hl [0, 1, 2, 3, 4] rfl)
    · skip
      refine lv_iconst (v := 0) (pc := 137) C0.1 C0.2.1 dX7_gets_137 (by decide) ?_
      refine lv_istore (pc := 138) (lv' := [(4, .int 0), (3, .int e2.1), (2, .int q1), (0, .ref (ad 0)), (1, .int v1)]) C0.1 C0.2.1 dX7_gets_138 hl (by decide) rfl (fun ls hl => ?_)
      obtain ⟨e12, he12, hf⟩ := bd_e hf
      refine X_loop (pc := 140) (xpc := 202) (fu := fun a1 => a1.2) (fl := fun a1 => [(4, .int a1.1), (3, .int e2.1), (2, .int q1), (0, .ref (ad 0)), (1, .int v1)]) (fun a1 r hf hE hG H locs ls hw hl => ?_) he12 (fun H locs ls hw hl => ?_) hw hl
      · unfold gX7_gets_140 at hf
        refine lv_iload (pc := 140) C0.1 C0.2.1 dX7_gets_140 (lv_at hl 0 rfl) ?_
        refine lv_iload_n (pc := 142) C0.1 C0.2.1 dX7_gets_142 rfl (lv_at hl 1 rfl) ?_
        refine lv_icmp_ge (tgt := 202) (pc := 143) C0.1 C0.2.1 dX7_gets_143 (by decide) (fun hc => ?_) (fun hc => ?_)
        · have hf := if_t hf hc
          exact hE _ (Option.some.inj hf).symm H locs ls hw (lv_sub hl [0, 1, 2, 3, 4] rfl)
        · have hf := if_f hf hc
          refine lv_aload_n (pc := 146) C0.1 C0.2.1 dX7_gets_146 rfl (lv_at hl 3 rfl) ?_
          refine lv_aload_n (pc := 147) C0.1 C0.2.1 dX7_gets_147 rfl (lv_at hl 3 rfl) ?_
          refine x_get (pc := 148) (v := .ref (ad 7)) C0 hK hw (by decide) ly_m0 rfl inX7 19 (by decide) wf_X7_28 rfl rfl dX7_gets_148 ?_
          refine lv_iload (pc := 151) C0.1 C0.2.1 dX7_gets_151 (lv_at hl 0 rfl) ?_
          obtain ⟨hi, hf⟩ := gd_e hf
          refine x_iald (pc := 153) C0 hK hw (by decide) ly_m7 hi dX7_gets_153 ?_
          refine lv_aload_n (pc := 154) C0.1 C0.2.1 dX7_gets_154 rfl (lv_at hl 3 rfl) ?_
          refine lv_aload_n (pc := 155) C0.1 C0.2.1 dX7_gets_155 rfl (lv_at hl 3 rfl) ?_
          refine x_get (pc := 156) (v := .ref (ad 7)) C0 hK hw (by decide) ly_m0 rfl inX7 19 (by decide) wf_X7_28 rfl rfl dX7_gets_156 ?_
          refine lv_iload (pc := 159) C0.1 C0.2.1 dX7_gets_159 (lv_at hl 0 rfl) ?_
          obtain ⟨hi, hf⟩ := gd_e hf
          refine x_iald (pc := 161) C0 hK hw (by decide) ly_m7 hi dX7_gets_161 ?_
          refine lv_bipush (v := 7) (pc := 162) C0.1 C0.2.1 dX7_gets_162 (by decide) ?_
          obtain ⟨q13, hq13, hf⟩ := bd_e hf
          refine x_backp (pc := 164) hw (x_runV (pc := 164) (As := [.int (a1.2.1 7 a1.1.toNatClampNeg), .int 7]) (rest := [.int (a1.2.1 7 a1.1.toNatClampNeg), .ref (ad 0)]) C0 hK hw hl.1 ⟨Nat.zero_le _, Nat.zero_le _⟩ (kX7_of l D y ad hI (a1.2.1 7 a1.1.toNatClampNeg) 7 a1.2 hq13) (by decide) ly_m0 rfl rfl wc_X7_of wm_X7_47 wi_X7_of ws_X7_of wn_X7 ⟨rfl, rfl⟩ hd_X7_of rfl ⟨Nat.le_of_ble_eq_true rfl, Nat.le_of_ble_eq_true rfl⟩ (Nat.le_of_ble_eq_true rfl) dX7_gets_164) (fun H locs hw => ?_)
          refine lv_aload_n (pc := 167) C0.1 C0.2.1 dX7_gets_167 rfl (lv_at hl 3 rfl) ?_
          refine lv_aload_n (pc := 168) C0.1 C0.2.1 dX7_gets_168 rfl (lv_at hl 3 rfl) ?_
          refine x_get (pc := 169) (v := .ref (ad 7)) C0 hK hw (by decide) ly_m0 rfl inX7 19 (by decide) wf_X7_28 rfl rfl dX7_gets_169 ?_
          refine lv_iload (pc := 172) C0.1 C0.2.1 dX7_gets_172 (lv_at hl 0 rfl) ?_
          obtain ⟨hi, hf⟩ := gd_e hf
          refine x_iald (pc := 174) C0 hK hw (by decide) ly_m7 hi dX7_gets_174 ?_
          refine lv_bipush (v := 8) (pc := 175) C0.1 C0.2.1 dX7_gets_175 (by decide) ?_
          obtain ⟨q14, hq14, hf⟩ := bd_e hf
          refine x_backp (pc := 177) hw (x_runV (pc := 177) (As := [.int (a1.2.1 7 a1.1.toNatClampNeg), .int 8]) (rest := [.int q13, .int (a1.2.1 7 a1.1.toNatClampNeg), .ref (ad 0)]) C0 hK hw hl.1 ⟨Nat.zero_le _, Nat.zero_le _⟩ (kX7_of l D y ad hI (a1.2.1 7 a1.1.toNatClampNeg) 8 a1.2 hq14) (by decide) ly_m0 rfl rfl wc_X7_of wm_X7_47 wi_X7_of ws_X7_of wn_X7 ⟨rfl, rfl⟩ hd_X7_of rfl ⟨Nat.le_of_ble_eq_true rfl, Nat.le_of_ble_eq_true rfl⟩ (Nat.le_of_ble_eq_true rfl) dX7_gets_177) (fun H locs hw => ?_)
          refine lv_aload_n (pc := 180) C0.1 C0.2.1 dX7_gets_180 rfl (lv_at hl 3 rfl) ?_
          refine lv_aload_n (pc := 181) C0.1 C0.2.1 dX7_gets_181 rfl (lv_at hl 3 rfl) ?_
          refine x_get (pc := 182) (v := .ref (ad 7)) C0 hK hw (by decide) ly_m0 rfl inX7 19 (by decide) wf_X7_28 rfl rfl dX7_gets_182 ?_
          refine lv_iload (pc := 185) C0.1 C0.2.1 dX7_gets_185 (lv_at hl 0 rfl) ?_
          obtain ⟨hi, hf⟩ := gd_e hf
          refine x_iald (pc := 187) C0 hK hw (by decide) ly_m7 hi dX7_gets_187 ?_
          refine lv_bipush (v := 6) (pc := 188) C0.1 C0.2.1 dX7_gets_188 (by decide) ?_
          obtain ⟨q15, hq15, hf⟩ := bd_e hf
          refine x_backp (pc := 190) hw (x_runV (pc := 190) (As := [.int (a1.2.1 7 a1.1.toNatClampNeg), .int 6]) (rest := [.int q14, .int q13, .int (a1.2.1 7 a1.1.toNatClampNeg), .ref (ad 0)]) C0 hK hw hl.1 ⟨Nat.zero_le _, Nat.zero_le _⟩ (kX7_of l D y ad hI (a1.2.1 7 a1.1.toNatClampNeg) 6 a1.2 hq15) (by decide) ly_m0 rfl rfl wc_X7_of wm_X7_47 wi_X7_of ws_X7_of wn_X7 ⟨rfl, rfl⟩ hd_X7_of rfl ⟨Nat.le_of_ble_eq_true rfl, Nat.le_of_ble_eq_true rfl⟩ (Nat.le_of_ble_eq_true rfl) dX7_gets_190) (fun H locs hw => ?_)
          obtain ⟨q16, hq16, hf⟩ := bd_e hf
          refine x_backv (pc := 193) hw (x_runV (pc := 193) (As := [.int (a1.2.1 7 a1.1.toNatClampNeg), .int q13, .int q14, .int q15]) (rest := []) C0 hK hw hl.1 ⟨Nat.zero_le _, Nat.zero_le _⟩ (kX7_comes l D y ad hI (a1.2.1 7 a1.1.toNatClampNeg) q13 q14 q15 a1.2 hq16) (by decide) ly_m0 rfl rfl wc_X7_comes wm_X7_107 wi_X7_comes ws_X7_comes wn_X7 ⟨rfl, rfl⟩ hd_X7_comes rfl ⟨Nat.le_of_ble_eq_true rfl, Nat.le_of_ble_eq_true rfl⟩ (Nat.le_of_ble_eq_true rfl) dX7_gets_193) (fun H locs hw => ?_)
          refine lv_iinc (pc := 196) (v := a1.1 + 1) (lv' := [(4, .int (a1.1 + 1)), (3, .int e2.1), (2, .int q1), (0, .ref (ad 0)), (1, .int v1)]) C0.1 C0.2.1 dX7_gets_196 hl (k := 0) rfl rfl (by decide) rfl (fun ls hl => ?_)
          refine lv_goto (tgt := 140) (pc := 199) C0.1 C0.2.1 dX7_gets_199 (by decide) ?_
          exact hG _ (Option.some.inj hf).symm H locs ls hw (lv_sub hl [0, 1, 2, 3, 4] rfl)
      · skip
        refine lv_iload_n (pc := 202) C0.1 C0.2.1 dX7_gets_202 rfl (lv_at hl 1 rfl) ?_
        exact x_iret (pc := 203) C0 hK hk hr hw (Option.some.inj hf) dX7_gets_203
def wX7_plays : List Cond := .code yX7_plays cX7_plays 6 (some .int) :: lwT
def rX7_plays : Room := { frames := 7, cells := 0, slots := 0, locals := 163 }
set_option maxRecDepth 100000 in
set_option maxHeartbeats 4000000 in
theorem kX7_plays (l : Launch) (D : va_G) (y : Nat → ClassId) (ad : Nat → Nat) (hI : XI ad 8) (v1 : Int32) (u : S) {o : Int32 × S} (hf : fX7_plays v1 u = some o) : Met l yX7_plays wX7_plays rX7_plays (va_Pc [.ref (ad 0), .int v1] (XW D y ad LM 8 u)) (XQi D y ad LM 8 o) 0 0 (XA ad 8) := by
  refine x_met (bytes := cX7_plays) (maxL := 6) (ret := (some .int)) (own := RX7) (by decide) rfl rfl (Nat.le_of_ble_eq_true rfl) (fun p e s m below meth c ls C0 hK hk hr hw hl => ?_)
  have hl : lv_has ls 6 [(0, .ref (ad 0)), (1, .int v1)] := hl
  unfold fX7_plays at hf
  refine lv_iconst (v := 0) (pc := 0) C0.1 C0.2.1 dX7_plays_0 (by decide) ?_
  refine lv_istore_n (pc := 1) (lv' := [(2, .int 0), (0, .ref (ad 0)), (1, .int v1)]) C0.1 C0.2.1 dX7_plays_1 rfl hl (by decide) rfl (fun ls hl => ?_)
  refine lv_iconst (v := 1) (pc := 2) C0.1 C0.2.1 dX7_plays_2 (by decide) ?_
  refine lv_istore_n (pc := 3) (lv' := [(3, .int 1), (2, .int 0), (0, .ref (ad 0)), (1, .int v1)]) C0.1 C0.2.1 dX7_plays_3 rfl hl (by decide) rfl (fun ls hl => ?_)
  refine lv_iconst (v := 0) (pc := 4) C0.1 C0.2.1 dX7_plays_4 (by decide) ?_
  refine lv_istore (pc := 5) (lv' := [(4, .int 0), (3, .int 1), (2, .int 0), (0, .ref (ad 0)), (1, .int v1)]) C0.1 C0.2.1 dX7_plays_5 hl (by decide) rfl (fun ls hl => ?_)
  obtain ⟨e1, he1, hf⟩ := bd_e hf
  refine X_loop (pc := 7) (xpc := 84) (fu := fun a1 => a1.2.2.2) (fl := fun a1 => [(4, .int a1.2.2.1), (3, .int a1.2.1), (2, .int a1.1), (0, .ref (ad 0)), (1, .int v1)]) (fun a1 r hf hE hG H locs ls hw hl => ?_) he1 (fun H locs ls hw hl => ?_) hw hl
  · unfold gX7_plays_7 at hf
    refine lv_iload (pc := 7) C0.1 C0.2.1 dX7_plays_7 (lv_at hl 0 rfl) ?_
    refine lv_bipush (v := 10) (pc := 9) C0.1 C0.2.1 dX7_plays_9 (by decide) ?_
    refine lv_icmp_ge (tgt := 84) (pc := 11) C0.1 C0.2.1 dX7_plays_11 (by decide) (fun hc => ?_) (fun hc => ?_)
    · have hf := if_t hf hc
      exact hE _ (Option.some.inj hf).symm H locs ls hw (lv_sub hl [0, 1, 2, 3, 4] rfl)
    · have hf := if_f hf hc
      refine lv_iconst (v := 0) (pc := 14) C0.1 C0.2.1 dX7_plays_14 (by decide) ?_
      refine lv_istore (pc := 15) (lv' := [(5, .int 0), (4, .int a1.2.2.1), (3, .int a1.2.1), (2, .int a1.1), (0, .ref (ad 0)), (1, .int v1)]) C0.1 C0.2.1 dX7_plays_15 hl (by decide) rfl (fun ls hl => ?_)
      obtain ⟨e2, he2, hf⟩ := bd_e hf
      refine X_loop (pc := 17) (xpc := 78) (fu := fun a2 => a2.2.2.2) (fl := fun a2 => [(5, .int a2.2.2.1), (4, .int a1.2.2.1), (3, .int a2.2.1), (2, .int a2.1), (0, .ref (ad 0)), (1, .int v1)]) (fun a2 r hf hE hG H locs ls hw hl => ?_) he2 (fun H locs ls hw hl => ?_) hw hl
      · unfold gX7_plays_17 at hf
        refine lv_iload (pc := 17) C0.1 C0.2.1 dX7_plays_17 (lv_at hl 0 rfl) ?_
        refine lv_aload_n (pc := 19) C0.1 C0.2.1 dX7_plays_19 rfl (lv_at hl 4 rfl) ?_
        obtain ⟨q3, hq3, hf⟩ := bd_e hf
        refine x_backp (pc := 20) hw (x_runV (pc := 20) (As := []) (rest := [.int a2.2.2.1]) C0 hK hw hl.1 ⟨Nat.zero_le _, Nat.zero_le _⟩ (kX7_trays l D y ad hI  a2.2.2.2 hq3) (by decide) ly_m0 rfl rfl wc_X7_trays wm_X7_39 wi_X7_trays ws_X7_trays wn_X7 ⟨rfl, rfl⟩ hd_X7_trays rfl ⟨Nat.le_of_ble_eq_true rfl, Nat.le_of_ble_eq_true rfl⟩ (Nat.le_of_ble_eq_true rfl) dX7_plays_20) (fun H locs hw => ?_)
        refine lv_icmp_ge (tgt := 78) (pc := 23) C0.1 C0.2.1 dX7_plays_23 (by decide) (fun hc => ?_) (fun hc => ?_)
        · have hf := if_t hf hc
          exact hE _ (Option.some.inj hf).symm H locs ls hw (lv_sub hl [0, 1, 2, 3, 4, 5] rfl)
        · have hf := if_f hf hc
          refine lv_iload_n (pc := 26) C0.1 C0.2.1 dX7_plays_26 rfl (lv_at hl 2 rfl) ?_
          refine lv_if_eq (tgt := 72) (pc := 27) C0.1 C0.2.1 dX7_plays_27 (by decide) (fun hc => ?_) (fun hc => ?_)
          · have hf := if_t hf hc
            refine lv_iinc (pc := 72) (v := a2.2.2.1 + 1) (lv' := [(5, .int (a2.2.2.1 + 1)), (4, .int a1.2.2.1), (3, .int a2.2.1), (2, .int a2.1), (0, .ref (ad 0)), (1, .int v1)]) C0.1 C0.2.1 dX7_plays_72 hl (k := 0) rfl rfl (by decide) rfl (fun ls hl => ?_)
            refine lv_goto (tgt := 17) (pc := 75) C0.1 C0.2.1 dX7_plays_75 (by decide) ?_
            exact hG _ (Option.some.inj hf).symm H locs ls hw (lv_sub hl [0, 1, 2, 3, 4, 5] rfl)
          · have hf := if_f hf hc
            refine lv_aload_n (pc := 30) C0.1 C0.2.1 dX7_plays_30 rfl (lv_at hl 4 rfl) ?_
            refine lv_iload (pc := 31) C0.1 C0.2.1 dX7_plays_31 (lv_at hl 0 rfl) ?_
            obtain ⟨q4, hq4, hf⟩ := bd_e hf
            refine x_backp (pc := 33) hw (x_runV (pc := 33) (As := [.int a2.2.2.1]) (rest := []) C0 hK hw hl.1 ⟨Nat.zero_le _, Nat.zero_le _⟩ (kX7_isIn l D y ad hI a2.2.2.1 a2.2.2.2 hq4) (by decide) ly_m0 rfl rfl wc_X7_isIn wm_X7_71 wi_X7_isIn ws_X7_isIn wn_X7 ⟨rfl, rfl⟩ hd_X7_isIn rfl ⟨Nat.le_of_ble_eq_true rfl, Nat.le_of_ble_eq_true rfl⟩ (Nat.le_of_ble_eq_true rfl) dX7_plays_33) (fun H locs hw => ?_)
            refine lv_if_eq (tgt := 72) (pc := 36) C0.1 C0.2.1 dX7_plays_36 (by decide) (fun hc => ?_) (fun hc => ?_)
            · have hf := if_t hf hc
              refine lv_iinc (pc := 72) (v := a2.2.2.1 + 1) (lv' := [(5, .int (a2.2.2.1 + 1)), (4, .int a1.2.2.1), (3, .int a2.2.1), (2, .int a2.1), (0, .ref (ad 0)), (1, .int v1)]) C0.1 C0.2.1 dX7_plays_72 hl (k := 0) rfl rfl (by decide) rfl (fun ls hl => ?_)
              refine lv_goto (tgt := 17) (pc := 75) C0.1 C0.2.1 dX7_plays_75 (by decide) ?_
              exact hG _ (Option.some.inj hf).symm H locs ls hw (lv_sub hl [0, 1, 2, 3, 4, 5] rfl)
            · have hf := if_f hf hc
              refine lv_aload_n (pc := 39) C0.1 C0.2.1 dX7_plays_39 rfl (lv_at hl 4 rfl) ?_
              refine lv_iload (pc := 40) C0.1 C0.2.1 dX7_plays_40 (lv_at hl 0 rfl) ?_
              refine lv_iconst (v := 3) (pc := 42) C0.1 C0.2.1 dX7_plays_42 (by decide) ?_
              obtain ⟨q5, hq5, hf⟩ := bd_e hf
              refine x_backp (pc := 43) hw (x_runV (pc := 43) (As := [.int a2.2.2.1, .int 3]) (rest := []) C0 hK hw hl.1 ⟨Nat.zero_le _, Nat.zero_le _⟩ (kX7_of l D y ad hI a2.2.2.1 3 a2.2.2.2 hq5) (by decide) ly_m0 rfl rfl wc_X7_of wm_X7_47 wi_X7_of ws_X7_of wn_X7 ⟨rfl, rfl⟩ hd_X7_of rfl ⟨Nat.le_of_ble_eq_true rfl, Nat.le_of_ble_eq_true rfl⟩ (Nat.le_of_ble_eq_true rfl) dX7_plays_43) (fun H locs hw => ?_)
              refine lv_iload (pc := 46) C0.1 C0.2.1 dX7_plays_46 (lv_at hl 1 rfl) ?_
              refine lv_icmp_ne (tgt := 72) (pc := 48) C0.1 C0.2.1 dX7_plays_48 (by decide) (fun hc => ?_) (fun hc => ?_)
              · have hf := if_f hf hc
                refine lv_iinc (pc := 72) (v := a2.2.2.1 + 1) (lv' := [(5, .int (a2.2.2.1 + 1)), (4, .int a1.2.2.1), (3, .int a2.2.1), (2, .int a2.1), (0, .ref (ad 0)), (1, .int v1)]) C0.1 C0.2.1 dX7_plays_72 hl (k := 0) rfl rfl (by decide) rfl (fun ls hl => ?_)
                refine lv_goto (tgt := 17) (pc := 75) C0.1 C0.2.1 dX7_plays_75 (by decide) ?_
                exact hG _ (Option.some.inj hf).symm H locs ls hw (lv_sub hl [0, 1, 2, 3, 4, 5] rfl)
              · have hf := if_t hf hc
                refine lv_iload_n (pc := 51) C0.1 C0.2.1 dX7_plays_51 rfl (lv_at hl 3 rfl) ?_
                refine lv_aload_n (pc := 52) C0.1 C0.2.1 dX7_plays_52 rfl (lv_at hl 4 rfl) ?_
                refine lv_iload (pc := 53) C0.1 C0.2.1 dX7_plays_53 (lv_at hl 0 rfl) ?_
                obtain ⟨q6, hq6, hf⟩ := bd_e hf
                refine x_back (pc := 55) hw (x_runV (pc := 55) (As := [.int a2.2.2.1]) (rest := [.int a2.1]) C0 hK hw hl.1 ⟨Nat.zero_le _, Nat.zero_le _⟩ (kX7_gets l D y ad hI a2.2.2.1 a2.2.2.2 hq6) (by decide) ly_m0 rfl rfl wc_X7_gets wm_X7_226 wi_X7_gets ws_X7_gets wn_X7 ⟨rfl, rfl⟩ hd_X7_gets rfl ⟨Nat.le_of_ble_eq_true rfl, Nat.le_of_ble_eq_true rfl⟩ (Nat.le_of_ble_eq_true rfl) dX7_plays_55) (fun H locs hw => ?_)
                refine lv_iadd (pc := 58) C0.1 C0.2.1 dX7_plays_58 ?_
                refine lv_istore_n (pc := 59) (lv' := [(2, .int (a2.1 + q6.1)), (5, .int a2.2.2.1), (4, .int a1.2.2.1), (3, .int a2.2.1), (0, .ref (ad 0)), (1, .int v1)]) C0.1 C0.2.1 dX7_plays_59 rfl hl (by decide) rfl (fun ls hl => ?_)
                refine lv_iload (pc := 60) C0.1 C0.2.1 dX7_plays_60 (lv_at hl 1 rfl) ?_
                refine lv_iload_n (pc := 62) C0.1 C0.2.1 dX7_plays_62 rfl (lv_at hl 5 rfl) ?_
                refine lv_icmp_eq (tgt := 70) (pc := 63) C0.1 C0.2.1 dX7_plays_63 (by decide) (fun hc => ?_) (fun hc => ?_)
                · have hf := if_t hf hc
                  refine lv_iconst (v := 0) (pc := 70) C0.1 C0.2.1 dX7_plays_70 (by decide) ?_
                  refine lv_istore_n (pc := 71) (lv' := [(3, .int 0), (2, .int (a2.1 + q6.1)), (5, .int a2.2.2.1), (4, .int a1.2.2.1), (0, .ref (ad 0)), (1, .int v1)]) C0.1 C0.2.1 dX7_plays_71 rfl hl (by decide) rfl (fun ls hl => ?_)
                  refine lv_iinc (pc := 72) (v := a2.2.2.1 + 1) (lv' := [(5, .int (a2.2.2.1 + 1)), (3, .int 0), (2, .int (a2.1 + q6.1)), (4, .int a1.2.2.1), (0, .ref (ad 0)), (1, .int v1)]) C0.1 C0.2.1 dX7_plays_72 hl (k := 2) rfl rfl (by decide) rfl (fun ls hl => ?_)
                  refine lv_goto (tgt := 17) (pc := 75) C0.1 C0.2.1 dX7_plays_75 (by decide) ?_
                  exact hG _ (Option.some.inj hf).symm H locs ls hw (lv_sub hl [0, 3, 1, 2, 4, 5] rfl)
                · have hf := if_f hf hc
                  refine lv_iconst (v := 1) (pc := 66) C0.1 C0.2.1 dX7_plays_66 (by decide) ?_
                  refine lv_goto (tgt := 71) (pc := 67) C0.1 C0.2.1 dX7_plays_67 (by decide) ?_
                  refine lv_istore_n (pc := 71) (lv' := [(3, .int 1), (2, .int (a2.1 + q6.1)), (5, .int a2.2.2.1), (4, .int a1.2.2.1), (0, .ref (ad 0)), (1, .int v1)]) C0.1 C0.2.1 dX7_plays_71 rfl hl (by decide) rfl (fun ls hl => ?_)
                  refine lv_iinc (pc := 72) (v := a2.2.2.1 + 1) (lv' := [(5, .int (a2.2.2.1 + 1)), (3, .int 1), (2, .int (a2.1 + q6.1)), (4, .int a1.2.2.1), (0, .ref (ad 0)), (1, .int v1)]) C0.1 C0.2.1 dX7_plays_72 hl (k := 2) rfl rfl (by decide) rfl (fun ls hl => ?_)
                  refine lv_goto (tgt := 17) (pc := 75) C0.1 C0.2.1 dX7_plays_75 (by decide) ?_
                  exact hG _ (Option.some.inj hf).symm H locs ls hw (lv_sub hl [0, 3, 1, 2, 4, 5] rfl)
      · skip
        refine lv_iinc (pc := 78) (v := a1.2.2.1 + 1) (lv' := [(4, .int (a1.2.2.1 + 1)), (5, .int e2.2.2.1), (3, .int e2.2.1), (2, .int e2.1), (0, .ref (ad 0)), (1, .int v1)]) C0.1 C0.2.1 dX7_plays_78 hl (k := 1) rfl rfl (by decide) rfl (fun ls hl => ?_)
        refine lv_goto (tgt := 7) (pc := 81) C0.1 C0.2.1 dX7_plays_81 (by decide) ?_
        exact hG _ (Option.some.inj hf).symm H locs ls hw (lv_sub hl [0, 2, 3, 4, 5] rfl)
  · skip
    refine lv_iload_n (pc := 84) C0.1 C0.2.1 dX7_plays_84 rfl (lv_at hl 2 rfl) ?_
    exact x_iret (pc := 85) C0 hK hk hr hw (Option.some.inj hf) dX7_plays_85
def wX7_play : List Cond := .code yX7_play cX7_play 1 (some .int) :: lwT
def rX7_play : Room := { frames := 8, cells := 0, slots := 0, locals := 188 }
set_option maxRecDepth 100000 in
set_option maxHeartbeats 4000000 in
theorem kX7_play (l : Launch) (D : va_G) (y : Nat → ClassId) (ad : Nat → Nat) (hI : XI ad 8)  (u : S) {o : Int32 × S} (hf : fX7_play  u = some o) : Met l yX7_play wX7_play rX7_play (va_Pc [.ref (ad 0)] (XW D y ad LM 8 u)) (XQi D y ad LM 8 o) 0 0 (XA ad 8) := by
  refine x_met (bytes := cX7_play) (maxL := 1) (ret := (some .int)) (own := RX7) (by decide) rfl rfl (Nat.le_of_ble_eq_true rfl) (fun p e s m below meth c ls C0 hK hk hr hw hl => ?_)
  have hl : lv_has ls 1 [(0, .ref (ad 0))] := hl
  unfold fX7_play at hf
  refine lv_aload_n (pc := 0) C0.1 C0.2.1 dX7_play_0 rfl (lv_at hl 0 rfl) ?_
  obtain ⟨q1, hq1, hf⟩ := bd_e hf
  refine x_backv (pc := 1) hw (x_runV (pc := 1) (As := []) (rest := []) C0 hK hw hl.1 ⟨Nat.zero_le _, Nat.zero_le _⟩ (kX7_records l D y ad hI  u hq1) (by decide) ly_m0 rfl rfl wc_X7_records wm_X7_104 wi_X7_records ws_X7_records wn_X7 ⟨rfl, rfl⟩ hd_X7_records rfl ⟨Nat.le_of_ble_eq_true rfl, Nat.le_of_ble_eq_true rfl⟩ (Nat.le_of_ble_eq_true rfl) dX7_play_1) (fun H locs hw => ?_)
  refine lv_aload_n (pc := 4) C0.1 C0.2.1 dX7_play_4 rfl (lv_at hl 0 rfl) ?_
  refine lv_bipush (v := (-9)) (pc := 5) C0.1 C0.2.1 dX7_play_5 (by decide) ?_
  obtain ⟨q2, hq2, hf⟩ := bd_e hf
  refine x_back (pc := 7) hw (x_runV (pc := 7) (As := [.int (-9)]) (rest := []) C0 hK hw hl.1 ⟨Nat.zero_le _, Nat.zero_le _⟩ (kX7_plays l D y ad hI (-9) q1 hq2) (by decide) ly_m0 rfl rfl wc_X7_plays wm_X7_229 wi_X7_plays ws_X7_plays wn_X7 ⟨rfl, rfl⟩ hd_X7_plays rfl ⟨Nat.le_of_ble_eq_true rfl, Nat.le_of_ble_eq_true rfl⟩ (Nat.le_of_ble_eq_true rfl) dX7_play_7) (fun H locs hw => ?_)
  exact x_iret (pc := 10) C0 hK hk hr hw (Option.some.inj hf) dX7_play_10
def wX7_liftsTo : List Cond := .code yX7_liftsTo cX7_liftsTo 3 (some .int) :: lwT
def rX7_liftsTo : Room := { frames := 8, cells := 0, slots := 0, locals := 188 }
set_option maxRecDepth 100000 in
set_option maxHeartbeats 4000000 in
theorem kX7_liftsTo (l : Launch) (D : va_G) (y : Nat → ClassId) (ad : Nat → Nat) (hI : XI ad 8) (v1 : Int32) (u : S) {o : Int32 × S} (hf : fX7_liftsTo v1 u = some o) : Met l yX7_liftsTo wX7_liftsTo rX7_liftsTo (va_Pc [.ref (ad 0), .int v1] (XW D y ad LM 8 u)) (XQi D y ad LM 8 o) 0 0 (XA ad 8) := by
  refine x_met (bytes := cX7_liftsTo) (maxL := 3) (ret := (some .int)) (own := RX7) (by decide) rfl rfl (Nat.le_of_ble_eq_true rfl) (fun p e s m below meth c ls C0 hK hk hr hw hl => ?_)
  have hl : lv_has ls 3 [(0, .ref (ad 0)), (1, .int v1)] := hl
  unfold fX7_liftsTo at hf
  refine lv_aload_n (pc := 0) C0.1 C0.2.1 dX7_liftsTo_0 rfl (lv_at hl 0 rfl) ?_
  refine lv_iload_n (pc := 1) C0.1 C0.2.1 dX7_liftsTo_1 rfl (lv_at hl 1 rfl) ?_
  obtain ⟨q1, hq1, hf⟩ := bd_e hf
  refine x_backp (pc := 2) hw (x_runV (pc := 2) (As := [.int v1]) (rest := []) C0 hK hw hl.1 ⟨Nat.zero_le _, Nat.zero_le _⟩ (kX7_isTray l D y ad hI v1 u hq1) (by decide) ly_m0 rfl rfl wc_X7_isTray wm_X7_94 wi_X7_isTray ws_X7_isTray wn_X7 ⟨rfl, rfl⟩ hd_X7_isTray rfl ⟨Nat.le_of_ble_eq_true rfl, Nat.le_of_ble_eq_true rfl⟩ (Nat.le_of_ble_eq_true rfl) dX7_liftsTo_2) (fun H locs hw => ?_)
  refine lv_if_ne (tgt := 10) (pc := 5) C0.1 C0.2.1 dX7_liftsTo_5 (by decide) (fun hc => ?_) (fun hc => ?_)
  · have hf := if_f hf hc
    refine lv_aload_n (pc := 10) C0.1 C0.2.1 dX7_liftsTo_10 rfl (lv_at hl 0 rfl) ?_
    refine lv_iload_n (pc := 11) C0.1 C0.2.1 dX7_liftsTo_11 rfl (lv_at hl 1 rfl) ?_
    obtain ⟨q2, hq2, hf⟩ := bd_e hf
    refine x_backp (pc := 12) hw (x_runV (pc := 12) (As := [.int v1]) (rest := []) C0 hK hw hl.1 ⟨Nat.zero_le _, Nat.zero_le _⟩ (kX7_isIn l D y ad hI v1 u hq2) (by decide) ly_m0 rfl rfl wc_X7_isIn wm_X7_71 wi_X7_isIn ws_X7_isIn wn_X7 ⟨rfl, rfl⟩ hd_X7_isIn rfl ⟨Nat.le_of_ble_eq_true rfl, Nat.le_of_ble_eq_true rfl⟩ (Nat.le_of_ble_eq_true rfl) dX7_liftsTo_12) (fun H locs hw => ?_)
    refine lv_if_ne (tgt := 21) (pc := 15) C0.1 C0.2.1 dX7_liftsTo_15 (by decide) (fun hc => ?_) (fun hc => ?_)
    · have hf := if_f hf hc
      refine lv_aload_n (pc := 21) C0.1 C0.2.1 dX7_liftsTo_21 rfl (lv_at hl 0 rfl) ?_
      refine lv_iconst (v := 0) (pc := 22) C0.1 C0.2.1 dX7_liftsTo_22 (by decide) ?_
      refine lv_bipush (v := 10) (pc := 23) C0.1 C0.2.1 dX7_liftsTo_23 (by decide) ?_
      obtain ⟨q3, hq3, hf⟩ := bd_e hf
      refine x_backv (pc := 25) hw (x_runV (pc := 25) (As := [.int 0, .int 10]) (rest := []) C0 hK hw hl.1 ⟨Nat.zero_le _, Nat.zero_le _⟩ (kX7_copies l D y ad hI 0 10 u hq3) (by decide) ly_m0 rfl rfl wc_X7_copies wm_X7_35 wi_X7_copies ws_X7_copies wn_X7 ⟨rfl, rfl⟩ hd_X7_copies rfl ⟨Nat.le_of_ble_eq_true rfl, Nat.le_of_ble_eq_true rfl⟩ (Nat.le_of_ble_eq_true rfl) dX7_liftsTo_25) (fun H locs hw => ?_)
      refine lv_aload_n (pc := 28) C0.1 C0.2.1 dX7_liftsTo_28 rfl (lv_at hl 0 rfl) ?_
      refine lv_iload_n (pc := 29) C0.1 C0.2.1 dX7_liftsTo_29 rfl (lv_at hl 1 rfl) ?_
      obtain ⟨q4, hq4, hf⟩ := bd_e hf
      refine x_back (pc := 30) hw (x_runV (pc := 30) (As := [.int v1]) (rest := []) C0 hK hw hl.1 ⟨Nat.zero_le _, Nat.zero_le _⟩ (kX7_plays l D y ad hI v1 q3 hq4) (by decide) ly_m0 rfl rfl wc_X7_plays wm_X7_229 wi_X7_plays ws_X7_plays wn_X7 ⟨rfl, rfl⟩ hd_X7_plays rfl ⟨Nat.le_of_ble_eq_true rfl, Nat.le_of_ble_eq_true rfl⟩ (Nat.le_of_ble_eq_true rfl) dX7_liftsTo_30) (fun H locs hw => ?_)
      refine lv_istore_n (pc := 33) (lv' := [(2, .int q4.1), (0, .ref (ad 0)), (1, .int v1)]) C0.1 C0.2.1 dX7_liftsTo_33 rfl hl (by decide) rfl (fun ls hl => ?_)
      refine lv_aload_n (pc := 34) C0.1 C0.2.1 dX7_liftsTo_34 rfl (lv_at hl 1 rfl) ?_
      refine lv_bipush (v := 10) (pc := 35) C0.1 C0.2.1 dX7_liftsTo_35 (by decide) ?_
      refine lv_iconst (v := 0) (pc := 37) C0.1 C0.2.1 dX7_liftsTo_37 (by decide) ?_
      obtain ⟨q5, hq5, hf⟩ := bd_e hf
      refine x_backv (pc := 38) hw (x_runV (pc := 38) (As := [.int 10, .int 0]) (rest := []) C0 hK hw hl.1 ⟨Nat.zero_le _, Nat.zero_le _⟩ (kX7_copies l D y ad hI 10 0 q4.2 hq5) (by decide) ly_m0 rfl rfl wc_X7_copies wm_X7_35 wi_X7_copies ws_X7_copies wn_X7 ⟨rfl, rfl⟩ hd_X7_copies rfl ⟨Nat.le_of_ble_eq_true rfl, Nat.le_of_ble_eq_true rfl⟩ (Nat.le_of_ble_eq_true rfl) dX7_liftsTo_38) (fun H locs hw => ?_)
      refine lv_iload_n (pc := 41) C0.1 C0.2.1 dX7_liftsTo_41 rfl (lv_at hl 0 rfl) ?_
      exact x_iret (pc := 42) C0 hK hk hr hw (Option.some.inj hf) dX7_liftsTo_42
    · have hf := if_t hf hc
      refine lv_bipush (v := (-2)) (pc := 18) C0.1 C0.2.1 dX7_liftsTo_18 (by decide) ?_
      exact x_iret (pc := 20) C0 hK hk hr hw (Option.some.inj hf) dX7_liftsTo_20
  · have hf := if_t hf hc
    refine lv_iconst (v := (-1)) (pc := 8) C0.1 C0.2.1 dX7_liftsTo_8 (by decide) ?_
    exact x_iret (pc := 9) C0 hK hk hr hw (Option.some.inj hf) dX7_liftsTo_9
def wX7_count : List Cond := .code yX7_count cX7_count 2 (some .int) :: lwT
def rX7_count : Room := { frames := 8, cells := 0, slots := 0, locals := 184 }
set_option maxRecDepth 100000 in
set_option maxHeartbeats 4000000 in
theorem kX7_count (l : Launch) (D : va_G) (y : Nat → ClassId) (ad : Nat → Nat) (hI : XI ad 8) (v1 : Int32) (u : S) {o : Int32} (hf : fX7_count v1 u = some o) : Met l yX7_count wX7_count rX7_count (va_Pc [.ref (ad 0), .int v1] (XW D y ad LM 8 u)) (XQi D y ad LM 8 (o, u)) 0 0 (XA ad 8) := by
  refine x_met (bytes := cX7_count) (maxL := 2) (ret := (some .int)) (own := RX7) (by decide) rfl rfl (Nat.le_of_ble_eq_true rfl) (fun p e s m below meth c ls C0 hK hk hr hw hl => ?_)
  have hl : lv_has ls 2 [(0, .ref (ad 0)), (1, .int v1)] := hl
  unfold fX7_count at hf
  refine lv_iload_n (pc := 0) C0.1 C0.2.1 dX7_count_0 rfl (lv_at hl 1 rfl) ?_
  by_cases hc0 : v1 = 0
  · have hf := if_t hf hc0
    refine lv_tableIn (tgt := 68) (pc := 1) C0.1 C0.2.1 dX7_count_1 (by rw [hc0]; decide) (by rw [hc0]; decide) (by rw [hc0]; rfl) (by decide) ?_
    refine lv_aload_n (pc := 68) C0.1 C0.2.1 dX7_count_68 rfl (lv_at hl 0 rfl) ?_
    refine x_get (pc := 69) (v := .ref (ad 1)) C0 hK hw (by decide) ly_m0 rfl inX7 0 (by decide) wf_X7_7 rfl rfl dX7_count_69 ?_
    refine lv_iload_n (pc := 72) C0.1 C0.2.1 dX7_count_72 rfl (lv_at hl 1 rfl) ?_
    obtain ⟨hi, hf⟩ := gd_e hf
    refine x_iald (pc := 73) C0 hK hw (by decide) ly_m1 hi dX7_count_73 ?_
    exact x_iret (pc := 74) C0 hK hk hr hw (congrArg (fun z => (z, u)) (Option.some.inj hf)) dX7_count_74
  · have hf := if_f hf hc0
    by_cases hc1 : v1 = 1
    · have hf := if_t hf hc1
      refine lv_tableIn (tgt := 68) (pc := 1) C0.1 C0.2.1 dX7_count_1 (by rw [hc1]; decide) (by rw [hc1]; decide) (by rw [hc1]; rfl) (by decide) ?_
      refine lv_aload_n (pc := 68) C0.1 C0.2.1 dX7_count_68 rfl (lv_at hl 0 rfl) ?_
      refine x_get (pc := 69) (v := .ref (ad 1)) C0 hK hw (by decide) ly_m0 rfl inX7 0 (by decide) wf_X7_7 rfl rfl dX7_count_69 ?_
      refine lv_iload_n (pc := 72) C0.1 C0.2.1 dX7_count_72 rfl (lv_at hl 1 rfl) ?_
      obtain ⟨hi, hf⟩ := gd_e hf
      refine x_iald (pc := 73) C0 hK hw (by decide) ly_m1 hi dX7_count_73 ?_
      exact x_iret (pc := 74) C0 hK hk hr hw (congrArg (fun z => (z, u)) (Option.some.inj hf)) dX7_count_74
    · have hf := if_f hf hc1
      by_cases hc2 : v1 = 2
      · have hf := if_t hf hc2
        refine lv_tableIn (tgt := 68) (pc := 1) C0.1 C0.2.1 dX7_count_1 (by rw [hc2]; decide) (by rw [hc2]; decide) (by rw [hc2]; rfl) (by decide) ?_
        refine lv_aload_n (pc := 68) C0.1 C0.2.1 dX7_count_68 rfl (lv_at hl 0 rfl) ?_
        refine x_get (pc := 69) (v := .ref (ad 1)) C0 hK hw (by decide) ly_m0 rfl inX7 0 (by decide) wf_X7_7 rfl rfl dX7_count_69 ?_
        refine lv_iload_n (pc := 72) C0.1 C0.2.1 dX7_count_72 rfl (lv_at hl 1 rfl) ?_
        obtain ⟨hi, hf⟩ := gd_e hf
        refine x_iald (pc := 73) C0 hK hw (by decide) ly_m1 hi dX7_count_73 ?_
        exact x_iret (pc := 74) C0 hK hk hr hw (congrArg (fun z => (z, u)) (Option.some.inj hf)) dX7_count_74
      · have hf := if_f hf hc2
        by_cases hc3 : v1 = 3
        · have hf := if_t hf hc3
          refine lv_tableIn (tgt := 68) (pc := 1) C0.1 C0.2.1 dX7_count_1 (by rw [hc3]; decide) (by rw [hc3]; decide) (by rw [hc3]; rfl) (by decide) ?_
          refine lv_aload_n (pc := 68) C0.1 C0.2.1 dX7_count_68 rfl (lv_at hl 0 rfl) ?_
          refine x_get (pc := 69) (v := .ref (ad 1)) C0 hK hw (by decide) ly_m0 rfl inX7 0 (by decide) wf_X7_7 rfl rfl dX7_count_69 ?_
          refine lv_iload_n (pc := 72) C0.1 C0.2.1 dX7_count_72 rfl (lv_at hl 1 rfl) ?_
          obtain ⟨hi, hf⟩ := gd_e hf
          refine x_iald (pc := 73) C0 hK hw (by decide) ly_m1 hi dX7_count_73 ?_
          exact x_iret (pc := 74) C0 hK hk hr hw (congrArg (fun z => (z, u)) (Option.some.inj hf)) dX7_count_74
        · have hf := if_f hf hc3
          by_cases hc4 : v1 = 4
          · have hf := if_t hf hc4
            refine lv_tableIn (tgt := 68) (pc := 1) C0.1 C0.2.1 dX7_count_1 (by rw [hc4]; decide) (by rw [hc4]; decide) (by rw [hc4]; rfl) (by decide) ?_
            refine lv_aload_n (pc := 68) C0.1 C0.2.1 dX7_count_68 rfl (lv_at hl 0 rfl) ?_
            refine x_get (pc := 69) (v := .ref (ad 1)) C0 hK hw (by decide) ly_m0 rfl inX7 0 (by decide) wf_X7_7 rfl rfl dX7_count_69 ?_
            refine lv_iload_n (pc := 72) C0.1 C0.2.1 dX7_count_72 rfl (lv_at hl 1 rfl) ?_
            obtain ⟨hi, hf⟩ := gd_e hf
            refine x_iald (pc := 73) C0 hK hw (by decide) ly_m1 hi dX7_count_73 ?_
            exact x_iret (pc := 74) C0 hK hk hr hw (congrArg (fun z => (z, u)) (Option.some.inj hf)) dX7_count_74
          · have hf := if_f hf hc4
            by_cases hc5 : v1 = 5
            · have hf := if_t hf hc5
              refine lv_tableIn (tgt := 75) (pc := 1) C0.1 C0.2.1 dX7_count_1 (by rw [hc5]; decide) (by rw [hc5]; decide) (by rw [hc5]; rfl) (by decide) ?_
              refine lv_aload_n (pc := 75) C0.1 C0.2.1 dX7_count_75 rfl (lv_at hl 0 rfl) ?_
              obtain ⟨q1, hq1, hf⟩ := bd_e hf
              refine x_backp (pc := 76) hw (x_runV (pc := 76) (As := []) (rest := []) C0 hK hw hl.1 ⟨Nat.zero_le _, Nat.zero_le _⟩ (kX7_inBox l D y ad hI  u hq1) (by decide) ly_m0 rfl rfl wc_X7_inBox wm_X7_169 wi_X7_inBox ws_X7_inBox wn_X7 ⟨rfl, rfl⟩ hd_X7_inBox rfl ⟨Nat.le_of_ble_eq_true rfl, Nat.le_of_ble_eq_true rfl⟩ (Nat.le_of_ble_eq_true rfl) dX7_count_76) (fun H locs hw => ?_)
              exact x_iret (pc := 79) C0 hK hk hr hw (congrArg (fun z => (z, u)) (Option.some.inj hf)) dX7_count_79
            · have hf := if_f hf hc5
              by_cases hc6 : v1 = 6
              · have hf := if_t hf hc6
                refine lv_tableIn (tgt := 80) (pc := 1) C0.1 C0.2.1 dX7_count_1 (by rw [hc6]; decide) (by rw [hc6]; decide) (by rw [hc6]; rfl) (by decide) ?_
                refine lv_aload_n (pc := 80) C0.1 C0.2.1 dX7_count_80 rfl (lv_at hl 0 rfl) ?_
                obtain ⟨q2, hq2, hf⟩ := bd_e hf
                refine x_backp (pc := 81) hw (x_runV (pc := 81) (As := []) (rest := []) C0 hK hw hl.1 ⟨Nat.zero_le _, Nat.zero_le _⟩ (kX7_frees l D y ad hI  u hq2) (by decide) ly_m0 rfl rfl wc_X7_frees wm_X7_232 wi_X7_frees ws_X7_frees wn_X7 ⟨rfl, rfl⟩ hd_X7_frees rfl ⟨Nat.le_of_ble_eq_true rfl, Nat.le_of_ble_eq_true rfl⟩ (Nat.le_of_ble_eq_true rfl) dX7_count_81) (fun H locs hw => ?_)
                exact x_iret (pc := 84) C0 hK hk hr hw (congrArg (fun z => (z, u)) (Option.some.inj hf)) dX7_count_84
              · have hf := if_f hf hc6
                by_cases hc7 : v1 = 7
                · have hf := if_t hf hc7
                  refine lv_tableIn (tgt := 85) (pc := 1) C0.1 C0.2.1 dX7_count_1 (by rw [hc7]; decide) (by rw [hc7]; decide) (by rw [hc7]; rfl) (by decide) ?_
                  refine lv_aload_n (pc := 85) C0.1 C0.2.1 dX7_count_85 rfl (lv_at hl 0 rfl) ?_
                  obtain ⟨q3, hq3, hf⟩ := bd_e hf
                  refine x_backp (pc := 86) hw (x_runV (pc := 86) (As := []) (rest := []) C0 hK hw hl.1 ⟨Nat.zero_le _, Nat.zero_le _⟩ (kX7_boxHeight l D y ad hI  u hq3) (by decide) ly_m0 rfl rfl wc_X7_boxHeight wm_X7_127 wi_X7_boxHeight ws_X7_boxHeight wn_X7 ⟨rfl, rfl⟩ hd_X7_boxHeight rfl ⟨Nat.le_of_ble_eq_true rfl, Nat.le_of_ble_eq_true rfl⟩ (Nat.le_of_ble_eq_true rfl) dX7_count_86) (fun H locs hw => ?_)
                  exact x_iret (pc := 89) C0 hK hk hr hw (congrArg (fun z => (z, u)) (Option.some.inj hf)) dX7_count_89
                · have hf := if_f hf hc7
                  by_cases hc8 : v1 = 8
                  · have hf := if_t hf hc8
                    refine lv_tableIn (tgt := 90) (pc := 1) C0.1 C0.2.1 dX7_count_1 (by rw [hc8]; decide) (by rw [hc8]; decide) (by rw [hc8]; rfl) (by decide) ?_
                    refine lv_aload_n (pc := 90) C0.1 C0.2.1 dX7_count_90 rfl (lv_at hl 0 rfl) ?_
                    obtain ⟨q4, hq4, hf⟩ := bd_e hf
                    refine x_backp (pc := 91) hw (x_runV (pc := 91) (As := []) (rest := []) C0 hK hw hl.1 ⟨Nat.zero_le _, Nat.zero_le _⟩ (kX7_air l D y ad hI  u hq4) (by decide) ly_m0 rfl rfl wc_X7_air wm_X7_205 wi_X7_air ws_X7_air wn_X7 ⟨rfl, rfl⟩ hd_X7_air rfl ⟨Nat.le_of_ble_eq_true rfl, Nat.le_of_ble_eq_true rfl⟩ (Nat.le_of_ble_eq_true rfl) dX7_count_91) (fun H locs hw => ?_)
                    exact x_iret (pc := 94) C0 hK hk hr hw (congrArg (fun z => (z, u)) (Option.some.inj hf)) dX7_count_94
                  · have hf := if_f hf hc8
                    by_cases hc9 : v1 = 9
                    · have hf := if_t hf hc9
                      refine lv_tableIn (tgt := 95) (pc := 1) C0.1 C0.2.1 dX7_count_1 (by rw [hc9]; decide) (by rw [hc9]; decide) (by rw [hc9]; rfl) (by decide) ?_
                      refine lv_aload_n (pc := 95) C0.1 C0.2.1 dX7_count_95 rfl (lv_at hl 0 rfl) ?_
                      obtain ⟨q5, hq5, hf⟩ := bd_e hf
                      refine x_backp (pc := 96) hw (x_runV (pc := 96) (As := []) (rest := []) C0 hK hw hl.1 ⟨Nat.zero_le _, Nat.zero_le _⟩ (kX7_faults l D y ad hI  u hq5) (by decide) ly_m0 rfl rfl wc_X7_faults wm_X7_202 wi_X7_faults ws_X7_faults wn_X7 ⟨rfl, rfl⟩ hd_X7_faults rfl ⟨Nat.le_of_ble_eq_true rfl, Nat.le_of_ble_eq_true rfl⟩ (Nat.le_of_ble_eq_true rfl) dX7_count_96) (fun H locs hw => ?_)
                      exact x_iret (pc := 99) C0 hK hk hr hw (congrArg (fun z => (z, u)) (Option.some.inj hf)) dX7_count_99
                    · have hf := if_f hf hc9
                      by_cases hc10 : v1 = 10
                      · have hf := if_t hf hc10
                        refine lv_tableIn (tgt := 100) (pc := 1) C0.1 C0.2.1 dX7_count_1 (by rw [hc10]; decide) (by rw [hc10]; decide) (by rw [hc10]; rfl) (by decide) ?_
                        refine lv_aload_n (pc := 100) C0.1 C0.2.1 dX7_count_100 rfl (lv_at hl 0 rfl) ?_
                        obtain ⟨q6, hq6, hf⟩ := bd_e hf
                        refine x_backp (pc := 101) hw (x_runV (pc := 101) (As := []) (rest := []) C0 hK hw hl.1 ⟨Nat.zero_le _, Nat.zero_le _⟩ (kX7_lifts l D y ad hI  u hq6) (by decide) ly_m0 rfl rfl wc_X7_lifts wm_X7_235 wi_X7_lifts ws_X7_lifts wn_X7 ⟨rfl, rfl⟩ hd_X7_lifts rfl ⟨Nat.le_of_ble_eq_true rfl, Nat.le_of_ble_eq_true rfl⟩ (Nat.le_of_ble_eq_true rfl) dX7_count_101) (fun H locs hw => ?_)
                        exact x_iret (pc := 104) C0 hK hk hr hw (congrArg (fun z => (z, u)) (Option.some.inj hf)) dX7_count_104
                      · have hf := if_f hf hc10
                        by_cases hc11 : v1 = 11
                        · have hf := if_t hf hc11
                          refine lv_tableIn (tgt := 105) (pc := 1) C0.1 C0.2.1 dX7_count_1 (by rw [hc11]; decide) (by rw [hc11]; decide) (by rw [hc11]; rfl) (by decide) ?_
                          refine lv_aload_n (pc := 105) C0.1 C0.2.1 dX7_count_105 rfl (lv_at hl 0 rfl) ?_
                          refine x_get (pc := 106) (v := .int (u.1 0 6)) C0 hK hw (by decide) ly_m0 rfl inX7 6 (by decide) wf_X7_130 rfl rfl dX7_count_106 ?_
                          exact x_iret (pc := 109) C0 hK hk hr hw (congrArg (fun z => (z, u)) (Option.some.inj hf)) dX7_count_109
                        · have hf := if_f hf hc11
                          by_cases hc12 : v1 = 12
                          · have hf := if_t hf hc12
                            refine lv_tableIn (tgt := 110) (pc := 1) C0.1 C0.2.1 dX7_count_1 (by rw [hc12]; decide) (by rw [hc12]; decide) (by rw [hc12]; rfl) (by decide) ?_
                            refine lv_aload_n (pc := 110) C0.1 C0.2.1 dX7_count_110 rfl (lv_at hl 0 rfl) ?_
                            refine x_get (pc := 111) (v := .int (u.1 0 1)) C0 hK hw (by decide) ly_m0 rfl inX7 1 (by decide) wf_X7_31 rfl rfl dX7_count_111 ?_
                            exact x_iret (pc := 114) C0 hK hk hr hw (congrArg (fun z => (z, u)) (Option.some.inj hf)) dX7_count_114
                          · have hf := if_f hf hc12
                            refine lv_tableOut (tgt := 115) (pc := 1) C0.1 C0.2.1 dX7_count_1 (by have h0 := lv_neT hc0 (a := 0) (by decide); have h1 := lv_neT hc1 (a := 1) (by decide); have h2 := lv_neT hc2 (a := 2) (by decide); have h3 := lv_neT hc3 (a := 3) (by decide); have h4 := lv_neT hc4 (a := 4) (by decide); have h5 := lv_neT hc5 (a := 5) (by decide); have h6 := lv_neT hc6 (a := 6) (by decide); have h7 := lv_neT hc7 (a := 7) (by decide); have h8 := lv_neT hc8 (a := 8) (by decide); have h9 := lv_neT hc9 (a := 9) (by decide); have h10 := lv_neT hc10 (a := 10) (by decide); have h11 := lv_neT hc11 (a := 11) (by decide); have h12 := lv_neT hc12 (a := 12) (by decide); omega) (by decide) ?_
                            refine lv_iconst (v := (-1)) (pc := 115) C0.1 C0.2.1 dX7_count_115 (by decide) ?_
                            exact x_iret (pc := 116) C0 hK hk hr hw (congrArg (fun z => (z, u)) (Option.some.inj hf)) dX7_count_116
def wX7_mixes : List Cond := .code yX7_mixes cX7_mixes 2 none :: lwT
def rX7_mixes : Room := { frames := 0, cells := 0, slots := 0, locals := 0 }
set_option maxRecDepth 100000 in
set_option maxHeartbeats 4000000 in
theorem kX7_mixes (l : Launch) (D : va_G) (y : Nat → ClassId) (ad : Nat → Nat) (hI : XI ad 8) (v1 : Int32) (u : S) {o : S} (hf : fX7_mixes v1 u = some o) : Met l yX7_mixes wX7_mixes rX7_mixes (va_Pc [.ref (ad 0), .int v1] (XW D y ad LM 8 u)) (XQv D y ad LM 8 o) 0 0 (XA ad 8) := by
  refine x_met (bytes := cX7_mixes) (maxL := 2) (ret := none) (own := RX7) (by decide) rfl rfl (Nat.le_of_ble_eq_true rfl) (fun p e s m below meth c ls C0 hK hk hr hw hl => ?_)
  have hl : lv_has ls 2 [(0, .ref (ad 0)), (1, .int v1)] := hl
  unfold fX7_mixes at hf
  refine lv_aload_n (pc := 0) C0.1 C0.2.1 dX7_mixes_0 rfl (lv_at hl 0 rfl) ?_
  refine lv_ldc2 (pc := 1) C0.1 C0.2.1 C0.2.2.2.1 (C0.2.2.2.2 _ wk_X7_238) dX7_mixes_1 ?_
  refine lv_aload_n (pc := 4) C0.1 C0.2.1 dX7_mixes_4 rfl (lv_at hl 0 rfl) ?_
  refine x_get (pc := 5) (v := .long u.2) C0 hK hw (by decide) ly_m0 rfl inX7 20 (by decide) wf_X7_240 rfl rfl dX7_mixes_5 ?_
  refine lv_lmul (pc := 8) C0.1 C0.2.1 dX7_mixes_8 ?_
  refine lv_iload_n (pc := 9) C0.1 C0.2.1 dX7_mixes_9 rfl (lv_at hl 1 rfl) ?_
  refine lv_i2l (pc := 10) C0.1 C0.2.1 dX7_mixes_10 rfl ?_
  refine lv_ladd (pc := 11) C0.1 C0.2.1 dX7_mixes_11 ?_
  obtain ⟨u1, hu, hf⟩ := nm_f hf
  refine x_putL (pc := 12) hI C0 hK hw (by decide) ly_m0 rfl inX7 tyX7_ok nmX7 20 (by decide) wf_X7_240 rfl rfl rfl LM_one LM_oth hu rfl dX7_mixes_12 (fun H locs hw => ?_)
  exact x_vret (pc := 15) C0 hK hk hr hw (Option.some.inj hf) dX7_mixes_15
def wX7_digest : List Cond := .code yX7_digest cX7_digest 3 (some .long) :: lwT
def rX7_digest : Room := { frames := 12, cells := 0, slots := 0, locals := 272 }
set_option maxRecDepth 100000 in
set_option maxHeartbeats 4000000 in
theorem kX7_digest (l : Launch) (D : va_G) (y : Nat → ClassId) (ad : Nat → Nat) (hI : XI ad 8)  (u : S) {o : Int64 × S} (hf : fX7_digest  u = some o) : Met l yX7_digest wX7_digest rX7_digest (va_Pc [.ref (ad 0)] (XW D y ad LM 8 u)) (XQl D y ad LM 8 o) 0 0 (XA ad 8) := by
  refine x_met (bytes := cX7_digest) (maxL := 3) (ret := (some .long)) (own := RX7) (by decide) rfl rfl (Nat.le_of_ble_eq_true rfl) (fun p e s m below meth c ls C0 hK hk hr hw hl => ?_)
  have hl : lv_has ls 3 [(0, .ref (ad 0))] := hl
  unfold fX7_digest at hf
  refine lv_aload_n (pc := 0) C0.1 C0.2.1 dX7_digest_0 rfl (lv_at hl 0 rfl) ?_
  refine lv_ldc2 (pc := 1) C0.1 C0.2.1 C0.2.2.2.1 (C0.2.2.2.2 _ wk_X7_244) dX7_digest_1 ?_
  obtain ⟨u1, hu, hf⟩ := nm_f hf
  refine x_putL (pc := 4) hI C0 hK hw (by decide) ly_m0 rfl inX7 tyX7_ok nmX7 20 (by decide) wf_X7_240 rfl rfl rfl LM_one LM_oth hu rfl dX7_digest_4 (fun H locs hw => ?_)
  refine lv_iconst (v := 0) (pc := 7) C0.1 C0.2.1 dX7_digest_7 (by decide) ?_
  refine lv_istore_n (pc := 8) (lv' := [(1, .int 0), (0, .ref (ad 0))]) C0.1 C0.2.1 dX7_digest_8 rfl hl (by decide) rfl (fun ls hl => ?_)
  obtain ⟨e2, he2, hf⟩ := bd_e hf
  refine X_loop (pc := 9) (xpc := 30) (fu := fun a1 => a1.2) (fl := fun a1 => [(1, .int a1.1), (0, .ref (ad 0))]) (fun a1 r hf hE hG H locs ls hw hl => ?_) he2 (fun H locs ls hw hl => ?_) hw hl
  · unfold gX7_digest_9 at hf
    refine lv_iload_n (pc := 9) C0.1 C0.2.1 dX7_digest_9 rfl (lv_at hl 0 rfl) ?_
    refine lv_bipush (v := 13) (pc := 10) C0.1 C0.2.1 dX7_digest_10 (by decide) ?_
    refine lv_icmp_ge (tgt := 30) (pc := 12) C0.1 C0.2.1 dX7_digest_12 (by decide) (fun hc => ?_) (fun hc => ?_)
    · have hf := if_t hf hc
      exact hE _ (Option.some.inj hf).symm H locs ls hw (lv_sub hl [0, 1] rfl)
    · have hf := if_f hf hc
      refine lv_aload_n (pc := 15) C0.1 C0.2.1 dX7_digest_15 rfl (lv_at hl 1 rfl) ?_
      refine lv_aload_n (pc := 16) C0.1 C0.2.1 dX7_digest_16 rfl (lv_at hl 1 rfl) ?_
      refine lv_iload_n (pc := 17) C0.1 C0.2.1 dX7_digest_17 rfl (lv_at hl 0 rfl) ?_
      obtain ⟨q3, hq3, hf⟩ := bd_e hf
      refine x_backp (pc := 18) hw (x_runV (pc := 18) (As := [.int a1.1]) (rest := [.ref (ad 0)]) C0 hK hw hl.1 ⟨Nat.zero_le _, Nat.zero_le _⟩ (kX7_count l D y ad hI a1.1 a1.2 hq3) (by decide) ly_m0 rfl rfl wc_X7_count wm_X7_246 wi_X7_count ws_X7_count wn_X7 ⟨rfl, rfl⟩ hd_X7_count rfl ⟨Nat.le_of_ble_eq_true rfl, Nat.le_of_ble_eq_true rfl⟩ (Nat.le_of_ble_eq_true rfl) dX7_digest_18) (fun H locs hw => ?_)
      obtain ⟨q4, hq4, hf⟩ := bd_e hf
      refine x_backv (pc := 21) hw (x_runV (pc := 21) (As := [.int q3]) (rest := []) C0 hK hw hl.1 ⟨Nat.zero_le _, Nat.zero_le _⟩ (kX7_mixes l D y ad hI q3 a1.2 hq4) (by decide) ly_m0 rfl rfl wc_X7_mixes wm_X7_249 wi_X7_mixes ws_X7_mixes wn_X7 ⟨rfl, rfl⟩ hd_X7_mixes rfl ⟨Nat.le_of_ble_eq_true rfl, Nat.le_of_ble_eq_true rfl⟩ (Nat.le_of_ble_eq_true rfl) dX7_digest_21) (fun H locs hw => ?_)
      refine lv_iinc (pc := 24) (v := a1.1 + 1) (lv' := [(1, .int (a1.1 + 1)), (0, .ref (ad 0))]) C0.1 C0.2.1 dX7_digest_24 hl (k := 0) rfl rfl (by decide) rfl (fun ls hl => ?_)
      refine lv_goto (tgt := 9) (pc := 27) C0.1 C0.2.1 dX7_digest_27 (by decide) ?_
      exact hG _ (Option.some.inj hf).symm H locs ls hw (lv_sub hl [0, 1] rfl)
  · skip
    refine lv_iconst (v := 0) (pc := 30) C0.1 C0.2.1 dX7_digest_30 (by decide) ?_
    refine lv_istore_n (pc := 31) (lv' := [(1, .int 0), (0, .ref (ad 0))]) C0.1 C0.2.1 dX7_digest_31 rfl hl (by decide) rfl (fun ls hl => ?_)
    obtain ⟨e5, he5, hf⟩ := bd_e hf
    refine X_loop (pc := 32) (xpc := 90) (fu := fun a1 => a1.2) (fl := fun a1 => [(1, .int a1.1), (0, .ref (ad 0))]) (fun a1 r hf hE hG H locs ls hw hl => ?_) he5 (fun H locs ls hw hl => ?_) hw hl
    · unfold gX7_digest_32 at hf
      refine lv_iload_n (pc := 32) C0.1 C0.2.1 dX7_digest_32 rfl (lv_at hl 0 rfl) ?_
      refine lv_aload_n (pc := 33) C0.1 C0.2.1 dX7_digest_33 rfl (lv_at hl 1 rfl) ?_
      obtain ⟨q6, hq6, hf⟩ := bd_e hf
      refine x_backp (pc := 34) hw (x_runV (pc := 34) (As := []) (rest := [.int a1.1]) C0 hK hw hl.1 ⟨Nat.zero_le _, Nat.zero_le _⟩ (kX7_trays l D y ad hI  a1.2 hq6) (by decide) ly_m0 rfl rfl wc_X7_trays wm_X7_39 wi_X7_trays ws_X7_trays wn_X7 ⟨rfl, rfl⟩ hd_X7_trays rfl ⟨Nat.le_of_ble_eq_true rfl, Nat.le_of_ble_eq_true rfl⟩ (Nat.le_of_ble_eq_true rfl) dX7_digest_34) (fun H locs hw => ?_)
      refine lv_icmp_ge (tgt := 90) (pc := 37) C0.1 C0.2.1 dX7_digest_37 (by decide) (fun hc => ?_) (fun hc => ?_)
      · have hf := if_t hf hc
        exact hE _ (Option.some.inj hf).symm H locs ls hw (lv_sub hl [0, 1] rfl)
      · have hf := if_f hf hc
        refine lv_iconst (v := 0) (pc := 40) C0.1 C0.2.1 dX7_digest_40 (by decide) ?_
        refine lv_istore_n (pc := 41) (lv' := [(2, .int 0), (1, .int a1.1), (0, .ref (ad 0))]) C0.1 C0.2.1 dX7_digest_41 rfl hl (by decide) rfl (fun ls hl => ?_)
        obtain ⟨e7, he7, hf⟩ := bd_e hf
        refine X_loop (pc := 42) (xpc := 64) (fu := fun a2 => a2.2) (fl := fun a2 => [(2, .int a2.1), (1, .int a1.1), (0, .ref (ad 0))]) (fun a2 r hf hE hG H locs ls hw hl => ?_) he7 (fun H locs ls hw hl => ?_) hw hl
        · unfold gX7_digest_42 at hf
          refine lv_iload_n (pc := 42) C0.1 C0.2.1 dX7_digest_42 rfl (lv_at hl 0 rfl) ?_
          refine lv_bipush (v := 16) (pc := 43) C0.1 C0.2.1 dX7_digest_43 (by decide) ?_
          refine lv_icmp_ge (tgt := 64) (pc := 45) C0.1 C0.2.1 dX7_digest_45 (by decide) (fun hc => ?_) (fun hc => ?_)
          · have hf := if_t hf hc
            exact hE _ (Option.some.inj hf).symm H locs ls hw (lv_sub hl [0, 1, 2] rfl)
          · have hf := if_f hf hc
            refine lv_aload_n (pc := 48) C0.1 C0.2.1 dX7_digest_48 rfl (lv_at hl 2 rfl) ?_
            refine lv_aload_n (pc := 49) C0.1 C0.2.1 dX7_digest_49 rfl (lv_at hl 2 rfl) ?_
            refine lv_iload_n (pc := 50) C0.1 C0.2.1 dX7_digest_50 rfl (lv_at hl 1 rfl) ?_
            refine lv_iload_n (pc := 51) C0.1 C0.2.1 dX7_digest_51 rfl (lv_at hl 0 rfl) ?_
            obtain ⟨q8, hq8, hf⟩ := bd_e hf
            refine x_backp (pc := 52) hw (x_runV (pc := 52) (As := [.int a1.1, .int a2.1]) (rest := [.ref (ad 0)]) C0 hK hw hl.1 ⟨Nat.zero_le _, Nat.zero_le _⟩ (kX7_tray l D y ad hI a1.1 a2.1 a2.2 hq8) (by decide) ly_m0 rfl rfl wc_X7_tray wm_X7_252 wi_X7_tray ws_X7_tray wn_X7 ⟨rfl, rfl⟩ hd_X7_tray rfl ⟨Nat.le_of_ble_eq_true rfl, Nat.le_of_ble_eq_true rfl⟩ (Nat.le_of_ble_eq_true rfl) dX7_digest_52) (fun H locs hw => ?_)
            obtain ⟨q9, hq9, hf⟩ := bd_e hf
            refine x_backv (pc := 55) hw (x_runV (pc := 55) (As := [.int q8]) (rest := []) C0 hK hw hl.1 ⟨Nat.zero_le _, Nat.zero_le _⟩ (kX7_mixes l D y ad hI q8 a2.2 hq9) (by decide) ly_m0 rfl rfl wc_X7_mixes wm_X7_249 wi_X7_mixes ws_X7_mixes wn_X7 ⟨rfl, rfl⟩ hd_X7_mixes rfl ⟨Nat.le_of_ble_eq_true rfl, Nat.le_of_ble_eq_true rfl⟩ (Nat.le_of_ble_eq_true rfl) dX7_digest_55) (fun H locs hw => ?_)
            refine lv_iinc (pc := 58) (v := a2.1 + 1) (lv' := [(2, .int (a2.1 + 1)), (1, .int a1.1), (0, .ref (ad 0))]) C0.1 C0.2.1 dX7_digest_58 hl (k := 0) rfl rfl (by decide) rfl (fun ls hl => ?_)
            refine lv_goto (tgt := 42) (pc := 61) C0.1 C0.2.1 dX7_digest_61 (by decide) ?_
            exact hG _ (Option.some.inj hf).symm H locs ls hw (lv_sub hl [0, 1, 2] rfl)
        · skip
          refine lv_aload_n (pc := 64) C0.1 C0.2.1 dX7_digest_64 rfl (lv_at hl 2 rfl) ?_
          refine lv_aload_n (pc := 65) C0.1 C0.2.1 dX7_digest_65 rfl (lv_at hl 2 rfl) ?_
          refine lv_iload_n (pc := 66) C0.1 C0.2.1 dX7_digest_66 rfl (lv_at hl 1 rfl) ?_
          refine lv_iconst (v := 0) (pc := 67) C0.1 C0.2.1 dX7_digest_67 (by decide) ?_
          obtain ⟨q10, hq10, hf⟩ := bd_e hf
          refine x_back (pc := 68) hw (x_runV (pc := 68) (As := [.int a1.1, .int 0]) (rest := [.ref (ad 0)]) C0 hK hw hl.1 ⟨Nat.zero_le _, Nat.zero_le _⟩ (kX7_place l D y ad hI a1.1 0 e7.2 hq10) (by decide) ly_m0 rfl rfl wc_X7_place wm_X7_255 wi_X7_place ws_X7_place wn_X7 ⟨rfl, rfl⟩ hd_X7_place rfl ⟨Nat.le_of_ble_eq_true rfl, Nat.le_of_ble_eq_true rfl⟩ (Nat.le_of_ble_eq_true rfl) dX7_digest_68) (fun H locs hw => ?_)
          obtain ⟨q11, hq11, hf⟩ := bd_e hf
          refine x_backv (pc := 71) hw (x_runV (pc := 71) (As := [.int q10.1]) (rest := []) C0 hK hw hl.1 ⟨Nat.zero_le _, Nat.zero_le _⟩ (kX7_mixes l D y ad hI q10.1 q10.2 hq11) (by decide) ly_m0 rfl rfl wc_X7_mixes wm_X7_249 wi_X7_mixes ws_X7_mixes wn_X7 ⟨rfl, rfl⟩ hd_X7_mixes rfl ⟨Nat.le_of_ble_eq_true rfl, Nat.le_of_ble_eq_true rfl⟩ (Nat.le_of_ble_eq_true rfl) dX7_digest_71) (fun H locs hw => ?_)
          refine lv_aload_n (pc := 74) C0.1 C0.2.1 dX7_digest_74 rfl (lv_at hl 2 rfl) ?_
          refine lv_aload_n (pc := 75) C0.1 C0.2.1 dX7_digest_75 rfl (lv_at hl 2 rfl) ?_
          refine lv_iload_n (pc := 76) C0.1 C0.2.1 dX7_digest_76 rfl (lv_at hl 1 rfl) ?_
          refine lv_iconst (v := 3) (pc := 77) C0.1 C0.2.1 dX7_digest_77 (by decide) ?_
          obtain ⟨q12, hq12, hf⟩ := bd_e hf
          refine x_back (pc := 78) hw (x_runV (pc := 78) (As := [.int a1.1, .int 3]) (rest := [.ref (ad 0)]) C0 hK hw hl.1 ⟨Nat.zero_le _, Nat.zero_le _⟩ (kX7_place l D y ad hI a1.1 3 q11 hq12) (by decide) ly_m0 rfl rfl wc_X7_place wm_X7_255 wi_X7_place ws_X7_place wn_X7 ⟨rfl, rfl⟩ hd_X7_place rfl ⟨Nat.le_of_ble_eq_true rfl, Nat.le_of_ble_eq_true rfl⟩ (Nat.le_of_ble_eq_true rfl) dX7_digest_78) (fun H locs hw => ?_)
          obtain ⟨q13, hq13, hf⟩ := bd_e hf
          refine x_backv (pc := 81) hw (x_runV (pc := 81) (As := [.int q12.1]) (rest := []) C0 hK hw hl.1 ⟨Nat.zero_le _, Nat.zero_le _⟩ (kX7_mixes l D y ad hI q12.1 q12.2 hq13) (by decide) ly_m0 rfl rfl wc_X7_mixes wm_X7_249 wi_X7_mixes ws_X7_mixes wn_X7 ⟨rfl, rfl⟩ hd_X7_mixes rfl ⟨Nat.le_of_ble_eq_true rfl, Nat.le_of_ble_eq_true rfl⟩ (Nat.le_of_ble_eq_true rfl) dX7_digest_81) (fun H locs hw => ?_)
          refine lv_iinc (pc := 84) (v := a1.1 + 1) (lv' := [(1, .int (a1.1 + 1)), (2, .int e7.1), (0, .ref (ad 0))]) C0.1 C0.2.1 dX7_digest_84 hl (k := 1) rfl rfl (by decide) rfl (fun ls hl => ?_)
          refine lv_goto (tgt := 32) (pc := 87) C0.1 C0.2.1 dX7_digest_87 (by decide) ?_
          exact hG _ (Option.some.inj hf).symm H locs ls hw (lv_sub hl [0, 2] rfl)
    · skip
      refine lv_iconst (v := 0) (pc := 90) C0.1 C0.2.1 dX7_digest_90 (by decide) ?_
      refine lv_istore_n (pc := 91) (lv' := [(1, .int 0), (0, .ref (ad 0))]) C0.1 C0.2.1 dX7_digest_91 rfl hl (by decide) rfl (fun ls hl => ?_)
      obtain ⟨e14, he14, hf⟩ := bd_e hf
      refine X_loop (pc := 92) (xpc := 148) (fu := fun a1 => a1.2) (fl := fun a1 => [(1, .int a1.1), (0, .ref (ad 0))]) (fun a1 r hf hE hG H locs ls hw hl => ?_) he14 (fun H locs ls hw hl => ?_) hw hl
      · unfold gX7_digest_92 at hf
        refine lv_iload_n (pc := 92) C0.1 C0.2.1 dX7_digest_92 rfl (lv_at hl 0 rfl) ?_
        refine lv_aload_n (pc := 93) C0.1 C0.2.1 dX7_digest_93 rfl (lv_at hl 1 rfl) ?_
        refine x_get (pc := 94) (v := .ref (ad 1)) C0 hK hw (by decide) ly_m0 rfl inX7 0 (by decide) wf_X7_7 rfl rfl dX7_digest_94 ?_
        refine lv_iconst (v := 0) (pc := 97) C0.1 C0.2.1 dX7_digest_97 (by decide) ?_
        obtain ⟨hi, hf⟩ := gd_e hf
        refine x_iald (pc := 98) C0 hK hw (by decide) ly_m1 hi dX7_digest_98 ?_
        refine lv_icmp_ge (tgt := 148) (pc := 99) C0.1 C0.2.1 dX7_digest_99 (by decide) (fun hc => ?_) (fun hc => ?_)
        · have hf := if_t hf hc
          exact hE _ (Option.some.inj hf).symm H locs ls hw (lv_sub hl [0, 1] rfl)
        · have hf := if_f hf hc
          refine lv_iconst (v := 0) (pc := 102) C0.1 C0.2.1 dX7_digest_102 (by decide) ?_
          refine lv_istore_n (pc := 103) (lv' := [(2, .int 0), (1, .int a1.1), (0, .ref (ad 0))]) C0.1 C0.2.1 dX7_digest_103 rfl hl (by decide) rfl (fun ls hl => ?_)
          obtain ⟨e15, he15, hf⟩ := bd_e hf
          refine X_loop (pc := 104) (xpc := 142) (fu := fun a2 => a2.2) (fl := fun a2 => [(2, .int a2.1), (1, .int a1.1), (0, .ref (ad 0))]) (fun a2 r hf hE hG H locs ls hw hl => ?_) he15 (fun H locs ls hw hl => ?_) hw hl
          · unfold gX7_digest_104 at hf
            refine lv_iload_n (pc := 104) C0.1 C0.2.1 dX7_digest_104 rfl (lv_at hl 0 rfl) ?_
            refine lv_aload_n (pc := 105) C0.1 C0.2.1 dX7_digest_105 rfl (lv_at hl 2 rfl) ?_
            refine x_get (pc := 106) (v := .ref (ad 1)) C0 hK hw (by decide) ly_m0 rfl inX7 0 (by decide) wf_X7_7 rfl rfl dX7_digest_106 ?_
            refine lv_iconst (v := 1) (pc := 109) C0.1 C0.2.1 dX7_digest_109 (by decide) ?_
            obtain ⟨hi, hf⟩ := gd_e hf
            refine x_iald (pc := 110) C0 hK hw (by decide) ly_m1 hi dX7_digest_110 ?_
            refine lv_icmp_ge (tgt := 142) (pc := 111) C0.1 C0.2.1 dX7_digest_111 (by decide) (fun hc => ?_) (fun hc => ?_)
            · have hf := if_t hf hc
              exact hE _ (Option.some.inj hf).symm H locs ls hw (lv_sub hl [0, 1, 2] rfl)
            · have hf := if_f hf hc
              refine lv_aload_n (pc := 114) C0.1 C0.2.1 dX7_digest_114 rfl (lv_at hl 2 rfl) ?_
              refine lv_aload_n (pc := 115) C0.1 C0.2.1 dX7_digest_115 rfl (lv_at hl 2 rfl) ?_
              refine lv_iload_n (pc := 116) C0.1 C0.2.1 dX7_digest_116 rfl (lv_at hl 1 rfl) ?_
              refine lv_iload_n (pc := 117) C0.1 C0.2.1 dX7_digest_117 rfl (lv_at hl 0 rfl) ?_
              refine lv_iconst (v := 0) (pc := 118) C0.1 C0.2.1 dX7_digest_118 (by decide) ?_
              obtain ⟨q16, hq16, hf⟩ := bd_e hf
              refine x_backp (pc := 119) hw (x_runV (pc := 119) (As := [.int a1.1, .int a2.1, .int 0]) (rest := [.ref (ad 0)]) C0 hK hw hl.1 ⟨Nat.zero_le _, Nat.zero_le _⟩ (kX7_seen l D y ad hI a1.1 a2.1 0 a2.2 hq16) (by decide) ly_m0 rfl rfl wc_X7_seen wm_X7_258 wi_X7_seen ws_X7_seen wn_X7 ⟨rfl, rfl⟩ hd_X7_seen rfl ⟨Nat.le_of_ble_eq_true rfl, Nat.le_of_ble_eq_true rfl⟩ (Nat.le_of_ble_eq_true rfl) dX7_digest_119) (fun H locs hw => ?_)
              obtain ⟨q17, hq17, hf⟩ := bd_e hf
              refine x_backv (pc := 122) hw (x_runV (pc := 122) (As := [.int q16]) (rest := []) C0 hK hw hl.1 ⟨Nat.zero_le _, Nat.zero_le _⟩ (kX7_mixes l D y ad hI q16 a2.2 hq17) (by decide) ly_m0 rfl rfl wc_X7_mixes wm_X7_249 wi_X7_mixes ws_X7_mixes wn_X7 ⟨rfl, rfl⟩ hd_X7_mixes rfl ⟨Nat.le_of_ble_eq_true rfl, Nat.le_of_ble_eq_true rfl⟩ (Nat.le_of_ble_eq_true rfl) dX7_digest_122) (fun H locs hw => ?_)
              refine lv_aload_n (pc := 125) C0.1 C0.2.1 dX7_digest_125 rfl (lv_at hl 2 rfl) ?_
              refine lv_aload_n (pc := 126) C0.1 C0.2.1 dX7_digest_126 rfl (lv_at hl 2 rfl) ?_
              refine lv_iload_n (pc := 127) C0.1 C0.2.1 dX7_digest_127 rfl (lv_at hl 1 rfl) ?_
              refine lv_iload_n (pc := 128) C0.1 C0.2.1 dX7_digest_128 rfl (lv_at hl 0 rfl) ?_
              refine lv_iconst (v := 1) (pc := 129) C0.1 C0.2.1 dX7_digest_129 (by decide) ?_
              obtain ⟨q18, hq18, hf⟩ := bd_e hf
              refine x_backp (pc := 130) hw (x_runV (pc := 130) (As := [.int a1.1, .int a2.1, .int 1]) (rest := [.ref (ad 0)]) C0 hK hw hl.1 ⟨Nat.zero_le _, Nat.zero_le _⟩ (kX7_seen l D y ad hI a1.1 a2.1 1 q17 hq18) (by decide) ly_m0 rfl rfl wc_X7_seen wm_X7_258 wi_X7_seen ws_X7_seen wn_X7 ⟨rfl, rfl⟩ hd_X7_seen rfl ⟨Nat.le_of_ble_eq_true rfl, Nat.le_of_ble_eq_true rfl⟩ (Nat.le_of_ble_eq_true rfl) dX7_digest_130) (fun H locs hw => ?_)
              obtain ⟨q19, hq19, hf⟩ := bd_e hf
              refine x_backv (pc := 133) hw (x_runV (pc := 133) (As := [.int q18]) (rest := []) C0 hK hw hl.1 ⟨Nat.zero_le _, Nat.zero_le _⟩ (kX7_mixes l D y ad hI q18 q17 hq19) (by decide) ly_m0 rfl rfl wc_X7_mixes wm_X7_249 wi_X7_mixes ws_X7_mixes wn_X7 ⟨rfl, rfl⟩ hd_X7_mixes rfl ⟨Nat.le_of_ble_eq_true rfl, Nat.le_of_ble_eq_true rfl⟩ (Nat.le_of_ble_eq_true rfl) dX7_digest_133) (fun H locs hw => ?_)
              refine lv_iinc (pc := 136) (v := a2.1 + 1) (lv' := [(2, .int (a2.1 + 1)), (1, .int a1.1), (0, .ref (ad 0))]) C0.1 C0.2.1 dX7_digest_136 hl (k := 0) rfl rfl (by decide) rfl (fun ls hl => ?_)
              refine lv_goto (tgt := 104) (pc := 139) C0.1 C0.2.1 dX7_digest_139 (by decide) ?_
              exact hG _ (Option.some.inj hf).symm H locs ls hw (lv_sub hl [0, 1, 2] rfl)
          · skip
            refine lv_iinc (pc := 142) (v := a1.1 + 1) (lv' := [(1, .int (a1.1 + 1)), (2, .int e15.1), (0, .ref (ad 0))]) C0.1 C0.2.1 dX7_digest_142 hl (k := 1) rfl rfl (by decide) rfl (fun ls hl => ?_)
            refine lv_goto (tgt := 92) (pc := 145) C0.1 C0.2.1 dX7_digest_145 (by decide) ?_
            exact hG _ (Option.some.inj hf).symm H locs ls hw (lv_sub hl [0, 2] rfl)
      · skip
        refine lv_iconst (v := 0) (pc := 148) C0.1 C0.2.1 dX7_digest_148 (by decide) ?_
        refine lv_istore_n (pc := 149) (lv' := [(1, .int 0), (0, .ref (ad 0))]) C0.1 C0.2.1 dX7_digest_149 rfl hl (by decide) rfl (fun ls hl => ?_)
        obtain ⟨e20, he20, hf⟩ := bd_e hf
        refine X_loop (pc := 150) (xpc := 171) (fu := fun a1 => a1.2) (fl := fun a1 => [(1, .int a1.1), (0, .ref (ad 0))]) (fun a1 r hf hE hG H locs ls hw hl => ?_) he20 (fun H locs ls hw hl => ?_) hw hl
        · unfold gX7_digest_150 at hf
          refine lv_iload_n (pc := 150) C0.1 C0.2.1 dX7_digest_150 rfl (lv_at hl 0 rfl) ?_
          refine lv_iconst (v := 4) (pc := 151) C0.1 C0.2.1 dX7_digest_151 (by decide) ?_
          refine lv_icmp_ge (tgt := 171) (pc := 152) C0.1 C0.2.1 dX7_digest_152 (by decide) (fun hc => ?_) (fun hc => ?_)
          · have hf := if_t hf hc
            exact hE _ (Option.some.inj hf).symm H locs ls hw (lv_sub hl [0, 1] rfl)
          · have hf := if_f hf hc
            refine lv_aload_n (pc := 155) C0.1 C0.2.1 dX7_digest_155 rfl (lv_at hl 1 rfl) ?_
            refine lv_aload_n (pc := 156) C0.1 C0.2.1 dX7_digest_156 rfl (lv_at hl 1 rfl) ?_
            refine lv_iconst (v := 0) (pc := 157) C0.1 C0.2.1 dX7_digest_157 (by decide) ?_
            refine lv_iload_n (pc := 158) C0.1 C0.2.1 dX7_digest_158 rfl (lv_at hl 0 rfl) ?_
            obtain ⟨q21, hq21, hf⟩ := bd_e hf
            refine x_back (pc := 159) hw (x_runV (pc := 159) (As := [.int 0, .int a1.1]) (rest := [.ref (ad 0)]) C0 hK hw hl.1 ⟨Nat.zero_le _, Nat.zero_le _⟩ (kX7_ifPacked l D y ad hI 0 a1.1 a1.2 hq21) (by decide) ly_m0 rfl rfl wc_X7_ifPacked wm_X7_262 wi_X7_ifPacked ws_X7_ifPacked wn_X7 ⟨rfl, rfl⟩ hd_X7_ifPacked rfl ⟨Nat.le_of_ble_eq_true rfl, Nat.le_of_ble_eq_true rfl⟩ (Nat.le_of_ble_eq_true rfl) dX7_digest_159) (fun H locs hw => ?_)
            obtain ⟨q22, hq22, hf⟩ := bd_e hf
            refine x_backv (pc := 162) hw (x_runV (pc := 162) (As := [.int q21.1]) (rest := []) C0 hK hw hl.1 ⟨Nat.zero_le _, Nat.zero_le _⟩ (kX7_mixes l D y ad hI q21.1 q21.2 hq22) (by decide) ly_m0 rfl rfl wc_X7_mixes wm_X7_249 wi_X7_mixes ws_X7_mixes wn_X7 ⟨rfl, rfl⟩ hd_X7_mixes rfl ⟨Nat.le_of_ble_eq_true rfl, Nat.le_of_ble_eq_true rfl⟩ (Nat.le_of_ble_eq_true rfl) dX7_digest_162) (fun H locs hw => ?_)
            refine lv_iinc (pc := 165) (v := a1.1 + 1) (lv' := [(1, .int (a1.1 + 1)), (0, .ref (ad 0))]) C0.1 C0.2.1 dX7_digest_165 hl (k := 0) rfl rfl (by decide) rfl (fun ls hl => ?_)
            refine lv_goto (tgt := 150) (pc := 168) C0.1 C0.2.1 dX7_digest_168 (by decide) ?_
            exact hG _ (Option.some.inj hf).symm H locs ls hw (lv_sub hl [0, 1] rfl)
        · skip
          refine lv_iconst (v := 0) (pc := 171) C0.1 C0.2.1 dX7_digest_171 (by decide) ?_
          refine lv_istore_n (pc := 172) (lv' := [(1, .int 0), (0, .ref (ad 0))]) C0.1 C0.2.1 dX7_digest_172 rfl hl (by decide) rfl (fun ls hl => ?_)
          obtain ⟨e23, he23, hf⟩ := bd_e hf
          refine X_loop (pc := 173) (xpc := 204) (fu := fun a1 => a1.2) (fl := fun a1 => [(1, .int a1.1), (0, .ref (ad 0))]) (fun a1 r hf hE hG H locs ls hw hl => ?_) he23 (fun H locs ls hw hl => ?_) hw hl
          · unfold gX7_digest_173 at hf
            refine lv_iload_n (pc := 173) C0.1 C0.2.1 dX7_digest_173 rfl (lv_at hl 0 rfl) ?_
            refine lv_aload_n (pc := 174) C0.1 C0.2.1 dX7_digest_174 rfl (lv_at hl 1 rfl) ?_
            obtain ⟨q24, hq24, hf⟩ := bd_e hf
            refine x_backp (pc := 175) hw (x_runV (pc := 175) (As := []) (rest := [.int a1.1]) C0 hK hw hl.1 ⟨Nat.zero_le _, Nat.zero_le _⟩ (kX7_trays l D y ad hI  a1.2 hq24) (by decide) ly_m0 rfl rfl wc_X7_trays wm_X7_39 wi_X7_trays ws_X7_trays wn_X7 ⟨rfl, rfl⟩ hd_X7_trays rfl ⟨Nat.le_of_ble_eq_true rfl, Nat.le_of_ble_eq_true rfl⟩ (Nat.le_of_ble_eq_true rfl) dX7_digest_175) (fun H locs hw => ?_)
            refine lv_icmp_ge (tgt := 204) (pc := 178) C0.1 C0.2.1 dX7_digest_178 (by decide) (fun hc => ?_) (fun hc => ?_)
            · have hf := if_t hf hc
              exact hE _ (Option.some.inj hf).symm H locs ls hw (lv_sub hl [0, 1] rfl)
            · have hf := if_f hf hc
              refine lv_aload_n (pc := 181) C0.1 C0.2.1 dX7_digest_181 rfl (lv_at hl 1 rfl) ?_
              refine lv_iload_n (pc := 182) C0.1 C0.2.1 dX7_digest_182 rfl (lv_at hl 0 rfl) ?_
              obtain ⟨q25, hq25, hf⟩ := bd_e hf
              refine x_backp (pc := 183) hw (x_runV (pc := 183) (As := [.int a1.1]) (rest := []) C0 hK hw hl.1 ⟨Nat.zero_le _, Nat.zero_le _⟩ (kX7_isIn l D y ad hI a1.1 a1.2 hq25) (by decide) ly_m0 rfl rfl wc_X7_isIn wm_X7_71 wi_X7_isIn ws_X7_isIn wn_X7 ⟨rfl, rfl⟩ hd_X7_isIn rfl ⟨Nat.le_of_ble_eq_true rfl, Nat.le_of_ble_eq_true rfl⟩ (Nat.le_of_ble_eq_true rfl) dX7_digest_183) (fun H locs hw => ?_)
              refine lv_if_eq (tgt := 198) (pc := 186) C0.1 C0.2.1 dX7_digest_186 (by decide) (fun hc => ?_) (fun hc => ?_)
              · have hf := if_t hf hc
                refine lv_iinc (pc := 198) (v := a1.1 + 1) (lv' := [(1, .int (a1.1 + 1)), (0, .ref (ad 0))]) C0.1 C0.2.1 dX7_digest_198 hl (k := 0) rfl rfl (by decide) rfl (fun ls hl => ?_)
                refine lv_goto (tgt := 173) (pc := 201) C0.1 C0.2.1 dX7_digest_201 (by decide) ?_
                exact hG _ (Option.some.inj hf).symm H locs ls hw (lv_sub hl [0, 1] rfl)
              · have hf := if_f hf hc
                refine lv_aload_n (pc := 189) C0.1 C0.2.1 dX7_digest_189 rfl (lv_at hl 1 rfl) ?_
                refine lv_aload_n (pc := 190) C0.1 C0.2.1 dX7_digest_190 rfl (lv_at hl 1 rfl) ?_
                refine lv_iload_n (pc := 191) C0.1 C0.2.1 dX7_digest_191 rfl (lv_at hl 0 rfl) ?_
                obtain ⟨q26, hq26, hf⟩ := bd_e hf
                refine x_back (pc := 192) hw (x_runV (pc := 192) (As := [.int a1.1]) (rest := [.ref (ad 0)]) C0 hK hw hl.1 ⟨Nat.zero_le _, Nat.zero_le _⟩ (kX7_liftsTo l D y ad hI a1.1 a1.2 hq26) (by decide) ly_m0 rfl rfl wc_X7_liftsTo wm_X7_266 wi_X7_liftsTo ws_X7_liftsTo wn_X7 ⟨rfl, rfl⟩ hd_X7_liftsTo rfl ⟨Nat.le_of_ble_eq_true rfl, Nat.le_of_ble_eq_true rfl⟩ (Nat.le_of_ble_eq_true rfl) dX7_digest_192) (fun H locs hw => ?_)
                obtain ⟨q27, hq27, hf⟩ := bd_e hf
                refine x_backv (pc := 195) hw (x_runV (pc := 195) (As := [.int q26.1]) (rest := []) C0 hK hw hl.1 ⟨Nat.zero_le _, Nat.zero_le _⟩ (kX7_mixes l D y ad hI q26.1 q26.2 hq27) (by decide) ly_m0 rfl rfl wc_X7_mixes wm_X7_249 wi_X7_mixes ws_X7_mixes wn_X7 ⟨rfl, rfl⟩ hd_X7_mixes rfl ⟨Nat.le_of_ble_eq_true rfl, Nat.le_of_ble_eq_true rfl⟩ (Nat.le_of_ble_eq_true rfl) dX7_digest_195) (fun H locs hw => ?_)
                refine lv_iinc (pc := 198) (v := a1.1 + 1) (lv' := [(1, .int (a1.1 + 1)), (0, .ref (ad 0))]) C0.1 C0.2.1 dX7_digest_198 hl (k := 0) rfl rfl (by decide) rfl (fun ls hl => ?_)
                refine lv_goto (tgt := 173) (pc := 201) C0.1 C0.2.1 dX7_digest_201 (by decide) ?_
                exact hG _ (Option.some.inj hf).symm H locs ls hw (lv_sub hl [0, 1] rfl)
          · skip
            refine lv_aload_n (pc := 204) C0.1 C0.2.1 dX7_digest_204 rfl (lv_at hl 1 rfl) ?_
            refine x_get (pc := 205) (v := .long e23.2.2) C0 hK hw (by decide) ly_m0 rfl inX7 20 (by decide) wf_X7_240 rfl rfl dX7_digest_205 ?_
            exact x_lret (pc := 208) C0 hK hk hr hw (Option.some.inj hf) dX7_digest_208
