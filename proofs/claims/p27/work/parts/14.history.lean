def wX2_record : List Cond := .code yX2_record cX2_record 2 none :: lwT
def rX2_record : Room := { frames := 3, cells := 0, slots := 0, locals := 64 }
set_option maxRecDepth 100000 in
set_option maxHeartbeats 4000000 in
theorem kX2_record (l : Launch) (D : va_G) (y : Nat → ClassId) (ad : Nat → Nat) (hI : XI ad 168) (v1 : Nat) (hv1 : v1 < 11) (u : S) {o : S} (hf : fX2_record v1 u = some o) : Met l yX2_record wX2_record rX2_record (va_Pc [.ref (ad 158), .ref (ad (132 + v1))] (XW D y ad LX 168 u)) (XQv D y ad LX 168 o) 0 0 (XA ad 168) := by
  refine x_met (bytes := cX2_record) (maxL := 2) (ret := none) (own := RX2) (by decide) rfl rfl (Nat.le_of_ble_eq_true rfl) (fun p e s m below meth c ls C0 hK hk hr hw hl => ?_)
  have hl : lv_has ls 2 [(0, .ref (ad 158)), (1, .ref (ad (132 + v1)))] := hl
  unfold fX2_record at hf
  refine lv_aload_n (pc := 0) C0.1 C0.2.1 dX2_record_0 rfl (lv_at hl 0 rfl) ?_
  refine x_get (pc := 1) (v := .int (u.1 158 0)) C0 hK hw (by decide) ly_H rfl inX2 0 (by decide) wf_X2_18 rfl rfl dX2_record_1 ?_
  refine lv_bipush (v := 8) (pc := 4) C0.1 C0.2.1 dX2_record_4 (by decide) ?_
  refine lv_icmp_ne (tgt := 32) (pc := 6) C0.1 C0.2.1 dX2_record_6 (by decide) (fun hc => ?_) (fun hc => ?_)
  · have hf := if_f hf hc
    refine lv_aload_n (pc := 32) C0.1 C0.2.1 dX2_record_32 rfl (lv_at hl 0 rfl) ?_
    refine x_get (pc := 33) (v := .ref (ad 159)) C0 hK hw (by decide) ly_H rfl inX2 2 (by decide) wf_X2_11 rfl rfl dX2_record_33 ?_
    refine lv_aload_n (pc := 36) C0.1 C0.2.1 dX2_record_36 rfl (lv_at hl 0 rfl) ?_
    refine x_get (pc := 37) (v := .int (u.1 158 1)) C0 hK hw (by decide) ly_H rfl inX2 1 (by decide) wf_X2_22 rfl rfl dX2_record_37 ?_
    refine lv_aload_n (pc := 40) C0.1 C0.2.1 dX2_record_40 rfl (lv_at hl 0 rfl) ?_
    refine x_get (pc := 41) (v := .int (u.1 158 0)) C0 hK hw (by decide) ly_H rfl inX2 0 (by decide) wf_X2_18 rfl rfl dX2_record_41 ?_
    refine lv_iadd (pc := 44) C0.1 C0.2.1 dX2_record_44 ?_
    refine lv_bipush (v := 8) (pc := 45) C0.1 C0.2.1 dX2_record_45 (by decide) ?_
    refine x_irem (pc := 47) C0.1 C0.2.1 dX2_record_47 (by decide) ?_
    obtain ⟨hi, hf⟩ := gd_e hf
    have hB1 := rb (inb_lt hi)
    refine x_aldB (pc := 48) (t := 132 + (1 + (((u.1 158 1) + (u.1 158 0)) % 8).toNatClampNeg)) C0 hK hw (by decide) ly_Q hi rfl dX2_record_48 ?_
    refine lv_aload_n (pc := 49) C0.1 C0.2.1 dX2_record_49 rfl (lv_at hl 1 rfl) ?_
    obtain ⟨q2, hq2, hf⟩ := bd_e hf
    refine x_backv (pc := 50) hw (x_runV (pc := 50) (As := [.ref (ad (132 + v1))]) (rest := []) C0 hK hw hl.1 ⟨Nat.zero_le _, Nat.zero_le _⟩ (kX0_copyFrom l D y ad hI (1 + (((u.1 158 1) + (u.1 158 0)) % 8).toNatClampNeg) hB1 v1 hv1 u hq2) (jy_B hB1) (ly_B hB1) rfl rfl wc_X0_copyFrom wm_X2_25 wi_X0_copyFrom ws_X0_copyFrom wn_X0 ⟨rfl, rfl⟩ hd_X0_copyFrom rfl ⟨Nat.le_of_ble_eq_true rfl, Nat.le_of_ble_eq_true rfl⟩ (Nat.le_of_ble_eq_true rfl) dX2_record_50) (fun H locs hw => ?_)
    refine lv_aload_n (pc := 53) C0.1 C0.2.1 dX2_record_53 rfl (lv_at hl 0 rfl) ?_
    refine lv_dup (pc := 54) C0.1 C0.2.1 dX2_record_54 rfl ?_
    refine x_get (pc := 55) (v := .int (q2.1 158 0)) C0 hK hw (by decide) ly_H rfl inX2 0 (by decide) wf_X2_18 rfl rfl dX2_record_55 ?_
    refine lv_iconst (v := 1) (pc := 58) C0.1 C0.2.1 dX2_record_58 (by decide) ?_
    refine lv_iadd (pc := 59) C0.1 C0.2.1 dX2_record_59 ?_
    obtain ⟨u3, hu, hf⟩ := nm_f hf
    refine x_put (pc := 60) hI C0 hK hw (by decide) ly_H rfl inX2 tyX2_ok nmX2 0 (by decide) wf_X2_18 rfl rfl rfl hu rfl rfl dX2_record_60 (fun H locs hw => ?_)
    exact x_vret (pc := 63) C0 hK hk hr hw (Option.some.inj hf) dX2_record_63
  · have hf := if_t hf hc
    refine lv_aload_n (pc := 9) C0.1 C0.2.1 dX2_record_9 rfl (lv_at hl 0 rfl) ?_
    refine lv_aload_n (pc := 10) C0.1 C0.2.1 dX2_record_10 rfl (lv_at hl 0 rfl) ?_
    refine x_get (pc := 11) (v := .int (u.1 158 1)) C0 hK hw (by decide) ly_H rfl inX2 1 (by decide) wf_X2_22 rfl rfl dX2_record_11 ?_
    refine lv_iconst (v := 1) (pc := 14) C0.1 C0.2.1 dX2_record_14 (by decide) ?_
    refine lv_iadd (pc := 15) C0.1 C0.2.1 dX2_record_15 ?_
    refine lv_bipush (v := 8) (pc := 16) C0.1 C0.2.1 dX2_record_16 (by decide) ?_
    refine x_irem (pc := 18) C0.1 C0.2.1 dX2_record_18 (by decide) ?_
    obtain ⟨u4, hu, hf⟩ := nm_f hf
    refine x_put (pc := 19) hI C0 hK hw (by decide) ly_H rfl inX2 tyX2_ok nmX2 1 (by decide) wf_X2_22 rfl rfl rfl hu rfl rfl dX2_record_19 (fun H locs hw => ?_)
    refine lv_aload_n (pc := 22) C0.1 C0.2.1 dX2_record_22 rfl (lv_at hl 0 rfl) ?_
    refine lv_dup (pc := 23) C0.1 C0.2.1 dX2_record_23 rfl ?_
    refine x_get (pc := 24) (v := .int (u4.1 158 0)) C0 hK hw (by decide) ly_H rfl inX2 0 (by decide) wf_X2_18 rfl rfl dX2_record_24 ?_
    refine lv_iconst (v := 1) (pc := 27) C0.1 C0.2.1 dX2_record_27 (by decide) ?_
    refine lv_isub (pc := 28) C0.1 C0.2.1 dX2_record_28 ?_
    obtain ⟨u5, hu, hf⟩ := nm_f hf
    refine x_put (pc := 29) hI C0 hK hw (by decide) ly_H rfl inX2 tyX2_ok nmX2 0 (by decide) wf_X2_18 rfl rfl rfl hu rfl rfl dX2_record_29 (fun H locs hw => ?_)
    refine lv_aload_n (pc := 32) C0.1 C0.2.1 dX2_record_32 rfl (lv_at hl 0 rfl) ?_
    refine x_get (pc := 33) (v := .ref (ad 159)) C0 hK hw (by decide) ly_H rfl inX2 2 (by decide) wf_X2_11 rfl rfl dX2_record_33 ?_
    refine lv_aload_n (pc := 36) C0.1 C0.2.1 dX2_record_36 rfl (lv_at hl 0 rfl) ?_
    refine x_get (pc := 37) (v := .int (u5.1 158 1)) C0 hK hw (by decide) ly_H rfl inX2 1 (by decide) wf_X2_22 rfl rfl dX2_record_37 ?_
    refine lv_aload_n (pc := 40) C0.1 C0.2.1 dX2_record_40 rfl (lv_at hl 0 rfl) ?_
    refine x_get (pc := 41) (v := .int (u5.1 158 0)) C0 hK hw (by decide) ly_H rfl inX2 0 (by decide) wf_X2_18 rfl rfl dX2_record_41 ?_
    refine lv_iadd (pc := 44) C0.1 C0.2.1 dX2_record_44 ?_
    refine lv_bipush (v := 8) (pc := 45) C0.1 C0.2.1 dX2_record_45 (by decide) ?_
    refine x_irem (pc := 47) C0.1 C0.2.1 dX2_record_47 (by decide) ?_
    obtain ⟨hi, hf⟩ := gd_e hf
    have hB6 := rb (inb_lt hi)
    refine x_aldB (pc := 48) (t := 132 + (1 + (((u5.1 158 1) + (u5.1 158 0)) % 8).toNatClampNeg)) C0 hK hw (by decide) ly_Q hi rfl dX2_record_48 ?_
    refine lv_aload_n (pc := 49) C0.1 C0.2.1 dX2_record_49 rfl (lv_at hl 1 rfl) ?_
    obtain ⟨q7, hq7, hf⟩ := bd_e hf
    refine x_backv (pc := 50) hw (x_runV (pc := 50) (As := [.ref (ad (132 + v1))]) (rest := []) C0 hK hw hl.1 ⟨Nat.zero_le _, Nat.zero_le _⟩ (kX0_copyFrom l D y ad hI (1 + (((u5.1 158 1) + (u5.1 158 0)) % 8).toNatClampNeg) hB6 v1 hv1 u5 hq7) (jy_B hB6) (ly_B hB6) rfl rfl wc_X0_copyFrom wm_X2_25 wi_X0_copyFrom ws_X0_copyFrom wn_X0 ⟨rfl, rfl⟩ hd_X0_copyFrom rfl ⟨Nat.le_of_ble_eq_true rfl, Nat.le_of_ble_eq_true rfl⟩ (Nat.le_of_ble_eq_true rfl) dX2_record_50) (fun H locs hw => ?_)
    refine lv_aload_n (pc := 53) C0.1 C0.2.1 dX2_record_53 rfl (lv_at hl 0 rfl) ?_
    refine lv_dup (pc := 54) C0.1 C0.2.1 dX2_record_54 rfl ?_
    refine x_get (pc := 55) (v := .int (q7.1 158 0)) C0 hK hw (by decide) ly_H rfl inX2 0 (by decide) wf_X2_18 rfl rfl dX2_record_55 ?_
    refine lv_iconst (v := 1) (pc := 58) C0.1 C0.2.1 dX2_record_58 (by decide) ?_
    refine lv_iadd (pc := 59) C0.1 C0.2.1 dX2_record_59 ?_
    obtain ⟨u8, hu, hf⟩ := nm_f hf
    refine x_put (pc := 60) hI C0 hK hw (by decide) ly_H rfl inX2 tyX2_ok nmX2 0 (by decide) wf_X2_18 rfl rfl rfl hu rfl rfl dX2_record_60 (fun H locs hw => ?_)
    exact x_vret (pc := 63) C0 hK hk hr hw (Option.some.inj hf) dX2_record_63
def wX2_restore : List Cond := .code yX2_restore cX2_restore 2 none :: lwT
def rX2_restore : Room := { frames := 3, cells := 0, slots := 0, locals := 64 }
set_option maxRecDepth 100000 in
set_option maxHeartbeats 4000000 in
theorem kX2_restore (l : Launch) (D : va_G) (y : Nat → ClassId) (ad : Nat → Nat) (hI : XI ad 168) (v1 : Nat) (hv1 : v1 < 11) (u : S) {o : S} (hf : fX2_restore v1 u = some o) : Met l yX2_restore wX2_restore rX2_restore (va_Pc [.ref (ad 158), .ref (ad (132 + v1))] (XW D y ad LX 168 u)) (XQv D y ad LX 168 o) 0 0 (XA ad 168) := by
  refine x_met (bytes := cX2_restore) (maxL := 2) (ret := none) (own := RX2) (by decide) rfl rfl (Nat.le_of_ble_eq_true rfl) (fun p e s m below meth c ls C0 hK hk hr hw hl => ?_)
  have hl : lv_has ls 2 [(0, .ref (ad 158)), (1, .ref (ad (132 + v1)))] := hl
  unfold fX2_restore at hf
  refine lv_aload_n (pc := 0) C0.1 C0.2.1 dX2_restore_0 rfl (lv_at hl 0 rfl) ?_
  refine x_get (pc := 1) (v := .int (u.1 158 0)) C0 hK hw (by decide) ly_H rfl inX2 0 (by decide) wf_X2_18 rfl rfl dX2_restore_1 ?_
  refine lv_if_le (tgt := 38) (pc := 4) C0.1 C0.2.1 dX2_restore_4 (by decide) (fun hc => ?_) (fun hc => ?_)
  · have hf := if_t hf hc
    exact x_vret (pc := 38) C0 hK hk hr hw (Option.some.inj hf) dX2_restore_38
  · have hf := if_f hf hc
    refine lv_aload_n (pc := 7) C0.1 C0.2.1 dX2_restore_7 rfl (lv_at hl 0 rfl) ?_
    refine lv_dup (pc := 8) C0.1 C0.2.1 dX2_restore_8 rfl ?_
    refine x_get (pc := 9) (v := .int (u.1 158 0)) C0 hK hw (by decide) ly_H rfl inX2 0 (by decide) wf_X2_18 rfl rfl dX2_restore_9 ?_
    refine lv_iconst (v := 1) (pc := 12) C0.1 C0.2.1 dX2_restore_12 (by decide) ?_
    refine lv_isub (pc := 13) C0.1 C0.2.1 dX2_restore_13 ?_
    obtain ⟨u1, hu, hf⟩ := nm_f hf
    refine x_put (pc := 14) hI C0 hK hw (by decide) ly_H rfl inX2 tyX2_ok nmX2 0 (by decide) wf_X2_18 rfl rfl rfl hu rfl rfl dX2_restore_14 (fun H locs hw => ?_)
    refine lv_aload_n (pc := 17) C0.1 C0.2.1 dX2_restore_17 rfl (lv_at hl 1 rfl) ?_
    refine lv_aload_n (pc := 18) C0.1 C0.2.1 dX2_restore_18 rfl (lv_at hl 0 rfl) ?_
    refine x_get (pc := 19) (v := .ref (ad 159)) C0 hK hw (by decide) ly_H rfl inX2 2 (by decide) wf_X2_11 rfl rfl dX2_restore_19 ?_
    refine lv_aload_n (pc := 22) C0.1 C0.2.1 dX2_restore_22 rfl (lv_at hl 0 rfl) ?_
    refine x_get (pc := 23) (v := .int (u1.1 158 1)) C0 hK hw (by decide) ly_H rfl inX2 1 (by decide) wf_X2_22 rfl rfl dX2_restore_23 ?_
    refine lv_aload_n (pc := 26) C0.1 C0.2.1 dX2_restore_26 rfl (lv_at hl 0 rfl) ?_
    refine x_get (pc := 27) (v := .int (u1.1 158 0)) C0 hK hw (by decide) ly_H rfl inX2 0 (by decide) wf_X2_18 rfl rfl dX2_restore_27 ?_
    refine lv_iadd (pc := 30) C0.1 C0.2.1 dX2_restore_30 ?_
    refine lv_bipush (v := 8) (pc := 31) C0.1 C0.2.1 dX2_restore_31 (by decide) ?_
    refine x_irem (pc := 33) C0.1 C0.2.1 dX2_restore_33 (by decide) ?_
    obtain ⟨hi, hf⟩ := gd_e hf
    have hB2 := rb (inb_lt hi)
    refine x_aldB (pc := 34) (t := 132 + (1 + (((u1.1 158 1) + (u1.1 158 0)) % 8).toNatClampNeg)) C0 hK hw (by decide) ly_Q hi rfl dX2_restore_34 ?_
    obtain ⟨q3, hq3, hf⟩ := bd_e hf
    refine x_backv (pc := 35) hw (x_runV (pc := 35) (As := [.ref (ad (132 + (1 + (((u1.1 158 1) + (u1.1 158 0)) % 8).toNatClampNeg)))]) (rest := []) C0 hK hw hl.1 ⟨Nat.zero_le _, Nat.zero_le _⟩ (kX0_copyFrom l D y ad hI v1 hv1 (1 + (((u1.1 158 1) + (u1.1 158 0)) % 8).toNatClampNeg) hB2 u1 hq3) (jy_B hv1) (ly_B hv1) rfl rfl wc_X0_copyFrom wm_X2_25 wi_X0_copyFrom ws_X0_copyFrom wn_X0 ⟨rfl, rfl⟩ hd_X0_copyFrom rfl ⟨Nat.le_of_ble_eq_true rfl, Nat.le_of_ble_eq_true rfl⟩ (Nat.le_of_ble_eq_true rfl) dX2_restore_35) (fun H locs hw => ?_)
    exact x_vret (pc := 38) C0 hK hk hr hw (Option.some.inj hf) dX2_restore_38
