def wX1_raise : List Cond := .code yX1_raise cX1_raise 6 none :: lwT
def rX1_raise : Room := { frames := 2, cells := 0, slots := 0, locals := 45 }
set_option maxRecDepth 100000 in
set_option maxHeartbeats 4000000 in
theorem kX1_raise (l : Launch) (D : va_G) (y : Nat → ClassId) (ad : Nat → Nat) (hI : XI ad 168) (v0 : Nat) (hv0 : v0 < 2) (v1 : Nat) (hv1 : v1 < 11) (v2 : Nat) (hv2 : v2 < 132) (u : S) {o : S} (hf : fX1_raise v0 v1 v2 u = some o) : Met l yX1_raise wX1_raise rX1_raise (va_Pc [.ref (ad (154 + v0)), .ref (ad (132 + v1)), .ref (ad v2)] (XW D y ad LX 168 u)) (XQv D y ad LX 168 o) 0 0 (XA ad 168) := by
  refine x_met (bytes := cX1_raise) (maxL := 6) (ret := none) (own := RX1) (by decide) rfl rfl (Nat.le_of_ble_eq_true rfl) (fun p e s m below meth c ls C0 hK hk hr hw hl => ?_)
  have hl : lv_has ls 6 [(0, .ref (ad (154 + v0))), (1, .ref (ad (132 + v1))), (2, .ref (ad v2))] := hl
  unfold fX1_raise at hf
  refine lv_aload_n (pc := 0) C0.1 C0.2.1 dX1_raise_0 rfl (lv_at hl 2 rfl) ?_
  refine x_get (pc := 1) (v := .int (u.1 v2 5)) C0 hK hw (jy_T hv2) (ly_T hv2) rfl inX5 5 (by decide) wf_X1_29 rfl rfl dX1_raise_1 ?_
  refine lv_if_eq (tgt := 27) (pc := 4) C0.1 C0.2.1 dX1_raise_4 (by decide) (fun hc => ?_) (fun hc => ?_)
  · have hf := if_t hf hc
    exact x_vret (pc := 27) C0 hK hk hr hw (Option.some.inj hf) dX1_raise_27
  · have hf := if_f hf hc
    refine lv_aload_n (pc := 7) C0.1 C0.2.1 dX1_raise_7 rfl (lv_at hl 1 rfl) ?_
    refine lv_aload_n (pc := 8) C0.1 C0.2.1 dX1_raise_8 rfl (lv_at hl 2 rfl) ?_
    refine lv_aload_n (pc := 9) C0.1 C0.2.1 dX1_raise_9 rfl (lv_at hl 2 rfl) ?_
    refine x_get (pc := 10) (v := .int (u.1 v2 7)) C0 hK hw (jy_T hv2) (ly_T hv2) rfl inX5 7 (by decide) wf_X1_35 rfl rfl dX1_raise_10 ?_
    refine lv_aload_n (pc := 13) C0.1 C0.2.1 dX1_raise_13 rfl (lv_at hl 2 rfl) ?_
    refine x_get (pc := 14) (v := .int (u.1 v2 8)) C0 hK hw (jy_T hv2) (ly_T hv2) rfl inX5 8 (by decide) wf_X1_38 rfl rfl dX1_raise_14 ?_
    refine lv_aload_n (pc := 17) C0.1 C0.2.1 dX1_raise_17 rfl (lv_at hl 2 rfl) ?_
    refine x_get (pc := 18) (v := .int (u.1 v2 6)) C0 hK hw (jy_T hv2) (ly_T hv2) rfl inX5 6 (by decide) wf_X1_41 rfl rfl dX1_raise_18 ?_
    obtain ⟨q1, hq1, hf⟩ := bd_e hf
    refine x_backp (pc := 21) hw (x_runV (pc := 21) (As := [.ref (ad v2), .int (u.1 v2 7), .int (u.1 v2 8), .int (u.1 v2 6)]) (rest := []) C0 hK hw hl.1 ⟨Nat.zero_le _, Nat.zero_le _⟩ (kX0_encloses l D y ad hI v1 hv1 v2 hv2 (u.1 v2 7) (u.1 v2 8) (u.1 v2 6) u hq1) (jy_B hv1) (ly_B hv1) rfl rfl wc_X0_encloses wm_X1_44 wi_X0_encloses ws_X0_encloses wn_X0 ⟨rfl, rfl⟩ hd_X0_encloses rfl ⟨Nat.le_of_ble_eq_true rfl, Nat.le_of_ble_eq_true rfl⟩ (Nat.le_of_ble_eq_true rfl) dX1_raise_21) (fun H locs hw => ?_)
    refine lv_if_ne (tgt := 28) (pc := 24) C0.1 C0.2.1 dX1_raise_24 (by decide) (fun hc => ?_) (fun hc => ?_)
    · have hf := if_f hf hc
      refine lv_aload_n (pc := 28) C0.1 C0.2.1 dX1_raise_28 rfl (lv_at hl 2 rfl) ?_
      refine x_get (pc := 29) (v := .int (u.1 v2 8)) C0 hK hw (jy_T hv2) (ly_T hv2) rfl inX5 8 (by decide) wf_X1_38 rfl rfl dX1_raise_29 ?_
      refine lv_istore_n (pc := 32) (lv' := [(3, .int (u.1 v2 8)), (0, .ref (ad (154 + v0))), (1, .ref (ad (132 + v1))), (2, .ref (ad v2))]) C0.1 C0.2.1 dX1_raise_32 rfl hl (by decide) rfl (fun ls hl => ?_)
      obtain ⟨e2, he2, hf⟩ := bd_e hf
      refine X_loop (pc := 33) (xpc := 98) (fu := fun a1 => a1.2) (fl := fun a1 => [(3, .int a1.1), (0, .ref (ad (154 + v0))), (1, .ref (ad (132 + v1))), (2, .ref (ad v2))]) (fun a1 r hf hE hG H locs ls hw hl => ?_) he2 (fun H locs ls hw hl => ?_) hw hl
      · unfold gX1_raise_33 at hf
        refine lv_iload_n (pc := 33) C0.1 C0.2.1 dX1_raise_33 rfl (lv_at hl 0 rfl) ?_
        refine lv_aload_n (pc := 34) C0.1 C0.2.1 dX1_raise_34 rfl (lv_at hl 3 rfl) ?_
        refine x_get (pc := 35) (v := .int (a1.2.1 v2 10)) C0 hK hw (jy_T hv2) (ly_T hv2) rfl inX5 10 (by decide) wf_X1_48 rfl rfl dX1_raise_35 ?_
        refine lv_icmp_ge (tgt := 98) (pc := 38) C0.1 C0.2.1 dX1_raise_38 (by decide) (fun hc => ?_) (fun hc => ?_)
        · have hf := if_t hf hc
          exact hE _ (Option.some.inj hf).symm H locs ls hw (lv_sub hl [0, 1, 2, 3] rfl)
        · have hf := if_f hf hc
          refine lv_aload_n (pc := 41) C0.1 C0.2.1 dX1_raise_41 rfl (lv_at hl 3 rfl) ?_
          refine x_get (pc := 42) (v := .int (a1.2.1 v2 7)) C0 hK hw (jy_T hv2) (ly_T hv2) rfl inX5 7 (by decide) wf_X1_35 rfl rfl dX1_raise_42 ?_
          refine lv_istore (pc := 45) (lv' := [(4, .int (a1.2.1 v2 7)), (3, .int a1.1), (0, .ref (ad (154 + v0))), (1, .ref (ad (132 + v1))), (2, .ref (ad v2))]) C0.1 C0.2.1 dX1_raise_45 hl (by decide) rfl (fun ls hl => ?_)
          obtain ⟨e3, he3, hf⟩ := bd_e hf
          refine X_loop (pc := 47) (xpc := 92) (fu := fun a2 => a2.2) (fl := fun a2 => [(4, .int a2.1), (3, .int a1.1), (0, .ref (ad (154 + v0))), (1, .ref (ad (132 + v1))), (2, .ref (ad v2))]) (fun a2 r hf hE hG H locs ls hw hl => ?_) he3 (fun H locs ls hw hl => ?_) hw hl
          · unfold gX1_raise_47 at hf
            refine lv_iload (pc := 47) C0.1 C0.2.1 dX1_raise_47 (lv_at hl 0 rfl) ?_
            refine lv_aload_n (pc := 49) C0.1 C0.2.1 dX1_raise_49 rfl (lv_at hl 4 rfl) ?_
            refine x_get (pc := 50) (v := .int (a2.2.1 v2 9)) C0 hK hw (jy_T hv2) (ly_T hv2) rfl inX5 9 (by decide) wf_X1_51 rfl rfl dX1_raise_50 ?_
            refine lv_icmp_ge (tgt := 92) (pc := 53) C0.1 C0.2.1 dX1_raise_53 (by decide) (fun hc => ?_) (fun hc => ?_)
            · have hf := if_t hf hc
              exact hE _ (Option.some.inj hf).symm H locs ls hw (lv_sub hl [0, 1, 2, 3, 4] rfl)
            · have hf := if_f hf hc
              refine lv_iload_n (pc := 56) C0.1 C0.2.1 dX1_raise_56 rfl (lv_at hl 1 rfl) ?_
              refine lv_bipush (v := 10) (pc := 57) C0.1 C0.2.1 dX1_raise_57 (by decide) ?_
              refine lv_imul (pc := 59) C0.1 C0.2.1 dX1_raise_59 ?_
              refine lv_iload (pc := 60) C0.1 C0.2.1 dX1_raise_60 (lv_at hl 0 rfl) ?_
              refine lv_iadd (pc := 62) C0.1 C0.2.1 dX1_raise_62 ?_
              refine lv_istore (pc := 63) (lv' := [(5, .int ((a1.1 * 10) + a2.1)), (4, .int a2.1), (3, .int a1.1), (0, .ref (ad (154 + v0))), (1, .ref (ad (132 + v1))), (2, .ref (ad v2))]) C0.1 C0.2.1 dX1_raise_63 hl (by decide) rfl (fun ls hl => ?_)
              refine lv_aload_n (pc := 65) C0.1 C0.2.1 dX1_raise_65 rfl (lv_at hl 3 rfl) ?_
              refine x_get (pc := 66) (v := .ref (ad (156 + v0))) C0 hK hw (jy_F hv0) (ly_F hv0) rfl inX1 0 (by decide) wf_X1_9 rfl rfl dX1_raise_66 ?_
              refine lv_iload (pc := 69) C0.1 C0.2.1 dX1_raise_69 (lv_at hl 0 rfl) ?_
              refine lv_aload_n (pc := 71) C0.1 C0.2.1 dX1_raise_71 rfl (lv_at hl 3 rfl) ?_
              refine x_get (pc := 72) (v := .ref (ad (156 + v0))) C0 hK hw (jy_F hv0) (ly_F hv0) rfl inX1 0 (by decide) wf_X1_9 rfl rfl dX1_raise_72 ?_
              refine lv_iload (pc := 75) C0.1 C0.2.1 dX1_raise_75 (lv_at hl 0 rfl) ?_
              obtain ⟨hi, hf⟩ := gd_e hf
              refine x_iald (pc := 77) C0 hK hw (jy_G hv0) (ly_G hv0) hi dX1_raise_77 ?_
              refine lv_aload_n (pc := 78) C0.1 C0.2.1 dX1_raise_78 rfl (lv_at hl 5 rfl) ?_
              refine x_get (pc := 79) (v := .int (a2.2.1 v2 12)) C0 hK hw (jy_T hv2) (ly_T hv2) rfl inX5 12 (by decide) wf_X1_54 rfl rfl dX1_raise_79 ?_
              refine va_mmax (pc := 82) C0.1 C0.2.1 (C0.2.2.1.trans hl.1.symm) C0.2.2.2.1 (C0.2.2.2.2 _ wm_X1_57) (C0.2.2.2.2 _ wt_J9_max_7cf53) (C0.2.2.2.2 _ wn_J9) (C0.2.2.2.2 _ wc_J9_max_7cf53) (Nat.le_of_ble_eq_true rfl) (Nat.le_of_ble_eq_true rfl) (Nat.zero_le _) (Nat.zero_le _) dX1_raise_82 ?_
              obtain ⟨hi, hf⟩ := gd_e hf
              obtain ⟨u4, hu, hf⟩ := nm_f hf
              refine x_iast (pc := 85) hI C0 hK hw (jy_G hv0) (ly_G hv0) hi hu dX1_raise_85 (fun H locs hw => ?_)
              refine lv_iinc (pc := 86) (v := a2.1 + 1) (lv' := [(4, .int (a2.1 + 1)), (5, .int ((a1.1 * 10) + a2.1)), (3, .int a1.1), (0, .ref (ad (154 + v0))), (1, .ref (ad (132 + v1))), (2, .ref (ad v2))]) C0.1 C0.2.1 dX1_raise_86 hl (k := 1) rfl rfl (by decide) rfl (fun ls hl => ?_)
              refine lv_goto (tgt := 47) (pc := 89) C0.1 C0.2.1 dX1_raise_89 (by decide) ?_
              exact hG _ (Option.some.inj hf).symm H locs ls hw (lv_sub hl [0, 2, 3, 4, 5] rfl)
          · skip
            refine lv_iinc (pc := 92) (v := a1.1 + 1) (lv' := [(3, .int (a1.1 + 1)), (4, .int e3.1), (0, .ref (ad (154 + v0))), (1, .ref (ad (132 + v1))), (2, .ref (ad v2))]) C0.1 C0.2.1 dX1_raise_92 hl (k := 1) rfl rfl (by decide) rfl (fun ls hl => ?_)
            refine lv_goto (tgt := 33) (pc := 95) C0.1 C0.2.1 dX1_raise_95 (by decide) ?_
            exact hG _ (Option.some.inj hf).symm H locs ls hw (lv_sub hl [0, 2, 3, 4] rfl)
      · skip
        exact x_vret (pc := 98) C0 hK hk hr hw (Option.some.inj hf) dX1_raise_98
    · have hf := if_t hf hc
      exact x_vret (pc := 27) C0 hK hk hr hw (Option.some.inj hf) dX1_raise_27
def wX1_survey : List Cond := .code yX1_survey cX1_survey 3 none :: lwT
def rX1_survey : Room := { frames := 3, cells := 0, slots := 0, locals := 70 }
set_option maxRecDepth 100000 in
set_option maxHeartbeats 4000000 in
theorem kX1_survey (l : Launch) (D : va_G) (y : Nat → ClassId) (ad : Nat → Nat) (hI : XI ad 168) (v0 : Nat) (hv0 : v0 < 2) (v1 : Nat) (hv1 : v1 < 11) (u : S) {o : S} (hf : fX1_survey v0 v1 u = some o) : Met l yX1_survey wX1_survey rX1_survey (va_Pc [.ref (ad (154 + v0)), .ref (ad (132 + v1))] (XW D y ad LX 168 u)) (XQv D y ad LX 168 o) 0 0 (XA ad 168) := by
  refine x_met (bytes := cX1_survey) (maxL := 3) (ret := none) (own := RX1) (by decide) rfl rfl (Nat.le_of_ble_eq_true rfl) (fun p e s m below meth c ls C0 hK hk hr hw hl => ?_)
  have hl : lv_has ls 3 [(0, .ref (ad (154 + v0))), (1, .ref (ad (132 + v1)))] := hl
  unfold fX1_survey at hf
  refine lv_iconst (v := 0) (pc := 0) C0.1 C0.2.1 dX1_survey_0 (by decide) ?_
  refine lv_istore_n (pc := 1) (lv' := [(2, .int 0), (0, .ref (ad (154 + v0))), (1, .ref (ad (132 + v1)))]) C0.1 C0.2.1 dX1_survey_1 rfl hl (by decide) rfl (fun ls hl => ?_)
  obtain ⟨e1, he1, hf⟩ := bd_e hf
  refine X_loop (pc := 2) (xpc := 24) (fu := fun a1 => a1.2) (fl := fun a1 => [(2, .int a1.1), (0, .ref (ad (154 + v0))), (1, .ref (ad (132 + v1)))]) (fun a1 r hf hE hG H locs ls hw hl => ?_) he1 (fun H locs ls hw hl => ?_) hw hl
  · unfold gX1_survey_2 at hf
    refine lv_iload_n (pc := 2) C0.1 C0.2.1 dX1_survey_2 rfl (lv_at hl 0 rfl) ?_
    refine lv_aload_n (pc := 3) C0.1 C0.2.1 dX1_survey_3 rfl (lv_at hl 1 rfl) ?_
    refine x_get (pc := 4) (v := .ref (ad (156 + v0))) C0 hK hw (jy_F hv0) (ly_F hv0) rfl inX1 0 (by decide) wf_X1_9 rfl rfl dX1_survey_4 ?_
    refine x_alen0 (pc := 7) C0 hK hw (jy_G hv0) (ly_G hv0) rfl dX1_survey_7 ?_
    refine lv_icmp_ge (tgt := 24) (pc := 8) C0.1 C0.2.1 dX1_survey_8 (by decide) (fun hc => ?_) (fun hc => ?_)
    · have hf := if_t hf hc
      exact hE _ (Option.some.inj hf).symm H locs ls hw (lv_sub hl [0, 1, 2] rfl)
    · have hf := if_f hf hc
      refine lv_aload_n (pc := 11) C0.1 C0.2.1 dX1_survey_11 rfl (lv_at hl 1 rfl) ?_
      refine x_get (pc := 12) (v := .ref (ad (156 + v0))) C0 hK hw (jy_F hv0) (ly_F hv0) rfl inX1 0 (by decide) wf_X1_9 rfl rfl dX1_survey_12 ?_
      refine lv_iload_n (pc := 15) C0.1 C0.2.1 dX1_survey_15 rfl (lv_at hl 0 rfl) ?_
      refine lv_iconst (v := 0) (pc := 16) C0.1 C0.2.1 dX1_survey_16 (by decide) ?_
      obtain ⟨hi, hf⟩ := gd_e hf
      obtain ⟨u2, hu, hf⟩ := nm_f hf
      refine x_iast (pc := 17) hI C0 hK hw (jy_G hv0) (ly_G hv0) hi hu dX1_survey_17 (fun H locs hw => ?_)
      refine lv_iinc (pc := 18) (v := a1.1 + 1) (lv' := [(2, .int (a1.1 + 1)), (0, .ref (ad (154 + v0))), (1, .ref (ad (132 + v1)))]) C0.1 C0.2.1 dX1_survey_18 hl (k := 0) rfl rfl (by decide) rfl (fun ls hl => ?_)
      refine lv_goto (tgt := 2) (pc := 21) C0.1 C0.2.1 dX1_survey_21 (by decide) ?_
      exact hG _ (Option.some.inj hf).symm H locs ls hw (lv_sub hl [0, 1, 2] rfl)
  · skip
    refine lv_iconst (v := 0) (pc := 24) C0.1 C0.2.1 dX1_survey_24 (by decide) ?_
    refine lv_istore_n (pc := 25) (lv' := [(2, .int 0), (0, .ref (ad (154 + v0))), (1, .ref (ad (132 + v1)))]) C0.1 C0.2.1 dX1_survey_25 rfl hl (by decide) rfl (fun ls hl => ?_)
    obtain ⟨e3, he3, hf⟩ := bd_e hf
    refine X_loop (pc := 26) (xpc := 51) (fu := fun a1 => a1.2) (fl := fun a1 => [(2, .int a1.1), (0, .ref (ad (154 + v0))), (1, .ref (ad (132 + v1)))]) (fun a1 r hf hE hG H locs ls hw hl => ?_) he3 (fun H locs ls hw hl => ?_) hw hl
    · unfold gX1_survey_26 at hf
      refine lv_iload_n (pc := 26) C0.1 C0.2.1 dX1_survey_26 rfl (lv_at hl 0 rfl) ?_
      refine lv_aload_n (pc := 27) C0.1 C0.2.1 dX1_survey_27 rfl (lv_at hl 2 rfl) ?_
      refine x_get (pc := 28) (v := .int (a1.2.1 (132 + v1) 4)) C0 hK hw (jy_B hv1) (ly_B hv1) rfl inX0 4 (by decide) wf_X1_15 rfl rfl dX1_survey_28 ?_
      refine lv_icmp_ge (tgt := 51) (pc := 31) C0.1 C0.2.1 dX1_survey_31 (by decide) (fun hc => ?_) (fun hc => ?_)
      · have hf := if_t hf hc
        exact hE _ (Option.some.inj hf).symm H locs ls hw (lv_sub hl [0, 1, 2] rfl)
      · have hf := if_f hf hc
        refine lv_aload_n (pc := 34) C0.1 C0.2.1 dX1_survey_34 rfl (lv_at hl 1 rfl) ?_
        refine lv_aload_n (pc := 35) C0.1 C0.2.1 dX1_survey_35 rfl (lv_at hl 2 rfl) ?_
        refine lv_aload_n (pc := 36) C0.1 C0.2.1 dX1_survey_36 rfl (lv_at hl 2 rfl) ?_
        refine x_get (pc := 37) (v := .ref (ad (143 + v1))) C0 hK hw (jy_B hv1) (ly_B hv1) rfl inX0 5 (by decide) wf_X1_21 rfl rfl dX1_survey_37 ?_
        refine lv_iload_n (pc := 40) C0.1 C0.2.1 dX1_survey_40 rfl (lv_at hl 0 rfl) ?_
        obtain ⟨hi, hf⟩ := gd_e hf
        have hT4 : 12 * v1 + a1.1.toNatClampNeg < 132 := tb hv1 (inb_lt hi)
        refine x_aldT (pc := 41) (t := 12 * v1 + a1.1.toNatClampNeg) C0 hK hw (jy_R hv1) (ly_R hv1) hi rfl dX1_survey_41 ?_
        obtain ⟨q5, hq5, hf⟩ := bd_e hf
        refine x_backv (pc := 42) hw (x_runV (pc := 42) (As := [.ref (ad (132 + v1)), .ref (ad (12 * v1 + a1.1.toNatClampNeg))]) (rest := []) C0 hK hw hl.1 ⟨Nat.zero_le _, Nat.zero_le _⟩ (kX1_raise l D y ad hI v0 hv0 v1 hv1 (12 * v1 + a1.1.toNatClampNeg) hT4 a1.2 hq5) (jy_F hv0) (ly_F hv0) rfl rfl wc_X1_raise wm_X1_25 wi_X1_raise ws_X1_raise wn_X1 ⟨rfl, rfl⟩ hd_X1_raise rfl ⟨Nat.le_of_ble_eq_true rfl, Nat.le_of_ble_eq_true rfl⟩ (Nat.le_of_ble_eq_true rfl) dX1_survey_42) (fun H locs hw => ?_)
        refine lv_iinc (pc := 45) (v := a1.1 + 1) (lv' := [(2, .int (a1.1 + 1)), (0, .ref (ad (154 + v0))), (1, .ref (ad (132 + v1)))]) C0.1 C0.2.1 dX1_survey_45 hl (k := 0) rfl rfl (by decide) rfl (fun ls hl => ?_)
        refine lv_goto (tgt := 26) (pc := 48) C0.1 C0.2.1 dX1_survey_48 (by decide) ?_
        exact hG _ (Option.some.inj hf).symm H locs ls hw (lv_sub hl [0, 1, 2] rfl)
    · skip
      exact x_vret (pc := 51) C0 hK hk hr hw (Option.some.inj hf) dX1_survey_51
def wX1_holds : List Cond := .code yX1_holds cX1_holds 12 (some .boolean) :: lwT
def rX1_holds : Room := { frames := 2, cells := 0, slots := 0, locals := 45 }
set_option maxRecDepth 100000 in
set_option maxHeartbeats 4000000 in
theorem kX1_holds (l : Launch) (D : va_G) (y : Nat → ClassId) (ad : Nat → Nat) (hI : XI ad 168) (v0 : Nat) (hv0 : v0 < 2) (v1 : Nat) (hv1 : v1 < 11) (v2 : Nat) (hv2 : v2 < 132) (v3 : Int32) (v4 : Int32) (v5 : Int32) (v6 : Int32) (u : S) {o : Int32 × S} (hf : fX1_holds v0 v1 v2 v3 v4 v5 v6 u = some o) : Met l yX1_holds wX1_holds rX1_holds (va_Pc [.ref (ad (154 + v0)), .ref (ad (132 + v1)), .ref (ad v2), .int v3, .int v4, .int v5, .int v6] (XW D y ad LX 168 u)) (XQi D y ad LX 168 o) 0 0 (XA ad 168) := by
  refine x_met (bytes := cX1_holds) (maxL := 12) (ret := (some .boolean)) (own := RX1) (by decide) rfl rfl (Nat.le_of_ble_eq_true rfl) (fun p e s m below meth c ls C0 hK hk hr hw hl => ?_)
  have hl : lv_has ls 12 [(0, .ref (ad (154 + v0))), (1, .ref (ad (132 + v1))), (2, .ref (ad v2)), (3, .int v3), (4, .int v4), (5, .int v5), (6, .int v6)] := hl
  unfold fX1_holds at hf
  refine lv_aload_n (pc := 0) C0.1 C0.2.1 dX1_holds_0 rfl (lv_at hl 0 rfl) ?_
  refine lv_iconst (v := 0) (pc := 1) C0.1 C0.2.1 dX1_holds_1 (by decide) ?_
  obtain ⟨u1, hu, hf⟩ := nm_f hf
  refine x_put (pc := 2) hI C0 hK hw (jy_F hv0) (ly_F hv0) rfl inX1 tyX1_ok nmX1 1 (by decide) wf_X1_63 rfl rfl rfl hu rfl rfl dX1_holds_2 (fun H locs hw => ?_)
  refine lv_aload_n (pc := 5) C0.1 C0.2.1 dX1_holds_5 rfl (lv_at hl 0 rfl) ?_
  refine lv_iconst (v := 0) (pc := 6) C0.1 C0.2.1 dX1_holds_6 (by decide) ?_
  obtain ⟨u2, hu, hf⟩ := nm_f hf
  refine x_put (pc := 7) hI C0 hK hw (jy_F hv0) (ly_F hv0) rfl inX1 tyX1_ok nmX1 2 (by decide) wf_X1_66 rfl rfl rfl hu rfl rfl dX1_holds_7 (fun H locs hw => ?_)
  refine lv_aload_n (pc := 10) C0.1 C0.2.1 dX1_holds_10 rfl (lv_at hl 1 rfl) ?_
  refine lv_aload_n (pc := 11) C0.1 C0.2.1 dX1_holds_11 rfl (lv_at hl 2 rfl) ?_
  refine lv_iload_n (pc := 12) C0.1 C0.2.1 dX1_holds_12 rfl (lv_at hl 3 rfl) ?_
  refine lv_iload (pc := 13) C0.1 C0.2.1 dX1_holds_13 (lv_at hl 4 rfl) ?_
  refine lv_iload (pc := 15) C0.1 C0.2.1 dX1_holds_15 (lv_at hl 5 rfl) ?_
  obtain ⟨q3, hq3, hf⟩ := bd_e hf
  refine x_backp (pc := 17) hw (x_runV (pc := 17) (As := [.ref (ad v2), .int v3, .int v4, .int v5]) (rest := []) C0 hK hw hl.1 ⟨Nat.zero_le _, Nat.zero_le _⟩ (kX0_encloses l D y ad hI v1 hv1 v2 hv2 v3 v4 v5 u2 hq3) (jy_B hv1) (ly_B hv1) rfl rfl wc_X0_encloses wm_X1_44 wi_X0_encloses ws_X0_encloses wn_X0 ⟨rfl, rfl⟩ hd_X0_encloses rfl ⟨Nat.le_of_ble_eq_true rfl, Nat.le_of_ble_eq_true rfl⟩ (Nat.le_of_ble_eq_true rfl) dX1_holds_17) (fun H locs hw => ?_)
  refine lv_if_ne (tgt := 25) (pc := 20) C0.1 C0.2.1 dX1_holds_20 (by decide) (fun hc => ?_) (fun hc => ?_)
  · have hf := if_f hf hc
    refine lv_iload_n (pc := 25) C0.1 C0.2.1 dX1_holds_25 rfl (lv_at hl 3 rfl) ?_
    refine lv_aload_n (pc := 26) C0.1 C0.2.1 dX1_holds_26 rfl (lv_at hl 2 rfl) ?_
    refine lv_iload (pc := 27) C0.1 C0.2.1 dX1_holds_27 (lv_at hl 5 rfl) ?_
    obtain ⟨q4, hq4, hf⟩ := bd_e hf
    refine x_backp (pc := 29) hw (x_runV (pc := 29) (As := [.int v5]) (rest := [.int v3]) C0 hK hw hl.1 ⟨Nat.zero_le _, Nat.zero_le _⟩ (kX5_alongX l D y ad hI v2 hv2 v5 u2 hq4) (jy_T hv2) (ly_T hv2) rfl rfl wc_X5_alongX wm_X1_69 wi_X5_alongX ws_X5_alongX wn_X5 ⟨rfl, rfl⟩ hd_X5_alongX rfl ⟨Nat.le_of_ble_eq_true rfl, Nat.le_of_ble_eq_true rfl⟩ (Nat.le_of_ble_eq_true rfl) dX1_holds_29) (fun H locs hw => ?_)
    refine lv_iadd (pc := 32) C0.1 C0.2.1 dX1_holds_32 ?_
    refine lv_istore (pc := 33) (lv' := [(7, .int (v3 + q4)), (0, .ref (ad (154 + v0))), (1, .ref (ad (132 + v1))), (2, .ref (ad v2)), (3, .int v3), (4, .int v4), (5, .int v5), (6, .int v6)]) C0.1 C0.2.1 dX1_holds_33 hl (by decide) rfl (fun ls hl => ?_)
    refine lv_iload (pc := 35) C0.1 C0.2.1 dX1_holds_35 (lv_at hl 5 rfl) ?_
    refine lv_aload_n (pc := 37) C0.1 C0.2.1 dX1_holds_37 rfl (lv_at hl 3 rfl) ?_
    refine lv_iload (pc := 38) C0.1 C0.2.1 dX1_holds_38 (lv_at hl 6 rfl) ?_
    obtain ⟨q5, hq5, hf⟩ := bd_e hf
    refine x_backp (pc := 40) hw (x_runV (pc := 40) (As := [.int v5]) (rest := [.int v4]) C0 hK hw hl.1 ⟨Nat.zero_le _, Nat.zero_le _⟩ (kX5_alongY l D y ad hI v2 hv2 v5 u2 hq5) (jy_T hv2) (ly_T hv2) rfl rfl wc_X5_alongY wm_X1_73 wi_X5_alongY ws_X5_alongY wn_X5 ⟨rfl, rfl⟩ hd_X5_alongY rfl ⟨Nat.le_of_ble_eq_true rfl, Nat.le_of_ble_eq_true rfl⟩ (Nat.le_of_ble_eq_true rfl) dX1_holds_40) (fun H locs hw => ?_)
    refine lv_iadd (pc := 43) C0.1 C0.2.1 dX1_holds_43 ?_
    refine lv_istore (pc := 44) (lv' := [(8, .int (v4 + q5)), (7, .int (v3 + q4)), (0, .ref (ad (154 + v0))), (1, .ref (ad (132 + v1))), (2, .ref (ad v2)), (3, .int v3), (4, .int v4), (5, .int v5), (6, .int v6)]) C0.1 C0.2.1 dX1_holds_44 hl (by decide) rfl (fun ls hl => ?_)
    refine lv_iload (pc := 46) C0.1 C0.2.1 dX1_holds_46 (lv_at hl 6 rfl) ?_
    refine lv_istore (pc := 48) (lv' := [(9, .int v4), (8, .int (v4 + q5)), (7, .int (v3 + q4)), (0, .ref (ad (154 + v0))), (1, .ref (ad (132 + v1))), (2, .ref (ad v2)), (3, .int v3), (4, .int v4), (5, .int v5), (6, .int v6)]) C0.1 C0.2.1 dX1_holds_48 hl (by decide) rfl (fun ls hl => ?_)
    obtain ⟨e6, he6, hf⟩ := bd_e hf
    refine X_loopR (pc := 50) (xpc := 145) (fu := fun a1 => a1.2) (fl := fun a1 => [(9, .int a1.1), (8, .int (v4 + q5)), (7, .int (v3 + q4)), (0, .ref (ad (154 + v0))), (1, .ref (ad (132 + v1))), (2, .ref (ad v2)), (3, .int v3), (4, .int v4), (5, .int v5), (6, .int v6)]) (o := o) (fun a1 r hf hX hE hG H locs ls hw hl => ?_) he6 ?_ ?_ hw hl
    · unfold gX1_holds_50 at hf
      refine lv_iload (pc := 50) C0.1 C0.2.1 dX1_holds_50 (lv_at hl 0 rfl) ?_
      refine lv_iload (pc := 52) C0.1 C0.2.1 dX1_holds_52 (lv_at hl 1 rfl) ?_
      refine lv_icmp_ge (tgt := 145) (pc := 54) C0.1 C0.2.1 dX1_holds_54 (by decide) (fun hc => ?_) (fun hc => ?_)
      · have hf := if_t hf hc
        exact hE _ (Option.some.inj hf).symm H locs ls hw (lv_sub hl [0, 1, 2, 3, 4, 5, 6, 7, 8, 9] rfl)
      · have hf := if_f hf hc
        refine lv_iload_n (pc := 57) C0.1 C0.2.1 dX1_holds_57 rfl (lv_at hl 6 rfl) ?_
        refine lv_istore (pc := 58) (lv' := [(10, .int v3), (9, .int a1.1), (8, .int (v4 + q5)), (7, .int (v3 + q4)), (0, .ref (ad (154 + v0))), (1, .ref (ad (132 + v1))), (2, .ref (ad v2)), (3, .int v3), (4, .int v4), (5, .int v5), (6, .int v6)]) C0.1 C0.2.1 dX1_holds_58 hl (by decide) rfl (fun ls hl => ?_)
        obtain ⟨e7, he7, hf⟩ := bd_e hf
        refine X_loopR (pc := 60) (xpc := 139) (fu := fun a2 => a2.2) (fl := fun a2 => [(10, .int a2.1), (9, .int a1.1), (8, .int (v4 + q5)), (7, .int (v3 + q4)), (0, .ref (ad (154 + v0))), (1, .ref (ad (132 + v1))), (2, .ref (ad v2)), (3, .int v3), (4, .int v4), (5, .int v5), (6, .int v6)]) (o := o) (fun a2 r hf hX hE hG H locs ls hw hl => ?_) he7 ?_ ?_ hw hl
        · unfold gX1_holds_60 at hf
          refine lv_iload (pc := 60) C0.1 C0.2.1 dX1_holds_60 (lv_at hl 0 rfl) ?_
          refine lv_iload (pc := 62) C0.1 C0.2.1 dX1_holds_62 (lv_at hl 3 rfl) ?_
          refine lv_icmp_ge (tgt := 139) (pc := 64) C0.1 C0.2.1 dX1_holds_64 (by decide) (fun hc => ?_) (fun hc => ?_)
          · have hf := if_t hf hc
            exact hE _ (Option.some.inj hf).symm H locs ls hw (lv_sub hl [0, 1, 2, 3, 4, 5, 6, 7, 8, 9, 10] rfl)
          · have hf := if_f hf hc
            refine lv_aload_n (pc := 67) C0.1 C0.2.1 dX1_holds_67 rfl (lv_at hl 4 rfl) ?_
            refine x_get (pc := 68) (v := .ref (ad (156 + v0))) C0 hK hw (jy_F hv0) (ly_F hv0) rfl inX1 0 (by decide) wf_X1_9 rfl rfl dX1_holds_68 ?_
            refine lv_iload (pc := 71) C0.1 C0.2.1 dX1_holds_71 (lv_at hl 1 rfl) ?_
            refine lv_bipush (v := 10) (pc := 73) C0.1 C0.2.1 dX1_holds_73 (by decide) ?_
            refine lv_imul (pc := 75) C0.1 C0.2.1 dX1_holds_75 ?_
            refine lv_iload (pc := 76) C0.1 C0.2.1 dX1_holds_76 (lv_at hl 0 rfl) ?_
            refine lv_iadd (pc := 78) C0.1 C0.2.1 dX1_holds_78 ?_
            obtain ⟨hi, hf⟩ := gd_e hf
            refine x_iald (pc := 79) C0 hK hw (jy_G hv0) (ly_G hv0) hi dX1_holds_79 ?_
            refine lv_istore (pc := 80) (lv' := [(11, .int (a2.2.1 (156 + v0) ((a1.1 * 10) + a2.1).toNatClampNeg)), (10, .int a2.1), (9, .int a1.1), (8, .int (v4 + q5)), (7, .int (v3 + q4)), (0, .ref (ad (154 + v0))), (1, .ref (ad (132 + v1))), (2, .ref (ad v2)), (3, .int v3), (4, .int v4), (5, .int v5), (6, .int v6)]) C0.1 C0.2.1 dX1_holds_80 hl (by decide) rfl (fun ls hl => ?_)
            refine lv_iload (pc := 82) C0.1 C0.2.1 dX1_holds_82 (lv_at hl 0 rfl) ?_
            refine lv_iload (pc := 84) C0.1 C0.2.1 dX1_holds_84 (lv_at hl 11 rfl) ?_
            refine lv_icmp_le (tgt := 91) (pc := 86) C0.1 C0.2.1 dX1_holds_86 (by decide) (fun hc => ?_) (fun hc => ?_)
            · have hf := if_t hf hc
              refine lv_iload (pc := 91) C0.1 C0.2.1 dX1_holds_91 (lv_at hl 0 rfl) ?_
              refine lv_aload_n (pc := 93) C0.1 C0.2.1 dX1_holds_93 rfl (lv_at hl 5 rfl) ?_
              refine x_get (pc := 94) (v := .int (a2.2.1 (154 + v0) 1)) C0 hK hw (jy_F hv0) (ly_F hv0) rfl inX1 1 (by decide) wf_X1_63 rfl rfl dX1_holds_94 ?_
              refine lv_icmp_le (tgt := 114) (pc := 97) C0.1 C0.2.1 dX1_holds_97 (by decide) (fun hc => ?_) (fun hc => ?_)
              · have hf := if_t hf hc
                refine lv_iload (pc := 114) C0.1 C0.2.1 dX1_holds_114 (lv_at hl 0 rfl) ?_
                refine lv_aload_n (pc := 116) C0.1 C0.2.1 dX1_holds_116 rfl (lv_at hl 5 rfl) ?_
                refine x_get (pc := 117) (v := .int (a2.2.1 (154 + v0) 1)) C0 hK hw (jy_F hv0) (ly_F hv0) rfl inX1 1 (by decide) wf_X1_63 rfl rfl dX1_holds_117 ?_
                refine lv_icmp_ne (tgt := 133) (pc := 120) C0.1 C0.2.1 dX1_holds_120 (by decide) (fun hc => ?_) (fun hc => ?_)
                · have hf := if_f hf hc
                  refine lv_iinc (pc := 133) (v := a2.1 + 1) (lv' := [(10, .int (a2.1 + 1)), (11, .int (a2.2.1 (156 + v0) ((a1.1 * 10) + a2.1).toNatClampNeg)), (9, .int a1.1), (8, .int (v4 + q5)), (7, .int (v3 + q4)), (0, .ref (ad (154 + v0))), (1, .ref (ad (132 + v1))), (2, .ref (ad v2)), (3, .int v3), (4, .int v4), (5, .int v5), (6, .int v6)]) C0.1 C0.2.1 dX1_holds_133 hl (k := 1) rfl rfl (by decide) rfl (fun ls hl => ?_)
                  refine lv_goto (tgt := 60) (pc := 136) C0.1 C0.2.1 dX1_holds_136 (by decide) ?_
                  exact hG _ (Option.some.inj hf).symm H locs ls hw (lv_sub hl [0, 2, 3, 4, 5, 6, 7, 8, 9, 10, 11] rfl)
                · have hf := if_t hf hc
                  refine lv_aload_n (pc := 123) C0.1 C0.2.1 dX1_holds_123 rfl (lv_at hl 5 rfl) ?_
                  refine lv_dup (pc := 124) C0.1 C0.2.1 dX1_holds_124 rfl ?_
                  refine x_get (pc := 125) (v := .int (a2.2.1 (154 + v0) 2)) C0 hK hw (jy_F hv0) (ly_F hv0) rfl inX1 2 (by decide) wf_X1_66 rfl rfl dX1_holds_125 ?_
                  refine lv_iconst (v := 1) (pc := 128) C0.1 C0.2.1 dX1_holds_128 (by decide) ?_
                  refine lv_iadd (pc := 129) C0.1 C0.2.1 dX1_holds_129 ?_
                  obtain ⟨u8, hu, hf⟩ := nm_f hf
                  refine x_put (pc := 130) hI C0 hK hw (jy_F hv0) (ly_F hv0) rfl inX1 tyX1_ok nmX1 2 (by decide) wf_X1_66 rfl rfl rfl hu rfl rfl dX1_holds_130 (fun H locs hw => ?_)
                  refine lv_iinc (pc := 133) (v := a2.1 + 1) (lv' := [(10, .int (a2.1 + 1)), (11, .int (a2.2.1 (156 + v0) ((a1.1 * 10) + a2.1).toNatClampNeg)), (9, .int a1.1), (8, .int (v4 + q5)), (7, .int (v3 + q4)), (0, .ref (ad (154 + v0))), (1, .ref (ad (132 + v1))), (2, .ref (ad v2)), (3, .int v3), (4, .int v4), (5, .int v5), (6, .int v6)]) C0.1 C0.2.1 dX1_holds_133 hl (k := 1) rfl rfl (by decide) rfl (fun ls hl => ?_)
                  refine lv_goto (tgt := 60) (pc := 136) C0.1 C0.2.1 dX1_holds_136 (by decide) ?_
                  exact hG _ (Option.some.inj hf).symm H locs ls hw (lv_sub hl [0, 2, 3, 4, 5, 6, 7, 8, 9, 10, 11] rfl)
              · have hf := if_f hf hc
                refine lv_aload_n (pc := 100) C0.1 C0.2.1 dX1_holds_100 rfl (lv_at hl 5 rfl) ?_
                refine lv_iload (pc := 101) C0.1 C0.2.1 dX1_holds_101 (lv_at hl 0 rfl) ?_
                obtain ⟨u9, hu, hf⟩ := nm_f hf
                refine x_put (pc := 103) hI C0 hK hw (jy_F hv0) (ly_F hv0) rfl inX1 tyX1_ok nmX1 1 (by decide) wf_X1_63 rfl rfl rfl hu rfl rfl dX1_holds_103 (fun H locs hw => ?_)
                refine lv_aload_n (pc := 106) C0.1 C0.2.1 dX1_holds_106 rfl (lv_at hl 5 rfl) ?_
                refine lv_iconst (v := 1) (pc := 107) C0.1 C0.2.1 dX1_holds_107 (by decide) ?_
                obtain ⟨u10, hu, hf⟩ := nm_f hf
                refine x_put (pc := 108) hI C0 hK hw (jy_F hv0) (ly_F hv0) rfl inX1 tyX1_ok nmX1 2 (by decide) wf_X1_66 rfl rfl rfl hu rfl rfl dX1_holds_108 (fun H locs hw => ?_)
                refine lv_goto (tgt := 133) (pc := 111) C0.1 C0.2.1 dX1_holds_111 (by decide) ?_
                refine lv_iinc (pc := 133) (v := a2.1 + 1) (lv' := [(10, .int (a2.1 + 1)), (11, .int (a2.2.1 (156 + v0) ((a1.1 * 10) + a2.1).toNatClampNeg)), (9, .int a1.1), (8, .int (v4 + q5)), (7, .int (v3 + q4)), (0, .ref (ad (154 + v0))), (1, .ref (ad (132 + v1))), (2, .ref (ad v2)), (3, .int v3), (4, .int v4), (5, .int v5), (6, .int v6)]) C0.1 C0.2.1 dX1_holds_133 hl (k := 1) rfl rfl (by decide) rfl (fun ls hl => ?_)
                refine lv_goto (tgt := 60) (pc := 136) C0.1 C0.2.1 dX1_holds_136 (by decide) ?_
                exact hG _ (Option.some.inj hf).symm H locs ls hw (lv_sub hl [0, 2, 3, 4, 5, 6, 7, 8, 9, 10, 11] rfl)
            · have hf := if_f hf hc
              refine lv_iconst (v := 0) (pc := 89) C0.1 C0.2.1 dX1_holds_89 (by decide) ?_
              exact x_zret (pc := 90) C0 hK hk hr hw rfl (hX _ (Option.some.inj hf).symm) dX1_holds_90
        · intro x hx
          subst hx
          exact hX _ (Option.some.inj hf).symm
        · intro e7x he H locs ls hw hl
          subst he
          have hf := sum_r hf
          refine lv_iinc (pc := 139) (v := a1.1 + 1) (lv' := [(9, .int (a1.1 + 1)), (10, .int e7x.1), (8, .int (v4 + q5)), (7, .int (v3 + q4)), (0, .ref (ad (154 + v0))), (1, .ref (ad (132 + v1))), (2, .ref (ad v2)), (3, .int v3), (4, .int v4), (5, .int v5), (6, .int v6)]) C0.1 C0.2.1 dX1_holds_139 hl (k := 1) rfl rfl (by decide) rfl (fun ls hl => ?_)
          refine lv_goto (tgt := 50) (pc := 142) C0.1 C0.2.1 dX1_holds_142 (by decide) ?_
          exact hG _ (Option.some.inj hf).symm H locs ls hw (lv_sub hl [0, 2, 3, 4, 5, 6, 7, 8, 9, 10] rfl)
    · intro x hx
      subst hx
      exact Option.some.inj hf
    · intro e6x he H locs ls hw hl
      subst he
      have hf := sum_r hf
      refine lv_bipush (v := 100) (pc := 145) C0.1 C0.2.1 dX1_holds_145 (by decide) ?_
      refine lv_aload_n (pc := 147) C0.1 C0.2.1 dX1_holds_147 rfl (lv_at hl 3 rfl) ?_
      refine x_get (pc := 148) (v := .int (e6x.2.1 (154 + v0) 2)) C0 hK hw (jy_F hv0) (ly_F hv0) rfl inX1 2 (by decide) wf_X1_66 rfl rfl dX1_holds_148 ?_
      refine lv_imul (pc := 151) C0.1 C0.2.1 dX1_holds_151 ?_
      refine lv_aload_n (pc := 152) C0.1 C0.2.1 dX1_holds_152 rfl (lv_at hl 4 rfl) ?_
      refine x_get (pc := 153) (v := .int (e6x.2.1 (132 + v1) 3)) C0 hK hw (jy_B hv1) (ly_B hv1) rfl inX0 3 (by decide) wf_X1_76 rfl rfl dX1_holds_153 ?_
      refine lv_aload_n (pc := 156) C0.1 C0.2.1 dX1_holds_156 rfl (lv_at hl 5 rfl) ?_
      obtain ⟨q11, hq11, hf⟩ := bd_e hf
      refine x_backp (pc := 157) hw (x_runV (pc := 157) (As := []) (rest := [.int (e6x.2.1 (132 + v1) 3), .int (100 * (e6x.2.1 (154 + v0) 2))]) C0 hK hw hl.1 ⟨Nat.zero_le _, Nat.zero_le _⟩ (kX5_area l D y ad hI v2 hv2 e6x.2 hq11) (jy_T hv2) (ly_T hv2) rfl rfl wc_X5_area wm_X1_79 wi_X5_area ws_X5_area wn_X5 ⟨rfl, rfl⟩ hd_X5_area rfl ⟨Nat.le_of_ble_eq_true rfl, Nat.le_of_ble_eq_true rfl⟩ (Nat.le_of_ble_eq_true rfl) dX1_holds_157) (fun H locs hw => ?_)
      refine lv_imul (pc := 160) C0.1 C0.2.1 dX1_holds_160 ?_
      refine lv_icmp_lt (tgt := 168) (pc := 161) C0.1 C0.2.1 dX1_holds_161 (by decide) (fun hc => ?_) (fun hc => ?_)
      · have hf := if_t hf hc
        refine lv_iconst (v := 0) (pc := 168) C0.1 C0.2.1 dX1_holds_168 (by decide) ?_
        exact x_zret (pc := 169) C0 hK hk hr hw rfl (Option.some.inj hf) dX1_holds_169
      · have hf := if_f hf hc
        refine lv_iconst (v := 1) (pc := 164) C0.1 C0.2.1 dX1_holds_164 (by decide) ?_
        refine lv_goto (tgt := 169) (pc := 165) C0.1 C0.2.1 dX1_holds_165 (by decide) ?_
        exact x_zret (pc := 169) C0 hK hk hr hw rfl (Option.some.inj hf) dX1_holds_169
  · have hf := if_t hf hc
    refine lv_iconst (v := 0) (pc := 23) C0.1 C0.2.1 dX1_holds_23 (by decide) ?_
    exact x_zret (pc := 24) C0 hK hk hr hw rfl (Option.some.inj hf) dX1_holds_24
def wX1_keep : List Cond := .code yX1_keep cX1_keep 4 none :: lwT
def rX1_keep : Room := { frames := 0, cells := 0, slots := 0, locals := 0 }
set_option maxRecDepth 100000 in
set_option maxHeartbeats 4000000 in
theorem kX1_keep (l : Launch) (D : va_G) (y : Nat → ClassId) (ad : Nat → Nat) (hI : XI ad 168) (v0 : Nat) (hv0 : v0 < 2) (v1 : Int32) (v2 : Int32) (v3 : Int32) (u : S) {o : S} (hf : fX1_keep v0 v1 v2 v3 u = some o) : Met l yX1_keep wX1_keep rX1_keep (va_Pc [.ref (ad (154 + v0)), .int v1, .int v2, .int v3] (XW D y ad LX 168 u)) (XQv D y ad LX 168 o) 0 0 (XA ad 168) := by
  refine x_met (bytes := cX1_keep) (maxL := 4) (ret := none) (own := RX1) (by decide) rfl rfl (Nat.le_of_ble_eq_true rfl) (fun p e s m below meth c ls C0 hK hk hr hw hl => ?_)
  have hl : lv_has ls 4 [(0, .ref (ad (154 + v0))), (1, .int v1), (2, .int v2), (3, .int v3)] := hl
  unfold fX1_keep at hf
  refine lv_aload_n (pc := 0) C0.1 C0.2.1 dX1_keep_0 rfl (lv_at hl 0 rfl) ?_
  refine lv_dup (pc := 1) C0.1 C0.2.1 dX1_keep_1 rfl ?_
  refine x_get (pc := 2) (v := .int (u.1 (154 + v0) 3)) C0 hK hw (jy_F hv0) (ly_F hv0) rfl inX1 3 (by decide) wf_X1_83 rfl rfl dX1_keep_2 ?_
  refine lv_iconst (v := 1) (pc := 5) C0.1 C0.2.1 dX1_keep_5 (by decide) ?_
  refine lv_iadd (pc := 6) C0.1 C0.2.1 dX1_keep_6 ?_
  obtain ⟨u1, hu, hf⟩ := nm_f hf
  refine x_put (pc := 7) hI C0 hK hw (jy_F hv0) (ly_F hv0) rfl inX1 tyX1_ok nmX1 3 (by decide) wf_X1_83 rfl rfl rfl hu rfl rfl dX1_keep_7 (fun H locs hw => ?_)
  refine lv_aload_n (pc := 10) C0.1 C0.2.1 dX1_keep_10 rfl (lv_at hl 0 rfl) ?_
  refine lv_iload_n (pc := 11) C0.1 C0.2.1 dX1_keep_11 rfl (lv_at hl 1 rfl) ?_
  obtain ⟨u2, hu, hf⟩ := nm_f hf
  refine x_put (pc := 12) hI C0 hK hw (jy_F hv0) (ly_F hv0) rfl inX1 tyX1_ok nmX1 4 (by decide) wf_X1_106 rfl rfl rfl hu rfl rfl dX1_keep_12 (fun H locs hw => ?_)
  refine lv_aload_n (pc := 15) C0.1 C0.2.1 dX1_keep_15 rfl (lv_at hl 0 rfl) ?_
  refine lv_iload_n (pc := 16) C0.1 C0.2.1 dX1_keep_16 rfl (lv_at hl 2 rfl) ?_
  obtain ⟨u3, hu, hf⟩ := nm_f hf
  refine x_put (pc := 17) hI C0 hK hw (jy_F hv0) (ly_F hv0) rfl inX1 tyX1_ok nmX1 5 (by decide) wf_X1_109 rfl rfl rfl hu rfl rfl dX1_keep_17 (fun H locs hw => ?_)
  refine lv_aload_n (pc := 20) C0.1 C0.2.1 dX1_keep_20 rfl (lv_at hl 0 rfl) ?_
  refine lv_iload_n (pc := 21) C0.1 C0.2.1 dX1_keep_21 rfl (lv_at hl 3 rfl) ?_
  obtain ⟨hz, hf⟩ := gd_e hf
  obtain ⟨u4, hu, hf⟩ := nm_f hf
  refine x_put (pc := 22) hI C0 hK hw (jy_F hv0) (ly_F hv0) rfl inX1 tyX1_ok nmX1 6 (by decide) wf_X1_112 rfl rfl rfl hu (isb_narrow hz) (isb_fits hz) dX1_keep_22 (fun H locs hw => ?_)
  refine lv_aload_n (pc := 25) C0.1 C0.2.1 dX1_keep_25 rfl (lv_at hl 0 rfl) ?_
  refine lv_aload_n (pc := 26) C0.1 C0.2.1 dX1_keep_26 rfl (lv_at hl 0 rfl) ?_
  refine x_get (pc := 27) (v := .int (u4.1 (154 + v0) 1)) C0 hK hw (jy_F hv0) (ly_F hv0) rfl inX1 1 (by decide) wf_X1_63 rfl rfl dX1_keep_27 ?_
  obtain ⟨u5, hu, hf⟩ := nm_f hf
  refine x_put (pc := 30) hI C0 hK hw (jy_F hv0) (ly_F hv0) rfl inX1 tyX1_ok nmX1 7 (by decide) wf_X1_115 rfl rfl rfl hu rfl rfl dX1_keep_30 (fun H locs hw => ?_)
  refine lv_aload_n (pc := 33) C0.1 C0.2.1 dX1_keep_33 rfl (lv_at hl 0 rfl) ?_
  refine lv_aload_n (pc := 34) C0.1 C0.2.1 dX1_keep_34 rfl (lv_at hl 0 rfl) ?_
  refine x_get (pc := 35) (v := .int (u5.1 (154 + v0) 2)) C0 hK hw (jy_F hv0) (ly_F hv0) rfl inX1 2 (by decide) wf_X1_66 rfl rfl dX1_keep_35 ?_
  obtain ⟨u6, hu, hf⟩ := nm_f hf
  refine x_put (pc := 38) hI C0 hK hw (jy_F hv0) (ly_F hv0) rfl inX1 tyX1_ok nmX1 8 (by decide) wf_X1_118 rfl rfl rfl hu rfl rfl dX1_keep_38 (fun H locs hw => ?_)
  exact x_vret (pc := 41) C0 hK hk hr hw (Option.some.inj hf) dX1_keep_41
def wX1_search : List Cond := .code yX1_search cX1_search 9 none :: lwT
def rX1_search : Room := { frames := 3, cells := 0, slots := 0, locals := 76 }
set_option maxRecDepth 100000 in
set_option maxHeartbeats 4000000 in
theorem kX1_search (l : Launch) (D : va_G) (y : Nat → ClassId) (ad : Nat → Nat) (hI : XI ad 168) (v0 : Nat) (hv0 : v0 < 2) (v1 : Nat) (hv1 : v1 < 11) (v2 : Nat) (hv2 : v2 < 132) (v3 : Int32) (u : S) {o : S} (hf : fX1_search v0 v1 v2 v3 u = some o) : Met l yX1_search wX1_search rX1_search (va_Pc [.ref (ad (154 + v0)), .ref (ad (132 + v1)), .ref (ad v2), .int v3] (XW D y ad LX 168 u)) (XQv D y ad LX 168 o) 0 0 (XA ad 168) := by
  refine x_met (bytes := cX1_search) (maxL := 9) (ret := none) (own := RX1) (by decide) rfl rfl (Nat.le_of_ble_eq_true rfl) (fun p e s m below meth c ls C0 hK hk hr hw hl => ?_)
  have hl : lv_has ls 9 [(0, .ref (ad (154 + v0))), (1, .ref (ad (132 + v1))), (2, .ref (ad v2)), (3, .int v3)] := hl
  unfold fX1_search at hf
  refine lv_aload_n (pc := 0) C0.1 C0.2.1 dX1_search_0 rfl (lv_at hl 0 rfl) ?_
  refine lv_iconst (v := 0) (pc := 1) C0.1 C0.2.1 dX1_search_1 (by decide) ?_
  obtain ⟨u1, hu, hf⟩ := nm_f hf
  refine x_put (pc := 2) hI C0 hK hw (jy_F hv0) (ly_F hv0) rfl inX1 tyX1_ok nmX1 3 (by decide) wf_X1_83 rfl rfl rfl hu rfl rfl dX1_search_2 (fun H locs hw => ?_)
  refine lv_aload_n (pc := 5) C0.1 C0.2.1 dX1_search_5 rfl (lv_at hl 1 rfl) ?_
  refine lv_aload_n (pc := 6) C0.1 C0.2.1 dX1_search_6 rfl (lv_at hl 2 rfl) ?_
  obtain ⟨q2, hq2, hf⟩ := bd_e hf
  refine x_backp (pc := 7) hw (x_runV (pc := 7) (As := [.ref (ad v2)]) (rest := []) C0 hK hw hl.1 ⟨Nat.zero_le _, Nat.zero_le _⟩ (kX0_highestFloor l D y ad hI v1 hv1 v2 hv2 u1 hq2) (jy_B hv1) (ly_B hv1) rfl rfl wc_X0_highestFloor wm_X1_86 wi_X0_highestFloor ws_X0_highestFloor wn_X0 ⟨rfl, rfl⟩ hd_X0_highestFloor rfl ⟨Nat.le_of_ble_eq_true rfl, Nat.le_of_ble_eq_true rfl⟩ (Nat.le_of_ble_eq_true rfl) dX1_search_7) (fun H locs hw => ?_)
  refine lv_istore (pc := 10) (lv' := [(4, .int q2), (0, .ref (ad (154 + v0))), (1, .ref (ad (132 + v1))), (2, .ref (ad v2)), (3, .int v3)]) C0.1 C0.2.1 dX1_search_10 hl (by decide) rfl (fun ls hl => ?_)
  refine lv_aload_n (pc := 12) C0.1 C0.2.1 dX1_search_12 rfl (lv_at hl 3 rfl) ?_
  refine x_get (pc := 13) (v := .int (u1.1 v2 0)) C0 hK hw (jy_T hv2) (ly_T hv2) rfl inX5 0 (by decide) wf_X1_90 rfl rfl dX1_search_13 ?_
  refine lv_aload_n (pc := 16) C0.1 C0.2.1 dX1_search_16 rfl (lv_at hl 3 rfl) ?_
  refine x_get (pc := 17) (v := .int (u1.1 v2 1)) C0 hK hw (jy_T hv2) (ly_T hv2) rfl inX5 1 (by decide) wf_X1_93 rfl rfl dX1_search_17 ?_
  refine lv_icmp_ne (tgt := 27) (pc := 20) C0.1 C0.2.1 dX1_search_20 (by decide) (fun hc => ?_) (fun hc => ?_)
  · have hf := if_f hf hc
    refine lv_iconst (v := 2) (pc := 27) C0.1 C0.2.1 dX1_search_27 (by decide) ?_
    refine lv_istore (pc := 28) (lv' := [(5, .int 2), (4, .int q2), (0, .ref (ad (154 + v0))), (1, .ref (ad (132 + v1))), (2, .ref (ad v2)), (3, .int v3)]) C0.1 C0.2.1 dX1_search_28 hl (by decide) rfl (fun ls hl => ?_)
    refine lv_iconst (v := 0) (pc := 30) C0.1 C0.2.1 dX1_search_30 (by decide) ?_
    refine lv_istore (pc := 31) (lv' := [(6, .int 0), (5, .int 2), (4, .int q2), (0, .ref (ad (154 + v0))), (1, .ref (ad (132 + v1))), (2, .ref (ad v2)), (3, .int v3)]) C0.1 C0.2.1 dX1_search_31 hl (by decide) rfl (fun ls hl => ?_)
    obtain ⟨e3, he3, hf⟩ := bd_e hf
    refine X_loop (pc := 33) (xpc := 154) (fu := fun a1 => a1.2.2) (fl := fun a1 => [(6, .int a1.2.1), (5, .int 2), (4, .int a1.1), (0, .ref (ad (154 + v0))), (1, .ref (ad (132 + v1))), (2, .ref (ad v2)), (3, .int v3)]) (fun a1 r hf hE hG H locs ls hw hl => ?_) he3 (fun H locs ls hw hl => ?_) hw hl
    · unfold gX1_search_33 at hf
      refine lv_iload (pc := 33) C0.1 C0.2.1 dX1_search_33 (lv_at hl 0 rfl) ?_
      refine lv_aload_n (pc := 35) C0.1 C0.2.1 dX1_search_35 rfl (lv_at hl 4 rfl) ?_
      refine x_get (pc := 36) (v := .int (a1.2.2.1 (132 + v1) 1)) C0 hK hw (jy_B hv1) (ly_B hv1) rfl inX0 1 (by decide) wf_X1_96 rfl rfl dX1_search_36 ?_
      refine lv_icmp_ge (tgt := 154) (pc := 39) C0.1 C0.2.1 dX1_search_39 (by decide) (fun hc => ?_) (fun hc => ?_)
      · have hf := if_t hf hc
        exact hE _ (Option.some.inj hf).symm H locs ls hw (lv_sub hl [0, 1, 2, 3, 4, 5, 6] rfl)
      · have hf := if_f hf hc
        refine lv_iload (pc := 42) C0.1 C0.2.1 dX1_search_42 (lv_at hl 2 rfl) ?_
        refine lv_if_lt (tgt := 154) (pc := 44) C0.1 C0.2.1 dX1_search_44 (by decide) (fun hc => ?_) (fun hc => ?_)
        · have hf := if_t hf hc
          exact hE _ (Option.some.inj hf).symm H locs ls hw (lv_sub hl [0, 1, 2, 3, 4, 5, 6] rfl)
        · have hf := if_f hf hc
          refine lv_iconst (v := 0) (pc := 47) C0.1 C0.2.1 dX1_search_47 (by decide) ?_
          refine lv_istore (pc := 48) (lv' := [(7, .int 0), (6, .int a1.2.1), (5, .int 2), (4, .int a1.1), (0, .ref (ad (154 + v0))), (1, .ref (ad (132 + v1))), (2, .ref (ad v2)), (3, .int v3)]) C0.1 C0.2.1 dX1_search_48 hl (by decide) rfl (fun ls hl => ?_)
          obtain ⟨e4, he4, hf⟩ := bd_e hf
          refine X_loop (pc := 50) (xpc := 148) (fu := fun a2 => a2.2.2) (fl := fun a2 => [(7, .int a2.2.1), (6, .int a1.2.1), (5, .int 2), (4, .int a2.1), (0, .ref (ad (154 + v0))), (1, .ref (ad (132 + v1))), (2, .ref (ad v2)), (3, .int v3)]) (fun a2 r hf hE hG H locs ls hw hl => ?_) he4 (fun H locs ls hw hl => ?_) hw hl
          · unfold gX1_search_50 at hf
            refine lv_iload (pc := 50) C0.1 C0.2.1 dX1_search_50 (lv_at hl 0 rfl) ?_
            refine lv_aload_n (pc := 52) C0.1 C0.2.1 dX1_search_52 rfl (lv_at hl 5 rfl) ?_
            refine x_get (pc := 53) (v := .int (a2.2.2.1 (132 + v1) 0)) C0 hK hw (jy_B hv1) (ly_B hv1) rfl inX0 0 (by decide) wf_X1_97 rfl rfl dX1_search_53 ?_
            refine lv_icmp_ge (tgt := 148) (pc := 56) C0.1 C0.2.1 dX1_search_56 (by decide) (fun hc => ?_) (fun hc => ?_)
            · have hf := if_t hf hc
              exact hE _ (Option.some.inj hf).symm H locs ls hw (lv_sub hl [0, 1, 2, 3, 4, 5, 6, 7] rfl)
            · have hf := if_f hf hc
              refine lv_iload (pc := 59) C0.1 C0.2.1 dX1_search_59 (lv_at hl 3 rfl) ?_
              refine lv_if_lt (tgt := 148) (pc := 61) C0.1 C0.2.1 dX1_search_61 (by decide) (fun hc => ?_) (fun hc => ?_)
              · have hf := if_t hf hc
                exact hE _ (Option.some.inj hf).symm H locs ls hw (lv_sub hl [0, 1, 2, 3, 4, 5, 6, 7] rfl)
              · have hf := if_f hf hc
                refine lv_iconst (v := 0) (pc := 64) C0.1 C0.2.1 dX1_search_64 (by decide) ?_
                refine lv_istore (pc := 65) (lv' := [(8, .int 0), (7, .int a2.2.1), (6, .int a1.2.1), (5, .int 2), (4, .int a2.1), (0, .ref (ad (154 + v0))), (1, .ref (ad (132 + v1))), (2, .ref (ad v2)), (3, .int v3)]) C0.1 C0.2.1 dX1_search_65 hl (by decide) rfl (fun ls hl => ?_)
                obtain ⟨e5, he5, hf⟩ := bd_e hf
                refine X_loop (pc := 67) (xpc := 142) (fu := fun a3 => a3.2.2) (fl := fun a3 => [(8, .int a3.2.1), (7, .int a2.2.1), (6, .int a1.2.1), (5, .int 2), (4, .int a3.1), (0, .ref (ad (154 + v0))), (1, .ref (ad (132 + v1))), (2, .ref (ad v2)), (3, .int v3)]) (fun a3 r hf hE hG H locs ls hw hl => ?_) he5 (fun H locs ls hw hl => ?_) hw hl
                · unfold gX1_search_67 at hf
                  refine lv_iload (pc := 67) C0.1 C0.2.1 dX1_search_67 (lv_at hl 0 rfl) ?_
                  refine lv_iload (pc := 69) C0.1 C0.2.1 dX1_search_69 (lv_at hl 3 rfl) ?_
                  refine lv_icmp_ge (tgt := 142) (pc := 71) C0.1 C0.2.1 dX1_search_71 (by decide) (fun hc => ?_) (fun hc => ?_)
                  · have hf := if_t hf hc
                    exact hE _ (Option.some.inj hf).symm H locs ls hw (lv_sub hl [0, 1, 2, 3, 4, 5, 6, 7, 8] rfl)
                  · have hf := if_f hf hc
                    refine lv_aload_n (pc := 74) C0.1 C0.2.1 dX1_search_74 rfl (lv_at hl 5 rfl) ?_
                    refine lv_aload_n (pc := 75) C0.1 C0.2.1 dX1_search_75 rfl (lv_at hl 6 rfl) ?_
                    refine lv_aload_n (pc := 76) C0.1 C0.2.1 dX1_search_76 rfl (lv_at hl 7 rfl) ?_
                    refine lv_iload (pc := 77) C0.1 C0.2.1 dX1_search_77 (lv_at hl 1 rfl) ?_
                    refine lv_iload (pc := 79) C0.1 C0.2.1 dX1_search_79 (lv_at hl 2 rfl) ?_
                    refine lv_iload (pc := 81) C0.1 C0.2.1 dX1_search_81 (lv_at hl 0 rfl) ?_
                    refine lv_iconst (v := 1) (pc := 83) C0.1 C0.2.1 dX1_search_83 (by decide) ?_
                    refine lv_icmp_ne (tgt := 91) (pc := 84) C0.1 C0.2.1 dX1_search_84 (by decide) (fun hc => ?_) (fun hc => ?_)
                    · have hf := if_f hf hc
                      refine lv_iconst (v := 0) (pc := 91) C0.1 C0.2.1 dX1_search_91 (by decide) ?_
                      refine lv_iload (pc := 92) C0.1 C0.2.1 dX1_search_92 (lv_at hl 4 rfl) ?_
                      obtain ⟨q6, hq6, hf⟩ := bd_e hf
                      refine x_back (pc := 94) hw (x_runV (pc := 94) (As := [.ref (ad (132 + v1)), .ref (ad v2), .int a2.2.1, .int a1.2.1, .int 0, .int a3.1]) (rest := []) C0 hK hw hl.1 ⟨Nat.zero_le _, Nat.zero_le _⟩ (kX1_holds l D y ad hI v0 hv0 v1 hv1 v2 hv2 a2.2.1 a1.2.1 0 a3.1 a3.2.2 hq6) (jy_F hv0) (ly_F hv0) rfl rfl wc_X1_holds wm_X1_98 wi_X1_holds ws_X1_holds wn_X1 ⟨rfl, rfl⟩ hd_X1_holds rfl ⟨Nat.le_of_ble_eq_true rfl, Nat.le_of_ble_eq_true rfl⟩ (Nat.le_of_ble_eq_true rfl) dX1_search_94) (fun H locs hw => ?_)
                      refine lv_if_eq (tgt := 136) (pc := 97) C0.1 C0.2.1 dX1_search_97 (by decide) (fun hc => ?_) (fun hc => ?_)
                      · have hf := if_t hf hc
                        refine lv_iinc (pc := 136) (v := a3.2.1 + 1) (lv' := [(8, .int (a3.2.1 + 1)), (7, .int a2.2.1), (6, .int a1.2.1), (5, .int 2), (4, .int a3.1), (0, .ref (ad (154 + v0))), (1, .ref (ad (132 + v1))), (2, .ref (ad v2)), (3, .int v3)]) C0.1 C0.2.1 dX1_search_136 hl (k := 0) rfl rfl (by decide) rfl (fun ls hl => ?_)
                        refine lv_goto (tgt := 67) (pc := 139) C0.1 C0.2.1 dX1_search_139 (by decide) ?_
                        exact hG _ (Option.some.inj hf).symm H locs ls hw (lv_sub hl [0, 1, 2, 3, 4, 5, 6, 7, 8] rfl)
                      · have hf := if_f hf hc
                        refine lv_aload_n (pc := 100) C0.1 C0.2.1 dX1_search_100 rfl (lv_at hl 5 rfl) ?_
                        refine lv_iload (pc := 101) C0.1 C0.2.1 dX1_search_101 (lv_at hl 1 rfl) ?_
                        refine lv_iload (pc := 103) C0.1 C0.2.1 dX1_search_103 (lv_at hl 2 rfl) ?_
                        refine lv_iload (pc := 105) C0.1 C0.2.1 dX1_search_105 (lv_at hl 0 rfl) ?_
                        refine lv_iconst (v := 1) (pc := 107) C0.1 C0.2.1 dX1_search_107 (by decide) ?_
                        refine lv_icmp_ne (tgt := 115) (pc := 108) C0.1 C0.2.1 dX1_search_108 (by decide) (fun hc => ?_) (fun hc => ?_)
                        · have hf := if_f hf hc
                          refine lv_iconst (v := 0) (pc := 115) C0.1 C0.2.1 dX1_search_115 (by decide) ?_
                          obtain ⟨q7, hq7, hf⟩ := bd_e hf
                          refine x_backv (pc := 116) hw (x_runV (pc := 116) (As := [.int a2.2.1, .int a1.2.1, .int 0]) (rest := []) C0 hK hw hl.1 ⟨Nat.zero_le _, Nat.zero_le _⟩ (kX1_keep l D y ad hI v0 hv0 a2.2.1 a1.2.1 0 q6.2 hq7) (jy_F hv0) (ly_F hv0) rfl rfl wc_X1_keep wm_X1_102 wi_X1_keep ws_X1_keep wn_X1 ⟨rfl, rfl⟩ hd_X1_keep rfl ⟨Nat.le_of_ble_eq_true rfl, Nat.le_of_ble_eq_true rfl⟩ (Nat.le_of_ble_eq_true rfl) dX1_search_116) (fun H locs hw => ?_)
                          refine lv_iload_n (pc := 119) C0.1 C0.2.1 dX1_search_119 rfl (lv_at hl 8 rfl) ?_
                          refine lv_if_eq (tgt := 132) (pc := 120) C0.1 C0.2.1 dX1_search_120 (by decide) (fun hc => ?_) (fun hc => ?_)
                          · have hf := if_t hf hc
                            refine lv_iload (pc := 132) C0.1 C0.2.1 dX1_search_132 (lv_at hl 4 rfl) ?_
                            refine lv_istore (pc := 134) (lv' := [(4, .int a3.1), (8, .int a3.2.1), (7, .int a2.2.1), (6, .int a1.2.1), (5, .int 2), (0, .ref (ad (154 + v0))), (1, .ref (ad (132 + v1))), (2, .ref (ad v2)), (3, .int v3)]) C0.1 C0.2.1 dX1_search_134 hl (by decide) rfl (fun ls hl => ?_)
                            refine lv_iinc (pc := 136) (v := a3.2.1 + 1) (lv' := [(8, .int (a3.2.1 + 1)), (4, .int a3.1), (7, .int a2.2.1), (6, .int a1.2.1), (5, .int 2), (0, .ref (ad (154 + v0))), (1, .ref (ad (132 + v1))), (2, .ref (ad v2)), (3, .int v3)]) C0.1 C0.2.1 dX1_search_136 hl (k := 1) rfl rfl (by decide) rfl (fun ls hl => ?_)
                            refine lv_goto (tgt := 67) (pc := 139) C0.1 C0.2.1 dX1_search_139 (by decide) ?_
                            exact hG _ (Option.some.inj hf).symm H locs ls hw (lv_sub hl [0, 2, 3, 4, 1, 5, 6, 7, 8] rfl)
                          · have hf := if_f hf hc
                            refine lv_aload_n (pc := 123) C0.1 C0.2.1 dX1_search_123 rfl (lv_at hl 5 rfl) ?_
                            refine x_get (pc := 124) (v := .int (q7.1 (154 + v0) 1)) C0 hK hw (jy_F hv0) (ly_F hv0) rfl inX1 1 (by decide) wf_X1_63 rfl rfl dX1_search_124 ?_
                            refine lv_iconst (v := 1) (pc := 127) C0.1 C0.2.1 dX1_search_127 (by decide) ?_
                            refine lv_isub (pc := 128) C0.1 C0.2.1 dX1_search_128 ?_
                            refine lv_goto (tgt := 134) (pc := 129) C0.1 C0.2.1 dX1_search_129 (by decide) ?_
                            refine lv_istore (pc := 134) (lv' := [(4, .int ((q7.1 (154 + v0) 1) - 1)), (8, .int a3.2.1), (7, .int a2.2.1), (6, .int a1.2.1), (5, .int 2), (0, .ref (ad (154 + v0))), (1, .ref (ad (132 + v1))), (2, .ref (ad v2)), (3, .int v3)]) C0.1 C0.2.1 dX1_search_134 hl (by decide) rfl (fun ls hl => ?_)
                            refine lv_iinc (pc := 136) (v := a3.2.1 + 1) (lv' := [(8, .int (a3.2.1 + 1)), (4, .int ((q7.1 (154 + v0) 1) - 1)), (7, .int a2.2.1), (6, .int a1.2.1), (5, .int 2), (0, .ref (ad (154 + v0))), (1, .ref (ad (132 + v1))), (2, .ref (ad v2)), (3, .int v3)]) C0.1 C0.2.1 dX1_search_136 hl (k := 1) rfl rfl (by decide) rfl (fun ls hl => ?_)
                            refine lv_goto (tgt := 67) (pc := 139) C0.1 C0.2.1 dX1_search_139 (by decide) ?_
                            exact hG _ (Option.some.inj hf).symm H locs ls hw (lv_sub hl [0, 2, 3, 4, 1, 5, 6, 7, 8] rfl)
                        · have hf := if_t hf hc
                          refine lv_iconst (v := 1) (pc := 111) C0.1 C0.2.1 dX1_search_111 (by decide) ?_
                          refine lv_goto (tgt := 116) (pc := 112) C0.1 C0.2.1 dX1_search_112 (by decide) ?_
                          obtain ⟨q8, hq8, hf⟩ := bd_e hf
                          refine x_backv (pc := 116) hw (x_runV (pc := 116) (As := [.int a2.2.1, .int a1.2.1, .int 1]) (rest := []) C0 hK hw hl.1 ⟨Nat.zero_le _, Nat.zero_le _⟩ (kX1_keep l D y ad hI v0 hv0 a2.2.1 a1.2.1 1 q6.2 hq8) (jy_F hv0) (ly_F hv0) rfl rfl wc_X1_keep wm_X1_102 wi_X1_keep ws_X1_keep wn_X1 ⟨rfl, rfl⟩ hd_X1_keep rfl ⟨Nat.le_of_ble_eq_true rfl, Nat.le_of_ble_eq_true rfl⟩ (Nat.le_of_ble_eq_true rfl) dX1_search_116) (fun H locs hw => ?_)
                          refine lv_iload_n (pc := 119) C0.1 C0.2.1 dX1_search_119 rfl (lv_at hl 8 rfl) ?_
                          refine lv_if_eq (tgt := 132) (pc := 120) C0.1 C0.2.1 dX1_search_120 (by decide) (fun hc => ?_) (fun hc => ?_)
                          · have hf := if_t hf hc
                            refine lv_iload (pc := 132) C0.1 C0.2.1 dX1_search_132 (lv_at hl 4 rfl) ?_
                            refine lv_istore (pc := 134) (lv' := [(4, .int a3.1), (8, .int a3.2.1), (7, .int a2.2.1), (6, .int a1.2.1), (5, .int 2), (0, .ref (ad (154 + v0))), (1, .ref (ad (132 + v1))), (2, .ref (ad v2)), (3, .int v3)]) C0.1 C0.2.1 dX1_search_134 hl (by decide) rfl (fun ls hl => ?_)
                            refine lv_iinc (pc := 136) (v := a3.2.1 + 1) (lv' := [(8, .int (a3.2.1 + 1)), (4, .int a3.1), (7, .int a2.2.1), (6, .int a1.2.1), (5, .int 2), (0, .ref (ad (154 + v0))), (1, .ref (ad (132 + v1))), (2, .ref (ad v2)), (3, .int v3)]) C0.1 C0.2.1 dX1_search_136 hl (k := 1) rfl rfl (by decide) rfl (fun ls hl => ?_)
                            refine lv_goto (tgt := 67) (pc := 139) C0.1 C0.2.1 dX1_search_139 (by decide) ?_
                            exact hG _ (Option.some.inj hf).symm H locs ls hw (lv_sub hl [0, 2, 3, 4, 1, 5, 6, 7, 8] rfl)
                          · have hf := if_f hf hc
                            refine lv_aload_n (pc := 123) C0.1 C0.2.1 dX1_search_123 rfl (lv_at hl 5 rfl) ?_
                            refine x_get (pc := 124) (v := .int (q8.1 (154 + v0) 1)) C0 hK hw (jy_F hv0) (ly_F hv0) rfl inX1 1 (by decide) wf_X1_63 rfl rfl dX1_search_124 ?_
                            refine lv_iconst (v := 1) (pc := 127) C0.1 C0.2.1 dX1_search_127 (by decide) ?_
                            refine lv_isub (pc := 128) C0.1 C0.2.1 dX1_search_128 ?_
                            refine lv_goto (tgt := 134) (pc := 129) C0.1 C0.2.1 dX1_search_129 (by decide) ?_
                            refine lv_istore (pc := 134) (lv' := [(4, .int ((q8.1 (154 + v0) 1) - 1)), (8, .int a3.2.1), (7, .int a2.2.1), (6, .int a1.2.1), (5, .int 2), (0, .ref (ad (154 + v0))), (1, .ref (ad (132 + v1))), (2, .ref (ad v2)), (3, .int v3)]) C0.1 C0.2.1 dX1_search_134 hl (by decide) rfl (fun ls hl => ?_)
                            refine lv_iinc (pc := 136) (v := a3.2.1 + 1) (lv' := [(8, .int (a3.2.1 + 1)), (4, .int ((q8.1 (154 + v0) 1) - 1)), (7, .int a2.2.1), (6, .int a1.2.1), (5, .int 2), (0, .ref (ad (154 + v0))), (1, .ref (ad (132 + v1))), (2, .ref (ad v2)), (3, .int v3)]) C0.1 C0.2.1 dX1_search_136 hl (k := 1) rfl rfl (by decide) rfl (fun ls hl => ?_)
                            refine lv_goto (tgt := 67) (pc := 139) C0.1 C0.2.1 dX1_search_139 (by decide) ?_
                            exact hG _ (Option.some.inj hf).symm H locs ls hw (lv_sub hl [0, 2, 3, 4, 1, 5, 6, 7, 8] rfl)
                    · have hf := if_t hf hc
                      refine lv_iconst (v := 1) (pc := 87) C0.1 C0.2.1 dX1_search_87 (by decide) ?_
                      refine lv_goto (tgt := 92) (pc := 88) C0.1 C0.2.1 dX1_search_88 (by decide) ?_
                      refine lv_iload (pc := 92) C0.1 C0.2.1 dX1_search_92 (lv_at hl 4 rfl) ?_
                      obtain ⟨q9, hq9, hf⟩ := bd_e hf
                      refine x_back (pc := 94) hw (x_runV (pc := 94) (As := [.ref (ad (132 + v1)), .ref (ad v2), .int a2.2.1, .int a1.2.1, .int 1, .int a3.1]) (rest := []) C0 hK hw hl.1 ⟨Nat.zero_le _, Nat.zero_le _⟩ (kX1_holds l D y ad hI v0 hv0 v1 hv1 v2 hv2 a2.2.1 a1.2.1 1 a3.1 a3.2.2 hq9) (jy_F hv0) (ly_F hv0) rfl rfl wc_X1_holds wm_X1_98 wi_X1_holds ws_X1_holds wn_X1 ⟨rfl, rfl⟩ hd_X1_holds rfl ⟨Nat.le_of_ble_eq_true rfl, Nat.le_of_ble_eq_true rfl⟩ (Nat.le_of_ble_eq_true rfl) dX1_search_94) (fun H locs hw => ?_)
                      refine lv_if_eq (tgt := 136) (pc := 97) C0.1 C0.2.1 dX1_search_97 (by decide) (fun hc => ?_) (fun hc => ?_)
                      · have hf := if_t hf hc
                        refine lv_iinc (pc := 136) (v := a3.2.1 + 1) (lv' := [(8, .int (a3.2.1 + 1)), (7, .int a2.2.1), (6, .int a1.2.1), (5, .int 2), (4, .int a3.1), (0, .ref (ad (154 + v0))), (1, .ref (ad (132 + v1))), (2, .ref (ad v2)), (3, .int v3)]) C0.1 C0.2.1 dX1_search_136 hl (k := 0) rfl rfl (by decide) rfl (fun ls hl => ?_)
                        refine lv_goto (tgt := 67) (pc := 139) C0.1 C0.2.1 dX1_search_139 (by decide) ?_
                        exact hG _ (Option.some.inj hf).symm H locs ls hw (lv_sub hl [0, 1, 2, 3, 4, 5, 6, 7, 8] rfl)
                      · have hf := if_f hf hc
                        refine lv_aload_n (pc := 100) C0.1 C0.2.1 dX1_search_100 rfl (lv_at hl 5 rfl) ?_
                        refine lv_iload (pc := 101) C0.1 C0.2.1 dX1_search_101 (lv_at hl 1 rfl) ?_
                        refine lv_iload (pc := 103) C0.1 C0.2.1 dX1_search_103 (lv_at hl 2 rfl) ?_
                        refine lv_iload (pc := 105) C0.1 C0.2.1 dX1_search_105 (lv_at hl 0 rfl) ?_
                        refine lv_iconst (v := 1) (pc := 107) C0.1 C0.2.1 dX1_search_107 (by decide) ?_
                        refine lv_icmp_ne (tgt := 115) (pc := 108) C0.1 C0.2.1 dX1_search_108 (by decide) (fun hc => ?_) (fun hc => ?_)
                        · have hf := if_f hf hc
                          refine lv_iconst (v := 0) (pc := 115) C0.1 C0.2.1 dX1_search_115 (by decide) ?_
                          obtain ⟨q10, hq10, hf⟩ := bd_e hf
                          refine x_backv (pc := 116) hw (x_runV (pc := 116) (As := [.int a2.2.1, .int a1.2.1, .int 0]) (rest := []) C0 hK hw hl.1 ⟨Nat.zero_le _, Nat.zero_le _⟩ (kX1_keep l D y ad hI v0 hv0 a2.2.1 a1.2.1 0 q9.2 hq10) (jy_F hv0) (ly_F hv0) rfl rfl wc_X1_keep wm_X1_102 wi_X1_keep ws_X1_keep wn_X1 ⟨rfl, rfl⟩ hd_X1_keep rfl ⟨Nat.le_of_ble_eq_true rfl, Nat.le_of_ble_eq_true rfl⟩ (Nat.le_of_ble_eq_true rfl) dX1_search_116) (fun H locs hw => ?_)
                          refine lv_iload_n (pc := 119) C0.1 C0.2.1 dX1_search_119 rfl (lv_at hl 8 rfl) ?_
                          refine lv_if_eq (tgt := 132) (pc := 120) C0.1 C0.2.1 dX1_search_120 (by decide) (fun hc => ?_) (fun hc => ?_)
                          · have hf := if_t hf hc
                            refine lv_iload (pc := 132) C0.1 C0.2.1 dX1_search_132 (lv_at hl 4 rfl) ?_
                            refine lv_istore (pc := 134) (lv' := [(4, .int a3.1), (8, .int a3.2.1), (7, .int a2.2.1), (6, .int a1.2.1), (5, .int 2), (0, .ref (ad (154 + v0))), (1, .ref (ad (132 + v1))), (2, .ref (ad v2)), (3, .int v3)]) C0.1 C0.2.1 dX1_search_134 hl (by decide) rfl (fun ls hl => ?_)
                            refine lv_iinc (pc := 136) (v := a3.2.1 + 1) (lv' := [(8, .int (a3.2.1 + 1)), (4, .int a3.1), (7, .int a2.2.1), (6, .int a1.2.1), (5, .int 2), (0, .ref (ad (154 + v0))), (1, .ref (ad (132 + v1))), (2, .ref (ad v2)), (3, .int v3)]) C0.1 C0.2.1 dX1_search_136 hl (k := 1) rfl rfl (by decide) rfl (fun ls hl => ?_)
                            refine lv_goto (tgt := 67) (pc := 139) C0.1 C0.2.1 dX1_search_139 (by decide) ?_
                            exact hG _ (Option.some.inj hf).symm H locs ls hw (lv_sub hl [0, 2, 3, 4, 1, 5, 6, 7, 8] rfl)
                          · have hf := if_f hf hc
                            refine lv_aload_n (pc := 123) C0.1 C0.2.1 dX1_search_123 rfl (lv_at hl 5 rfl) ?_
                            refine x_get (pc := 124) (v := .int (q10.1 (154 + v0) 1)) C0 hK hw (jy_F hv0) (ly_F hv0) rfl inX1 1 (by decide) wf_X1_63 rfl rfl dX1_search_124 ?_
                            refine lv_iconst (v := 1) (pc := 127) C0.1 C0.2.1 dX1_search_127 (by decide) ?_
                            refine lv_isub (pc := 128) C0.1 C0.2.1 dX1_search_128 ?_
                            refine lv_goto (tgt := 134) (pc := 129) C0.1 C0.2.1 dX1_search_129 (by decide) ?_
                            refine lv_istore (pc := 134) (lv' := [(4, .int ((q10.1 (154 + v0) 1) - 1)), (8, .int a3.2.1), (7, .int a2.2.1), (6, .int a1.2.1), (5, .int 2), (0, .ref (ad (154 + v0))), (1, .ref (ad (132 + v1))), (2, .ref (ad v2)), (3, .int v3)]) C0.1 C0.2.1 dX1_search_134 hl (by decide) rfl (fun ls hl => ?_)
                            refine lv_iinc (pc := 136) (v := a3.2.1 + 1) (lv' := [(8, .int (a3.2.1 + 1)), (4, .int ((q10.1 (154 + v0) 1) - 1)), (7, .int a2.2.1), (6, .int a1.2.1), (5, .int 2), (0, .ref (ad (154 + v0))), (1, .ref (ad (132 + v1))), (2, .ref (ad v2)), (3, .int v3)]) C0.1 C0.2.1 dX1_search_136 hl (k := 1) rfl rfl (by decide) rfl (fun ls hl => ?_)
                            refine lv_goto (tgt := 67) (pc := 139) C0.1 C0.2.1 dX1_search_139 (by decide) ?_
                            exact hG _ (Option.some.inj hf).symm H locs ls hw (lv_sub hl [0, 2, 3, 4, 1, 5, 6, 7, 8] rfl)
                        · have hf := if_t hf hc
                          refine lv_iconst (v := 1) (pc := 111) C0.1 C0.2.1 dX1_search_111 (by decide) ?_
                          refine lv_goto (tgt := 116) (pc := 112) C0.1 C0.2.1 dX1_search_112 (by decide) ?_
                          obtain ⟨q11, hq11, hf⟩ := bd_e hf
                          refine x_backv (pc := 116) hw (x_runV (pc := 116) (As := [.int a2.2.1, .int a1.2.1, .int 1]) (rest := []) C0 hK hw hl.1 ⟨Nat.zero_le _, Nat.zero_le _⟩ (kX1_keep l D y ad hI v0 hv0 a2.2.1 a1.2.1 1 q9.2 hq11) (jy_F hv0) (ly_F hv0) rfl rfl wc_X1_keep wm_X1_102 wi_X1_keep ws_X1_keep wn_X1 ⟨rfl, rfl⟩ hd_X1_keep rfl ⟨Nat.le_of_ble_eq_true rfl, Nat.le_of_ble_eq_true rfl⟩ (Nat.le_of_ble_eq_true rfl) dX1_search_116) (fun H locs hw => ?_)
                          refine lv_iload_n (pc := 119) C0.1 C0.2.1 dX1_search_119 rfl (lv_at hl 8 rfl) ?_
                          refine lv_if_eq (tgt := 132) (pc := 120) C0.1 C0.2.1 dX1_search_120 (by decide) (fun hc => ?_) (fun hc => ?_)
                          · have hf := if_t hf hc
                            refine lv_iload (pc := 132) C0.1 C0.2.1 dX1_search_132 (lv_at hl 4 rfl) ?_
                            refine lv_istore (pc := 134) (lv' := [(4, .int a3.1), (8, .int a3.2.1), (7, .int a2.2.1), (6, .int a1.2.1), (5, .int 2), (0, .ref (ad (154 + v0))), (1, .ref (ad (132 + v1))), (2, .ref (ad v2)), (3, .int v3)]) C0.1 C0.2.1 dX1_search_134 hl (by decide) rfl (fun ls hl => ?_)
                            refine lv_iinc (pc := 136) (v := a3.2.1 + 1) (lv' := [(8, .int (a3.2.1 + 1)), (4, .int a3.1), (7, .int a2.2.1), (6, .int a1.2.1), (5, .int 2), (0, .ref (ad (154 + v0))), (1, .ref (ad (132 + v1))), (2, .ref (ad v2)), (3, .int v3)]) C0.1 C0.2.1 dX1_search_136 hl (k := 1) rfl rfl (by decide) rfl (fun ls hl => ?_)
                            refine lv_goto (tgt := 67) (pc := 139) C0.1 C0.2.1 dX1_search_139 (by decide) ?_
                            exact hG _ (Option.some.inj hf).symm H locs ls hw (lv_sub hl [0, 2, 3, 4, 1, 5, 6, 7, 8] rfl)
                          · have hf := if_f hf hc
                            refine lv_aload_n (pc := 123) C0.1 C0.2.1 dX1_search_123 rfl (lv_at hl 5 rfl) ?_
                            refine x_get (pc := 124) (v := .int (q11.1 (154 + v0) 1)) C0 hK hw (jy_F hv0) (ly_F hv0) rfl inX1 1 (by decide) wf_X1_63 rfl rfl dX1_search_124 ?_
                            refine lv_iconst (v := 1) (pc := 127) C0.1 C0.2.1 dX1_search_127 (by decide) ?_
                            refine lv_isub (pc := 128) C0.1 C0.2.1 dX1_search_128 ?_
                            refine lv_goto (tgt := 134) (pc := 129) C0.1 C0.2.1 dX1_search_129 (by decide) ?_
                            refine lv_istore (pc := 134) (lv' := [(4, .int ((q11.1 (154 + v0) 1) - 1)), (8, .int a3.2.1), (7, .int a2.2.1), (6, .int a1.2.1), (5, .int 2), (0, .ref (ad (154 + v0))), (1, .ref (ad (132 + v1))), (2, .ref (ad v2)), (3, .int v3)]) C0.1 C0.2.1 dX1_search_134 hl (by decide) rfl (fun ls hl => ?_)
                            refine lv_iinc (pc := 136) (v := a3.2.1 + 1) (lv' := [(8, .int (a3.2.1 + 1)), (4, .int ((q11.1 (154 + v0) 1) - 1)), (7, .int a2.2.1), (6, .int a1.2.1), (5, .int 2), (0, .ref (ad (154 + v0))), (1, .ref (ad (132 + v1))), (2, .ref (ad v2)), (3, .int v3)]) C0.1 C0.2.1 dX1_search_136 hl (k := 1) rfl rfl (by decide) rfl (fun ls hl => ?_)
                            refine lv_goto (tgt := 67) (pc := 139) C0.1 C0.2.1 dX1_search_139 (by decide) ?_
                            exact hG _ (Option.some.inj hf).symm H locs ls hw (lv_sub hl [0, 2, 3, 4, 1, 5, 6, 7, 8] rfl)
                · skip
                  refine lv_iinc (pc := 142) (v := a2.2.1 + 1) (lv' := [(7, .int (a2.2.1 + 1)), (8, .int e5.2.1), (6, .int a1.2.1), (5, .int 2), (4, .int e5.1), (0, .ref (ad (154 + v0))), (1, .ref (ad (132 + v1))), (2, .ref (ad v2)), (3, .int v3)]) C0.1 C0.2.1 dX1_search_142 hl (k := 1) rfl rfl (by decide) rfl (fun ls hl => ?_)
                  refine lv_goto (tgt := 50) (pc := 145) C0.1 C0.2.1 dX1_search_145 (by decide) ?_
                  exact hG _ (Option.some.inj hf).symm H locs ls hw (lv_sub hl [0, 2, 3, 4, 5, 6, 7, 8] rfl)
          · skip
            refine lv_iinc (pc := 148) (v := a1.2.1 + 1) (lv' := [(6, .int (a1.2.1 + 1)), (7, .int e4.2.1), (5, .int 2), (4, .int e4.1), (0, .ref (ad (154 + v0))), (1, .ref (ad (132 + v1))), (2, .ref (ad v2)), (3, .int v3)]) C0.1 C0.2.1 dX1_search_148 hl (k := 1) rfl rfl (by decide) rfl (fun ls hl => ?_)
            refine lv_goto (tgt := 33) (pc := 151) C0.1 C0.2.1 dX1_search_151 (by decide) ?_
            exact hG _ (Option.some.inj hf).symm H locs ls hw (lv_sub hl [0, 2, 3, 4, 5, 6, 7] rfl)
    · skip
      exact x_vret (pc := 154) C0 hK hk hr hw (Option.some.inj hf) dX1_search_154
  · have hf := if_t hf hc
    refine lv_iconst (v := 1) (pc := 23) C0.1 C0.2.1 dX1_search_23 (by decide) ?_
    refine lv_goto (tgt := 28) (pc := 24) C0.1 C0.2.1 dX1_search_24 (by decide) ?_
    refine lv_istore (pc := 28) (lv' := [(5, .int 1), (4, .int q2), (0, .ref (ad (154 + v0))), (1, .ref (ad (132 + v1))), (2, .ref (ad v2)), (3, .int v3)]) C0.1 C0.2.1 dX1_search_28 hl (by decide) rfl (fun ls hl => ?_)
    refine lv_iconst (v := 0) (pc := 30) C0.1 C0.2.1 dX1_search_30 (by decide) ?_
    refine lv_istore (pc := 31) (lv' := [(6, .int 0), (5, .int 1), (4, .int q2), (0, .ref (ad (154 + v0))), (1, .ref (ad (132 + v1))), (2, .ref (ad v2)), (3, .int v3)]) C0.1 C0.2.1 dX1_search_31 hl (by decide) rfl (fun ls hl => ?_)
    obtain ⟨e12, he12, hf⟩ := bd_e hf
    refine X_loop (pc := 33) (xpc := 154) (fu := fun a1 => a1.2.2) (fl := fun a1 => [(6, .int a1.2.1), (5, .int 1), (4, .int a1.1), (0, .ref (ad (154 + v0))), (1, .ref (ad (132 + v1))), (2, .ref (ad v2)), (3, .int v3)]) (fun a1 r hf hE hG H locs ls hw hl => ?_) he12 (fun H locs ls hw hl => ?_) hw hl
    · unfold gX1_search_33 at hf
      refine lv_iload (pc := 33) C0.1 C0.2.1 dX1_search_33 (lv_at hl 0 rfl) ?_
      refine lv_aload_n (pc := 35) C0.1 C0.2.1 dX1_search_35 rfl (lv_at hl 4 rfl) ?_
      refine x_get (pc := 36) (v := .int (a1.2.2.1 (132 + v1) 1)) C0 hK hw (jy_B hv1) (ly_B hv1) rfl inX0 1 (by decide) wf_X1_96 rfl rfl dX1_search_36 ?_
      refine lv_icmp_ge (tgt := 154) (pc := 39) C0.1 C0.2.1 dX1_search_39 (by decide) (fun hc => ?_) (fun hc => ?_)
      · have hf := if_t hf hc
        exact hE _ (Option.some.inj hf).symm H locs ls hw (lv_sub hl [0, 1, 2, 3, 4, 5, 6] rfl)
      · have hf := if_f hf hc
        refine lv_iload (pc := 42) C0.1 C0.2.1 dX1_search_42 (lv_at hl 2 rfl) ?_
        refine lv_if_lt (tgt := 154) (pc := 44) C0.1 C0.2.1 dX1_search_44 (by decide) (fun hc => ?_) (fun hc => ?_)
        · have hf := if_t hf hc
          exact hE _ (Option.some.inj hf).symm H locs ls hw (lv_sub hl [0, 1, 2, 3, 4, 5, 6] rfl)
        · have hf := if_f hf hc
          refine lv_iconst (v := 0) (pc := 47) C0.1 C0.2.1 dX1_search_47 (by decide) ?_
          refine lv_istore (pc := 48) (lv' := [(7, .int 0), (6, .int a1.2.1), (5, .int 1), (4, .int a1.1), (0, .ref (ad (154 + v0))), (1, .ref (ad (132 + v1))), (2, .ref (ad v2)), (3, .int v3)]) C0.1 C0.2.1 dX1_search_48 hl (by decide) rfl (fun ls hl => ?_)
          obtain ⟨e13, he13, hf⟩ := bd_e hf
          refine X_loop (pc := 50) (xpc := 148) (fu := fun a2 => a2.2.2) (fl := fun a2 => [(7, .int a2.2.1), (6, .int a1.2.1), (5, .int 1), (4, .int a2.1), (0, .ref (ad (154 + v0))), (1, .ref (ad (132 + v1))), (2, .ref (ad v2)), (3, .int v3)]) (fun a2 r hf hE hG H locs ls hw hl => ?_) he13 (fun H locs ls hw hl => ?_) hw hl
          · unfold gX1_search_50 at hf
            refine lv_iload (pc := 50) C0.1 C0.2.1 dX1_search_50 (lv_at hl 0 rfl) ?_
            refine lv_aload_n (pc := 52) C0.1 C0.2.1 dX1_search_52 rfl (lv_at hl 5 rfl) ?_
            refine x_get (pc := 53) (v := .int (a2.2.2.1 (132 + v1) 0)) C0 hK hw (jy_B hv1) (ly_B hv1) rfl inX0 0 (by decide) wf_X1_97 rfl rfl dX1_search_53 ?_
            refine lv_icmp_ge (tgt := 148) (pc := 56) C0.1 C0.2.1 dX1_search_56 (by decide) (fun hc => ?_) (fun hc => ?_)
            · have hf := if_t hf hc
              exact hE _ (Option.some.inj hf).symm H locs ls hw (lv_sub hl [0, 1, 2, 3, 4, 5, 6, 7] rfl)
            · have hf := if_f hf hc
              refine lv_iload (pc := 59) C0.1 C0.2.1 dX1_search_59 (lv_at hl 3 rfl) ?_
              refine lv_if_lt (tgt := 148) (pc := 61) C0.1 C0.2.1 dX1_search_61 (by decide) (fun hc => ?_) (fun hc => ?_)
              · have hf := if_t hf hc
                exact hE _ (Option.some.inj hf).symm H locs ls hw (lv_sub hl [0, 1, 2, 3, 4, 5, 6, 7] rfl)
              · have hf := if_f hf hc
                refine lv_iconst (v := 0) (pc := 64) C0.1 C0.2.1 dX1_search_64 (by decide) ?_
                refine lv_istore (pc := 65) (lv' := [(8, .int 0), (7, .int a2.2.1), (6, .int a1.2.1), (5, .int 1), (4, .int a2.1), (0, .ref (ad (154 + v0))), (1, .ref (ad (132 + v1))), (2, .ref (ad v2)), (3, .int v3)]) C0.1 C0.2.1 dX1_search_65 hl (by decide) rfl (fun ls hl => ?_)
                obtain ⟨e14, he14, hf⟩ := bd_e hf
                refine X_loop (pc := 67) (xpc := 142) (fu := fun a3 => a3.2.2) (fl := fun a3 => [(8, .int a3.2.1), (7, .int a2.2.1), (6, .int a1.2.1), (5, .int 1), (4, .int a3.1), (0, .ref (ad (154 + v0))), (1, .ref (ad (132 + v1))), (2, .ref (ad v2)), (3, .int v3)]) (fun a3 r hf hE hG H locs ls hw hl => ?_) he14 (fun H locs ls hw hl => ?_) hw hl
                · unfold gX1_search_67 at hf
                  refine lv_iload (pc := 67) C0.1 C0.2.1 dX1_search_67 (lv_at hl 0 rfl) ?_
                  refine lv_iload (pc := 69) C0.1 C0.2.1 dX1_search_69 (lv_at hl 3 rfl) ?_
                  refine lv_icmp_ge (tgt := 142) (pc := 71) C0.1 C0.2.1 dX1_search_71 (by decide) (fun hc => ?_) (fun hc => ?_)
                  · have hf := if_t hf hc
                    exact hE _ (Option.some.inj hf).symm H locs ls hw (lv_sub hl [0, 1, 2, 3, 4, 5, 6, 7, 8] rfl)
                  · have hf := if_f hf hc
                    refine lv_aload_n (pc := 74) C0.1 C0.2.1 dX1_search_74 rfl (lv_at hl 5 rfl) ?_
                    refine lv_aload_n (pc := 75) C0.1 C0.2.1 dX1_search_75 rfl (lv_at hl 6 rfl) ?_
                    refine lv_aload_n (pc := 76) C0.1 C0.2.1 dX1_search_76 rfl (lv_at hl 7 rfl) ?_
                    refine lv_iload (pc := 77) C0.1 C0.2.1 dX1_search_77 (lv_at hl 1 rfl) ?_
                    refine lv_iload (pc := 79) C0.1 C0.2.1 dX1_search_79 (lv_at hl 2 rfl) ?_
                    refine lv_iload (pc := 81) C0.1 C0.2.1 dX1_search_81 (lv_at hl 0 rfl) ?_
                    refine lv_iconst (v := 1) (pc := 83) C0.1 C0.2.1 dX1_search_83 (by decide) ?_
                    refine lv_icmp_ne (tgt := 91) (pc := 84) C0.1 C0.2.1 dX1_search_84 (by decide) (fun hc => ?_) (fun hc => ?_)
                    · have hf := if_f hf hc
                      refine lv_iconst (v := 0) (pc := 91) C0.1 C0.2.1 dX1_search_91 (by decide) ?_
                      refine lv_iload (pc := 92) C0.1 C0.2.1 dX1_search_92 (lv_at hl 4 rfl) ?_
                      obtain ⟨q15, hq15, hf⟩ := bd_e hf
                      refine x_back (pc := 94) hw (x_runV (pc := 94) (As := [.ref (ad (132 + v1)), .ref (ad v2), .int a2.2.1, .int a1.2.1, .int 0, .int a3.1]) (rest := []) C0 hK hw hl.1 ⟨Nat.zero_le _, Nat.zero_le _⟩ (kX1_holds l D y ad hI v0 hv0 v1 hv1 v2 hv2 a2.2.1 a1.2.1 0 a3.1 a3.2.2 hq15) (jy_F hv0) (ly_F hv0) rfl rfl wc_X1_holds wm_X1_98 wi_X1_holds ws_X1_holds wn_X1 ⟨rfl, rfl⟩ hd_X1_holds rfl ⟨Nat.le_of_ble_eq_true rfl, Nat.le_of_ble_eq_true rfl⟩ (Nat.le_of_ble_eq_true rfl) dX1_search_94) (fun H locs hw => ?_)
                      refine lv_if_eq (tgt := 136) (pc := 97) C0.1 C0.2.1 dX1_search_97 (by decide) (fun hc => ?_) (fun hc => ?_)
                      · have hf := if_t hf hc
                        refine lv_iinc (pc := 136) (v := a3.2.1 + 1) (lv' := [(8, .int (a3.2.1 + 1)), (7, .int a2.2.1), (6, .int a1.2.1), (5, .int 1), (4, .int a3.1), (0, .ref (ad (154 + v0))), (1, .ref (ad (132 + v1))), (2, .ref (ad v2)), (3, .int v3)]) C0.1 C0.2.1 dX1_search_136 hl (k := 0) rfl rfl (by decide) rfl (fun ls hl => ?_)
                        refine lv_goto (tgt := 67) (pc := 139) C0.1 C0.2.1 dX1_search_139 (by decide) ?_
                        exact hG _ (Option.some.inj hf).symm H locs ls hw (lv_sub hl [0, 1, 2, 3, 4, 5, 6, 7, 8] rfl)
                      · have hf := if_f hf hc
                        refine lv_aload_n (pc := 100) C0.1 C0.2.1 dX1_search_100 rfl (lv_at hl 5 rfl) ?_
                        refine lv_iload (pc := 101) C0.1 C0.2.1 dX1_search_101 (lv_at hl 1 rfl) ?_
                        refine lv_iload (pc := 103) C0.1 C0.2.1 dX1_search_103 (lv_at hl 2 rfl) ?_
                        refine lv_iload (pc := 105) C0.1 C0.2.1 dX1_search_105 (lv_at hl 0 rfl) ?_
                        refine lv_iconst (v := 1) (pc := 107) C0.1 C0.2.1 dX1_search_107 (by decide) ?_
                        refine lv_icmp_ne (tgt := 115) (pc := 108) C0.1 C0.2.1 dX1_search_108 (by decide) (fun hc => ?_) (fun hc => ?_)
                        · have hf := if_f hf hc
                          refine lv_iconst (v := 0) (pc := 115) C0.1 C0.2.1 dX1_search_115 (by decide) ?_
                          obtain ⟨q16, hq16, hf⟩ := bd_e hf
                          refine x_backv (pc := 116) hw (x_runV (pc := 116) (As := [.int a2.2.1, .int a1.2.1, .int 0]) (rest := []) C0 hK hw hl.1 ⟨Nat.zero_le _, Nat.zero_le _⟩ (kX1_keep l D y ad hI v0 hv0 a2.2.1 a1.2.1 0 q15.2 hq16) (jy_F hv0) (ly_F hv0) rfl rfl wc_X1_keep wm_X1_102 wi_X1_keep ws_X1_keep wn_X1 ⟨rfl, rfl⟩ hd_X1_keep rfl ⟨Nat.le_of_ble_eq_true rfl, Nat.le_of_ble_eq_true rfl⟩ (Nat.le_of_ble_eq_true rfl) dX1_search_116) (fun H locs hw => ?_)
                          refine lv_iload_n (pc := 119) C0.1 C0.2.1 dX1_search_119 rfl (lv_at hl 8 rfl) ?_
                          refine lv_if_eq (tgt := 132) (pc := 120) C0.1 C0.2.1 dX1_search_120 (by decide) (fun hc => ?_) (fun hc => ?_)
                          · have hf := if_t hf hc
                            refine lv_iload (pc := 132) C0.1 C0.2.1 dX1_search_132 (lv_at hl 4 rfl) ?_
                            refine lv_istore (pc := 134) (lv' := [(4, .int a3.1), (8, .int a3.2.1), (7, .int a2.2.1), (6, .int a1.2.1), (5, .int 1), (0, .ref (ad (154 + v0))), (1, .ref (ad (132 + v1))), (2, .ref (ad v2)), (3, .int v3)]) C0.1 C0.2.1 dX1_search_134 hl (by decide) rfl (fun ls hl => ?_)
                            refine lv_iinc (pc := 136) (v := a3.2.1 + 1) (lv' := [(8, .int (a3.2.1 + 1)), (4, .int a3.1), (7, .int a2.2.1), (6, .int a1.2.1), (5, .int 1), (0, .ref (ad (154 + v0))), (1, .ref (ad (132 + v1))), (2, .ref (ad v2)), (3, .int v3)]) C0.1 C0.2.1 dX1_search_136 hl (k := 1) rfl rfl (by decide) rfl (fun ls hl => ?_)
                            refine lv_goto (tgt := 67) (pc := 139) C0.1 C0.2.1 dX1_search_139 (by decide) ?_
                            exact hG _ (Option.some.inj hf).symm H locs ls hw (lv_sub hl [0, 2, 3, 4, 1, 5, 6, 7, 8] rfl)
                          · have hf := if_f hf hc
                            refine lv_aload_n (pc := 123) C0.1 C0.2.1 dX1_search_123 rfl (lv_at hl 5 rfl) ?_
                            refine x_get (pc := 124) (v := .int (q16.1 (154 + v0) 1)) C0 hK hw (jy_F hv0) (ly_F hv0) rfl inX1 1 (by decide) wf_X1_63 rfl rfl dX1_search_124 ?_
                            refine lv_iconst (v := 1) (pc := 127) C0.1 C0.2.1 dX1_search_127 (by decide) ?_
                            refine lv_isub (pc := 128) C0.1 C0.2.1 dX1_search_128 ?_
                            refine lv_goto (tgt := 134) (pc := 129) C0.1 C0.2.1 dX1_search_129 (by decide) ?_
                            refine lv_istore (pc := 134) (lv' := [(4, .int ((q16.1 (154 + v0) 1) - 1)), (8, .int a3.2.1), (7, .int a2.2.1), (6, .int a1.2.1), (5, .int 1), (0, .ref (ad (154 + v0))), (1, .ref (ad (132 + v1))), (2, .ref (ad v2)), (3, .int v3)]) C0.1 C0.2.1 dX1_search_134 hl (by decide) rfl (fun ls hl => ?_)
                            refine lv_iinc (pc := 136) (v := a3.2.1 + 1) (lv' := [(8, .int (a3.2.1 + 1)), (4, .int ((q16.1 (154 + v0) 1) - 1)), (7, .int a2.2.1), (6, .int a1.2.1), (5, .int 1), (0, .ref (ad (154 + v0))), (1, .ref (ad (132 + v1))), (2, .ref (ad v2)), (3, .int v3)]) C0.1 C0.2.1 dX1_search_136 hl (k := 1) rfl rfl (by decide) rfl (fun ls hl => ?_)
                            refine lv_goto (tgt := 67) (pc := 139) C0.1 C0.2.1 dX1_search_139 (by decide) ?_
                            exact hG _ (Option.some.inj hf).symm H locs ls hw (lv_sub hl [0, 2, 3, 4, 1, 5, 6, 7, 8] rfl)
                        · have hf := if_t hf hc
                          refine lv_iconst (v := 1) (pc := 111) C0.1 C0.2.1 dX1_search_111 (by decide) ?_
                          refine lv_goto (tgt := 116) (pc := 112) C0.1 C0.2.1 dX1_search_112 (by decide) ?_
                          obtain ⟨q17, hq17, hf⟩ := bd_e hf
                          refine x_backv (pc := 116) hw (x_runV (pc := 116) (As := [.int a2.2.1, .int a1.2.1, .int 1]) (rest := []) C0 hK hw hl.1 ⟨Nat.zero_le _, Nat.zero_le _⟩ (kX1_keep l D y ad hI v0 hv0 a2.2.1 a1.2.1 1 q15.2 hq17) (jy_F hv0) (ly_F hv0) rfl rfl wc_X1_keep wm_X1_102 wi_X1_keep ws_X1_keep wn_X1 ⟨rfl, rfl⟩ hd_X1_keep rfl ⟨Nat.le_of_ble_eq_true rfl, Nat.le_of_ble_eq_true rfl⟩ (Nat.le_of_ble_eq_true rfl) dX1_search_116) (fun H locs hw => ?_)
                          refine lv_iload_n (pc := 119) C0.1 C0.2.1 dX1_search_119 rfl (lv_at hl 8 rfl) ?_
                          refine lv_if_eq (tgt := 132) (pc := 120) C0.1 C0.2.1 dX1_search_120 (by decide) (fun hc => ?_) (fun hc => ?_)
                          · have hf := if_t hf hc
                            refine lv_iload (pc := 132) C0.1 C0.2.1 dX1_search_132 (lv_at hl 4 rfl) ?_
                            refine lv_istore (pc := 134) (lv' := [(4, .int a3.1), (8, .int a3.2.1), (7, .int a2.2.1), (6, .int a1.2.1), (5, .int 1), (0, .ref (ad (154 + v0))), (1, .ref (ad (132 + v1))), (2, .ref (ad v2)), (3, .int v3)]) C0.1 C0.2.1 dX1_search_134 hl (by decide) rfl (fun ls hl => ?_)
                            refine lv_iinc (pc := 136) (v := a3.2.1 + 1) (lv' := [(8, .int (a3.2.1 + 1)), (4, .int a3.1), (7, .int a2.2.1), (6, .int a1.2.1), (5, .int 1), (0, .ref (ad (154 + v0))), (1, .ref (ad (132 + v1))), (2, .ref (ad v2)), (3, .int v3)]) C0.1 C0.2.1 dX1_search_136 hl (k := 1) rfl rfl (by decide) rfl (fun ls hl => ?_)
                            refine lv_goto (tgt := 67) (pc := 139) C0.1 C0.2.1 dX1_search_139 (by decide) ?_
                            exact hG _ (Option.some.inj hf).symm H locs ls hw (lv_sub hl [0, 2, 3, 4, 1, 5, 6, 7, 8] rfl)
                          · have hf := if_f hf hc
                            refine lv_aload_n (pc := 123) C0.1 C0.2.1 dX1_search_123 rfl (lv_at hl 5 rfl) ?_
                            refine x_get (pc := 124) (v := .int (q17.1 (154 + v0) 1)) C0 hK hw (jy_F hv0) (ly_F hv0) rfl inX1 1 (by decide) wf_X1_63 rfl rfl dX1_search_124 ?_
                            refine lv_iconst (v := 1) (pc := 127) C0.1 C0.2.1 dX1_search_127 (by decide) ?_
                            refine lv_isub (pc := 128) C0.1 C0.2.1 dX1_search_128 ?_
                            refine lv_goto (tgt := 134) (pc := 129) C0.1 C0.2.1 dX1_search_129 (by decide) ?_
                            refine lv_istore (pc := 134) (lv' := [(4, .int ((q17.1 (154 + v0) 1) - 1)), (8, .int a3.2.1), (7, .int a2.2.1), (6, .int a1.2.1), (5, .int 1), (0, .ref (ad (154 + v0))), (1, .ref (ad (132 + v1))), (2, .ref (ad v2)), (3, .int v3)]) C0.1 C0.2.1 dX1_search_134 hl (by decide) rfl (fun ls hl => ?_)
                            refine lv_iinc (pc := 136) (v := a3.2.1 + 1) (lv' := [(8, .int (a3.2.1 + 1)), (4, .int ((q17.1 (154 + v0) 1) - 1)), (7, .int a2.2.1), (6, .int a1.2.1), (5, .int 1), (0, .ref (ad (154 + v0))), (1, .ref (ad (132 + v1))), (2, .ref (ad v2)), (3, .int v3)]) C0.1 C0.2.1 dX1_search_136 hl (k := 1) rfl rfl (by decide) rfl (fun ls hl => ?_)
                            refine lv_goto (tgt := 67) (pc := 139) C0.1 C0.2.1 dX1_search_139 (by decide) ?_
                            exact hG _ (Option.some.inj hf).symm H locs ls hw (lv_sub hl [0, 2, 3, 4, 1, 5, 6, 7, 8] rfl)
                    · have hf := if_t hf hc
                      refine lv_iconst (v := 1) (pc := 87) C0.1 C0.2.1 dX1_search_87 (by decide) ?_
                      refine lv_goto (tgt := 92) (pc := 88) C0.1 C0.2.1 dX1_search_88 (by decide) ?_
                      refine lv_iload (pc := 92) C0.1 C0.2.1 dX1_search_92 (lv_at hl 4 rfl) ?_
                      obtain ⟨q18, hq18, hf⟩ := bd_e hf
                      refine x_back (pc := 94) hw (x_runV (pc := 94) (As := [.ref (ad (132 + v1)), .ref (ad v2), .int a2.2.1, .int a1.2.1, .int 1, .int a3.1]) (rest := []) C0 hK hw hl.1 ⟨Nat.zero_le _, Nat.zero_le _⟩ (kX1_holds l D y ad hI v0 hv0 v1 hv1 v2 hv2 a2.2.1 a1.2.1 1 a3.1 a3.2.2 hq18) (jy_F hv0) (ly_F hv0) rfl rfl wc_X1_holds wm_X1_98 wi_X1_holds ws_X1_holds wn_X1 ⟨rfl, rfl⟩ hd_X1_holds rfl ⟨Nat.le_of_ble_eq_true rfl, Nat.le_of_ble_eq_true rfl⟩ (Nat.le_of_ble_eq_true rfl) dX1_search_94) (fun H locs hw => ?_)
                      refine lv_if_eq (tgt := 136) (pc := 97) C0.1 C0.2.1 dX1_search_97 (by decide) (fun hc => ?_) (fun hc => ?_)
                      · have hf := if_t hf hc
                        refine lv_iinc (pc := 136) (v := a3.2.1 + 1) (lv' := [(8, .int (a3.2.1 + 1)), (7, .int a2.2.1), (6, .int a1.2.1), (5, .int 1), (4, .int a3.1), (0, .ref (ad (154 + v0))), (1, .ref (ad (132 + v1))), (2, .ref (ad v2)), (3, .int v3)]) C0.1 C0.2.1 dX1_search_136 hl (k := 0) rfl rfl (by decide) rfl (fun ls hl => ?_)
                        refine lv_goto (tgt := 67) (pc := 139) C0.1 C0.2.1 dX1_search_139 (by decide) ?_
                        exact hG _ (Option.some.inj hf).symm H locs ls hw (lv_sub hl [0, 1, 2, 3, 4, 5, 6, 7, 8] rfl)
                      · have hf := if_f hf hc
                        refine lv_aload_n (pc := 100) C0.1 C0.2.1 dX1_search_100 rfl (lv_at hl 5 rfl) ?_
                        refine lv_iload (pc := 101) C0.1 C0.2.1 dX1_search_101 (lv_at hl 1 rfl) ?_
                        refine lv_iload (pc := 103) C0.1 C0.2.1 dX1_search_103 (lv_at hl 2 rfl) ?_
                        refine lv_iload (pc := 105) C0.1 C0.2.1 dX1_search_105 (lv_at hl 0 rfl) ?_
                        refine lv_iconst (v := 1) (pc := 107) C0.1 C0.2.1 dX1_search_107 (by decide) ?_
                        refine lv_icmp_ne (tgt := 115) (pc := 108) C0.1 C0.2.1 dX1_search_108 (by decide) (fun hc => ?_) (fun hc => ?_)
                        · have hf := if_f hf hc
                          refine lv_iconst (v := 0) (pc := 115) C0.1 C0.2.1 dX1_search_115 (by decide) ?_
                          obtain ⟨q19, hq19, hf⟩ := bd_e hf
                          refine x_backv (pc := 116) hw (x_runV (pc := 116) (As := [.int a2.2.1, .int a1.2.1, .int 0]) (rest := []) C0 hK hw hl.1 ⟨Nat.zero_le _, Nat.zero_le _⟩ (kX1_keep l D y ad hI v0 hv0 a2.2.1 a1.2.1 0 q18.2 hq19) (jy_F hv0) (ly_F hv0) rfl rfl wc_X1_keep wm_X1_102 wi_X1_keep ws_X1_keep wn_X1 ⟨rfl, rfl⟩ hd_X1_keep rfl ⟨Nat.le_of_ble_eq_true rfl, Nat.le_of_ble_eq_true rfl⟩ (Nat.le_of_ble_eq_true rfl) dX1_search_116) (fun H locs hw => ?_)
                          refine lv_iload_n (pc := 119) C0.1 C0.2.1 dX1_search_119 rfl (lv_at hl 8 rfl) ?_
                          refine lv_if_eq (tgt := 132) (pc := 120) C0.1 C0.2.1 dX1_search_120 (by decide) (fun hc => ?_) (fun hc => ?_)
                          · have hf := if_t hf hc
                            refine lv_iload (pc := 132) C0.1 C0.2.1 dX1_search_132 (lv_at hl 4 rfl) ?_
                            refine lv_istore (pc := 134) (lv' := [(4, .int a3.1), (8, .int a3.2.1), (7, .int a2.2.1), (6, .int a1.2.1), (5, .int 1), (0, .ref (ad (154 + v0))), (1, .ref (ad (132 + v1))), (2, .ref (ad v2)), (3, .int v3)]) C0.1 C0.2.1 dX1_search_134 hl (by decide) rfl (fun ls hl => ?_)
                            refine lv_iinc (pc := 136) (v := a3.2.1 + 1) (lv' := [(8, .int (a3.2.1 + 1)), (4, .int a3.1), (7, .int a2.2.1), (6, .int a1.2.1), (5, .int 1), (0, .ref (ad (154 + v0))), (1, .ref (ad (132 + v1))), (2, .ref (ad v2)), (3, .int v3)]) C0.1 C0.2.1 dX1_search_136 hl (k := 1) rfl rfl (by decide) rfl (fun ls hl => ?_)
                            refine lv_goto (tgt := 67) (pc := 139) C0.1 C0.2.1 dX1_search_139 (by decide) ?_
                            exact hG _ (Option.some.inj hf).symm H locs ls hw (lv_sub hl [0, 2, 3, 4, 1, 5, 6, 7, 8] rfl)
                          · have hf := if_f hf hc
                            refine lv_aload_n (pc := 123) C0.1 C0.2.1 dX1_search_123 rfl (lv_at hl 5 rfl) ?_
                            refine x_get (pc := 124) (v := .int (q19.1 (154 + v0) 1)) C0 hK hw (jy_F hv0) (ly_F hv0) rfl inX1 1 (by decide) wf_X1_63 rfl rfl dX1_search_124 ?_
                            refine lv_iconst (v := 1) (pc := 127) C0.1 C0.2.1 dX1_search_127 (by decide) ?_
                            refine lv_isub (pc := 128) C0.1 C0.2.1 dX1_search_128 ?_
                            refine lv_goto (tgt := 134) (pc := 129) C0.1 C0.2.1 dX1_search_129 (by decide) ?_
                            refine lv_istore (pc := 134) (lv' := [(4, .int ((q19.1 (154 + v0) 1) - 1)), (8, .int a3.2.1), (7, .int a2.2.1), (6, .int a1.2.1), (5, .int 1), (0, .ref (ad (154 + v0))), (1, .ref (ad (132 + v1))), (2, .ref (ad v2)), (3, .int v3)]) C0.1 C0.2.1 dX1_search_134 hl (by decide) rfl (fun ls hl => ?_)
                            refine lv_iinc (pc := 136) (v := a3.2.1 + 1) (lv' := [(8, .int (a3.2.1 + 1)), (4, .int ((q19.1 (154 + v0) 1) - 1)), (7, .int a2.2.1), (6, .int a1.2.1), (5, .int 1), (0, .ref (ad (154 + v0))), (1, .ref (ad (132 + v1))), (2, .ref (ad v2)), (3, .int v3)]) C0.1 C0.2.1 dX1_search_136 hl (k := 1) rfl rfl (by decide) rfl (fun ls hl => ?_)
                            refine lv_goto (tgt := 67) (pc := 139) C0.1 C0.2.1 dX1_search_139 (by decide) ?_
                            exact hG _ (Option.some.inj hf).symm H locs ls hw (lv_sub hl [0, 2, 3, 4, 1, 5, 6, 7, 8] rfl)
                        · have hf := if_t hf hc
                          refine lv_iconst (v := 1) (pc := 111) C0.1 C0.2.1 dX1_search_111 (by decide) ?_
                          refine lv_goto (tgt := 116) (pc := 112) C0.1 C0.2.1 dX1_search_112 (by decide) ?_
                          obtain ⟨q20, hq20, hf⟩ := bd_e hf
                          refine x_backv (pc := 116) hw (x_runV (pc := 116) (As := [.int a2.2.1, .int a1.2.1, .int 1]) (rest := []) C0 hK hw hl.1 ⟨Nat.zero_le _, Nat.zero_le _⟩ (kX1_keep l D y ad hI v0 hv0 a2.2.1 a1.2.1 1 q18.2 hq20) (jy_F hv0) (ly_F hv0) rfl rfl wc_X1_keep wm_X1_102 wi_X1_keep ws_X1_keep wn_X1 ⟨rfl, rfl⟩ hd_X1_keep rfl ⟨Nat.le_of_ble_eq_true rfl, Nat.le_of_ble_eq_true rfl⟩ (Nat.le_of_ble_eq_true rfl) dX1_search_116) (fun H locs hw => ?_)
                          refine lv_iload_n (pc := 119) C0.1 C0.2.1 dX1_search_119 rfl (lv_at hl 8 rfl) ?_
                          refine lv_if_eq (tgt := 132) (pc := 120) C0.1 C0.2.1 dX1_search_120 (by decide) (fun hc => ?_) (fun hc => ?_)
                          · have hf := if_t hf hc
                            refine lv_iload (pc := 132) C0.1 C0.2.1 dX1_search_132 (lv_at hl 4 rfl) ?_
                            refine lv_istore (pc := 134) (lv' := [(4, .int a3.1), (8, .int a3.2.1), (7, .int a2.2.1), (6, .int a1.2.1), (5, .int 1), (0, .ref (ad (154 + v0))), (1, .ref (ad (132 + v1))), (2, .ref (ad v2)), (3, .int v3)]) C0.1 C0.2.1 dX1_search_134 hl (by decide) rfl (fun ls hl => ?_)
                            refine lv_iinc (pc := 136) (v := a3.2.1 + 1) (lv' := [(8, .int (a3.2.1 + 1)), (4, .int a3.1), (7, .int a2.2.1), (6, .int a1.2.1), (5, .int 1), (0, .ref (ad (154 + v0))), (1, .ref (ad (132 + v1))), (2, .ref (ad v2)), (3, .int v3)]) C0.1 C0.2.1 dX1_search_136 hl (k := 1) rfl rfl (by decide) rfl (fun ls hl => ?_)
                            refine lv_goto (tgt := 67) (pc := 139) C0.1 C0.2.1 dX1_search_139 (by decide) ?_
                            exact hG _ (Option.some.inj hf).symm H locs ls hw (lv_sub hl [0, 2, 3, 4, 1, 5, 6, 7, 8] rfl)
                          · have hf := if_f hf hc
                            refine lv_aload_n (pc := 123) C0.1 C0.2.1 dX1_search_123 rfl (lv_at hl 5 rfl) ?_
                            refine x_get (pc := 124) (v := .int (q20.1 (154 + v0) 1)) C0 hK hw (jy_F hv0) (ly_F hv0) rfl inX1 1 (by decide) wf_X1_63 rfl rfl dX1_search_124 ?_
                            refine lv_iconst (v := 1) (pc := 127) C0.1 C0.2.1 dX1_search_127 (by decide) ?_
                            refine lv_isub (pc := 128) C0.1 C0.2.1 dX1_search_128 ?_
                            refine lv_goto (tgt := 134) (pc := 129) C0.1 C0.2.1 dX1_search_129 (by decide) ?_
                            refine lv_istore (pc := 134) (lv' := [(4, .int ((q20.1 (154 + v0) 1) - 1)), (8, .int a3.2.1), (7, .int a2.2.1), (6, .int a1.2.1), (5, .int 1), (0, .ref (ad (154 + v0))), (1, .ref (ad (132 + v1))), (2, .ref (ad v2)), (3, .int v3)]) C0.1 C0.2.1 dX1_search_134 hl (by decide) rfl (fun ls hl => ?_)
                            refine lv_iinc (pc := 136) (v := a3.2.1 + 1) (lv' := [(8, .int (a3.2.1 + 1)), (4, .int ((q20.1 (154 + v0) 1) - 1)), (7, .int a2.2.1), (6, .int a1.2.1), (5, .int 1), (0, .ref (ad (154 + v0))), (1, .ref (ad (132 + v1))), (2, .ref (ad v2)), (3, .int v3)]) C0.1 C0.2.1 dX1_search_136 hl (k := 1) rfl rfl (by decide) rfl (fun ls hl => ?_)
                            refine lv_goto (tgt := 67) (pc := 139) C0.1 C0.2.1 dX1_search_139 (by decide) ?_
                            exact hG _ (Option.some.inj hf).symm H locs ls hw (lv_sub hl [0, 2, 3, 4, 1, 5, 6, 7, 8] rfl)
                · skip
                  refine lv_iinc (pc := 142) (v := a2.2.1 + 1) (lv' := [(7, .int (a2.2.1 + 1)), (8, .int e14.2.1), (6, .int a1.2.1), (5, .int 1), (4, .int e14.1), (0, .ref (ad (154 + v0))), (1, .ref (ad (132 + v1))), (2, .ref (ad v2)), (3, .int v3)]) C0.1 C0.2.1 dX1_search_142 hl (k := 1) rfl rfl (by decide) rfl (fun ls hl => ?_)
                  refine lv_goto (tgt := 50) (pc := 145) C0.1 C0.2.1 dX1_search_145 (by decide) ?_
                  exact hG _ (Option.some.inj hf).symm H locs ls hw (lv_sub hl [0, 2, 3, 4, 5, 6, 7, 8] rfl)
          · skip
            refine lv_iinc (pc := 148) (v := a1.2.1 + 1) (lv' := [(6, .int (a1.2.1 + 1)), (7, .int e13.2.1), (5, .int 1), (4, .int e13.1), (0, .ref (ad (154 + v0))), (1, .ref (ad (132 + v1))), (2, .ref (ad v2)), (3, .int v3)]) C0.1 C0.2.1 dX1_search_148 hl (k := 1) rfl rfl (by decide) rfl (fun ls hl => ?_)
            refine lv_goto (tgt := 33) (pc := 151) C0.1 C0.2.1 dX1_search_151 (by decide) ?_
            exact hG _ (Option.some.inj hf).symm H locs ls hw (lv_sub hl [0, 2, 3, 4, 5, 6, 7] rfl)
    · skip
      exact x_vret (pc := 154) C0 hK hk hr hw (Option.some.inj hf) dX1_search_154
