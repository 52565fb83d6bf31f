def wX3_isBefore : List Cond := .code yX3_isBefore cX3_isBefore 2 (some .boolean) :: lwT
def rX3_isBefore : Room := { frames := 1, cells := 0, slots := 0, locals := 20 }
set_option maxRecDepth 100000 in
set_option maxHeartbeats 4000000 in
theorem kX3_isBefore (l : Launch) (D : va_G) (y : Nat → ClassId) (ad : Nat → Nat) (hI : XI ad 168) (v0 : Nat) (hv0 : v0 < 132) (v1 : Nat) (hv1 : v1 < 132) (u : S) {o : Int32} (hf : fX3_isBefore v0 v1 u = some o) : Met l yX3_isBefore wX3_isBefore rX3_isBefore (va_Pc [.ref (ad v0), .ref (ad v1)] (XW D y ad LX 168 u)) (XQi D y ad LX 168 (o, u)) 0 0 (XA ad 168) := by
  refine x_met (bytes := cX3_isBefore) (maxL := 2) (ret := (some .boolean)) (own := RX3) (by decide) rfl rfl (Nat.le_of_ble_eq_true rfl) (fun p e s m below meth c ls C0 hK hk hr hw hl => ?_)
  have hl : lv_has ls 2 [(0, .ref (ad v0)), (1, .ref (ad v1))] := hl
  unfold fX3_isBefore at hf
  refine lv_aload_n (pc := 0) C0.1 C0.2.1 dX3_isBefore_0 rfl (lv_at hl 0 rfl) ?_
  refine x_get (pc := 1) (v := .int (u.1 v0 3)) C0 hK hw (jy_T hv0) (ly_T hv0) rfl inX5 3 (by decide) wf_X3_62 rfl rfl dX3_isBefore_1 ?_
  refine lv_aload_n (pc := 4) C0.1 C0.2.1 dX3_isBefore_4 rfl (lv_at hl 1 rfl) ?_
  refine x_get (pc := 5) (v := .int (u.1 v1 3)) C0 hK hw (jy_T hv1) (ly_T hv1) rfl inX5 3 (by decide) wf_X3_62 rfl rfl dX3_isBefore_5 ?_
  refine lv_icmp_gt (tgt := 33) (pc := 8) C0.1 C0.2.1 dX3_isBefore_8 (by decide) (fun hc => ?_) (fun hc => ?_)
  · have hf := if_t hf hc
    refine lv_iconst (v := 1) (pc := 33) C0.1 C0.2.1 dX3_isBefore_33 (by decide) ?_
    refine lv_goto (tgt := 38) (pc := 34) C0.1 C0.2.1 dX3_isBefore_34 (by decide) ?_
    exact x_zret (pc := 38) C0 hK hk hr hw rfl (congrArg (fun z => (z, u)) (Option.some.inj hf)) dX3_isBefore_38
  · have hf := if_f hf hc
    refine lv_aload_n (pc := 11) C0.1 C0.2.1 dX3_isBefore_11 rfl (lv_at hl 0 rfl) ?_
    refine x_get (pc := 12) (v := .int (u.1 v0 3)) C0 hK hw (jy_T hv0) (ly_T hv0) rfl inX5 3 (by decide) wf_X3_62 rfl rfl dX3_isBefore_12 ?_
    refine lv_aload_n (pc := 15) C0.1 C0.2.1 dX3_isBefore_15 rfl (lv_at hl 1 rfl) ?_
    refine x_get (pc := 16) (v := .int (u.1 v1 3)) C0 hK hw (jy_T hv1) (ly_T hv1) rfl inX5 3 (by decide) wf_X3_62 rfl rfl dX3_isBefore_16 ?_
    refine lv_icmp_ne (tgt := 37) (pc := 19) C0.1 C0.2.1 dX3_isBefore_19 (by decide) (fun hc => ?_) (fun hc => ?_)
    · have hf := if_f hf hc
      refine lv_iconst (v := 0) (pc := 37) C0.1 C0.2.1 dX3_isBefore_37 (by decide) ?_
      exact x_zret (pc := 38) C0 hK hk hr hw rfl (congrArg (fun z => (z, u)) (Option.some.inj hf)) dX3_isBefore_38
    · have hf := if_t hf hc
      refine lv_aload_n (pc := 22) C0.1 C0.2.1 dX3_isBefore_22 rfl (lv_at hl 0 rfl) ?_
      obtain ⟨q1, hq1, hf⟩ := bd_e hf
      refine x_backp (pc := 23) hw (x_runV (pc := 23) (As := []) (rest := []) C0 hK hw hl.1 ⟨Nat.zero_le _, Nat.zero_le _⟩ (kX5_area l D y ad hI v0 hv0 u hq1) (jy_T hv0) (ly_T hv0) rfl rfl wc_X5_area wm_X3_67 wi_X5_area ws_X5_area wn_X5 ⟨rfl, rfl⟩ hd_X5_area rfl ⟨Nat.le_of_ble_eq_true rfl, Nat.le_of_ble_eq_true rfl⟩ (Nat.le_of_ble_eq_true rfl) dX3_isBefore_23) (fun H locs hw => ?_)
      refine lv_aload_n (pc := 26) C0.1 C0.2.1 dX3_isBefore_26 rfl (lv_at hl 1 rfl) ?_
      obtain ⟨q2, hq2, hf⟩ := bd_e hf
      refine x_backp (pc := 27) hw (x_runV (pc := 27) (As := []) (rest := [.int q1]) C0 hK hw hl.1 ⟨Nat.zero_le _, Nat.zero_le _⟩ (kX5_area l D y ad hI v1 hv1 u hq2) (jy_T hv1) (ly_T hv1) rfl rfl wc_X5_area wm_X3_67 wi_X5_area ws_X5_area wn_X5 ⟨rfl, rfl⟩ hd_X5_area rfl ⟨Nat.le_of_ble_eq_true rfl, Nat.le_of_ble_eq_true rfl⟩ (Nat.le_of_ble_eq_true rfl) dX3_isBefore_27) (fun H locs hw => ?_)
      refine lv_icmp_le (tgt := 37) (pc := 30) C0.1 C0.2.1 dX3_isBefore_30 (by decide) (fun hc => ?_) (fun hc => ?_)
      · have hf := if_t hf hc
        refine lv_iconst (v := 0) (pc := 37) C0.1 C0.2.1 dX3_isBefore_37 (by decide) ?_
        exact x_zret (pc := 38) C0 hK hk hr hw rfl (congrArg (fun z => (z, u)) (Option.some.inj hf)) dX3_isBefore_38
      · have hf := if_f hf hc
        refine lv_iconst (v := 1) (pc := 33) C0.1 C0.2.1 dX3_isBefore_33 (by decide) ?_
        refine lv_goto (tgt := 38) (pc := 34) C0.1 C0.2.1 dX3_isBefore_34 (by decide) ?_
        exact x_zret (pc := 38) C0 hK hk hr hw rfl (congrArg (fun z => (z, u)) (Option.some.inj hf)) dX3_isBefore_38
def wX3_letDownFrom : List Cond := .code yX3_letDownFrom cX3_letDownFrom 5 none :: lwT
def rX3_letDownFrom : Room := { frames := 4, cells := 0, slots := 0, locals := 104 }
set_option maxRecDepth 100000 in
set_option maxHeartbeats 4000000 in
theorem kX3_letDownFrom (l : Launch) (D : va_G) (y : Nat → ClassId) (ad : Nat → Nat) (hI : XI ad 168) (v1 : Nat) (hv1 : v1 < 4) (v2 : Int32) (u : S) {o : S} (hf : fX3_letDownFrom v1 v2 u = some o) : Met l yX3_letDownFrom wX3_letDownFrom rX3_letDownFrom (va_Pc [.ref (ad 162), .ref (ad (163 + v1)), .int v2] (XW D y ad LX 168 u)) (XQv D y ad LX 168 o) 0 0 (XA ad 168) := by
  refine x_met (bytes := cX3_letDownFrom) (maxL := 5) (ret := none) (own := RX3) (by decide) rfl rfl (Nat.le_of_ble_eq_true rfl) (fun p e s m below meth c ls C0 hK hk hr hw hl => ?_)
  have hl : lv_has ls 5 [(0, .ref (ad 162)), (1, .ref (ad (163 + v1))), (2, .int v2)] := hl
  unfold fX3_letDownFrom at hf
  refine lv_iload_n (pc := 0) C0.1 C0.2.1 dX3_letDownFrom_0 rfl (lv_at hl 2 rfl) ?_
  refine lv_istore_n (pc := 1) (lv' := [(3, .int v2), (0, .ref (ad 162)), (1, .ref (ad (163 + v1))), (2, .int v2)]) C0.1 C0.2.1 dX3_letDownFrom_1 rfl hl (by decide) rfl (fun ls hl => ?_)
  obtain ⟨e1, he1, hf⟩ := bd_e hf
  refine X_loop (pc := 2) (xpc := 33) (fu := fun a1 => a1.2) (fl := fun a1 => [(3, .int a1.1), (0, .ref (ad 162)), (1, .ref (ad (163 + v1))), (2, .int v2)]) (fun a1 r hf hE hG H locs ls hw hl => ?_) he1 (fun H locs ls hw hl => ?_) hw hl
  · unfold gX3_letDownFrom_2 at hf
    refine lv_iload_n (pc := 2) C0.1 C0.2.1 dX3_letDownFrom_2 rfl (lv_at hl 0 rfl) ?_
    refine lv_aload_n (pc := 3) C0.1 C0.2.1 dX3_letDownFrom_3 rfl (lv_at hl 1 rfl) ?_
    refine x_get (pc := 4) (v := .ref (ad (132 + 9))) C0 hK hw (by decide) ly_P rfl inX3 2 (by decide) wf_X3_21 rfl rfl dX3_letDownFrom_4 ?_
    refine x_get (pc := 7) (v := .int (a1.2.1 (132 + 9) 4)) C0 hK hw (jy_B (by decide)) (ly_B (by decide)) rfl inX0 4 (by decide) wf_X3_42 rfl rfl dX3_letDownFrom_7 ?_
    refine lv_icmp_ge (tgt := 33) (pc := 10) C0.1 C0.2.1 dX3_letDownFrom_10 (by decide) (fun hc => ?_) (fun hc => ?_)
    · have hf := if_t hf hc
      exact hE _ (Option.some.inj hf).symm H locs ls hw (lv_sub hl [0, 1, 2, 3] rfl)
    · have hf := if_f hf hc
      refine lv_aload_n (pc := 13) C0.1 C0.2.1 dX3_letDownFrom_13 rfl (lv_at hl 1 rfl) ?_
      refine x_get (pc := 14) (v := .ref (ad (132 + 9))) C0 hK hw (by decide) ly_P rfl inX3 2 (by decide) wf_X3_21 rfl rfl dX3_letDownFrom_14 ?_
      refine x_get (pc := 17) (v := .ref (ad (143 + 9))) C0 hK hw (jy_B (by decide)) (ly_B (by decide)) rfl inX0 5 (by decide) wf_X3_46 rfl rfl dX3_letDownFrom_17 ?_
      refine lv_aload_n (pc := 20) C0.1 C0.2.1 dX3_letDownFrom_20 rfl (lv_at hl 2 rfl) ?_
      refine lv_iload_n (pc := 21) C0.1 C0.2.1 dX3_letDownFrom_21 rfl (lv_at hl 0 rfl) ?_
      obtain ⟨hi, hf⟩ := gd_e hf
      refine x_iald (pc := 22) C0 hK hw (jy_O hv1) (ly_O hv1) hi dX3_letDownFrom_22 ?_
      obtain ⟨hi, hf⟩ := gd_e hf
      have hT2 : 12 * 9 + (a1.2.1 (163 + v1) a1.1.toNatClampNeg).toNatClampNeg < 132 := tb (by decide) (inb_lt hi)
      refine x_aldT (pc := 23) (t := 12 * 9 + (a1.2.1 (163 + v1) a1.1.toNatClampNeg).toNatClampNeg) C0 hK hw (jy_R (by decide)) (ly_R (by decide)) hi rfl dX3_letDownFrom_23 ?_
      obtain ⟨q3, hq3, hf⟩ := bd_e hf
      refine x_backv (pc := 24) hw (x_runV (pc := 24) (As := []) (rest := []) C0 hK hw hl.1 ⟨Nat.zero_le _, Nat.zero_le _⟩ (kX5_leave l D y ad hI (12 * 9 + (a1.2.1 (163 + v1) a1.1.toNatClampNeg).toNatClampNeg) hT2 a1.2 hq3) (jy_T hT2) (ly_T hT2) rfl rfl wc_X5_leave wm_X3_84 wi_X5_leave ws_X5_leave wn_X5 ⟨rfl, rfl⟩ hd_X5_leave rfl ⟨Nat.le_of_ble_eq_true rfl, Nat.le_of_ble_eq_true rfl⟩ (Nat.le_of_ble_eq_true rfl) dX3_letDownFrom_24) (fun H locs hw => ?_)
      refine lv_iinc (pc := 27) (v := a1.1 + 1) (lv' := [(3, .int (a1.1 + 1)), (0, .ref (ad 162)), (1, .ref (ad (163 + v1))), (2, .int v2)]) C0.1 C0.2.1 dX3_letDownFrom_27 hl (k := 0) rfl rfl (by decide) rfl (fun ls hl => ?_)
      refine lv_goto (tgt := 2) (pc := 30) C0.1 C0.2.1 dX3_letDownFrom_30 (by decide) ?_
      exact hG _ (Option.some.inj hf).symm H locs ls hw (lv_sub hl [0, 1, 2, 3] rfl)
  · skip
    refine lv_aload_n (pc := 33) C0.1 C0.2.1 dX3_letDownFrom_33 rfl (lv_at hl 1 rfl) ?_
    refine x_get (pc := 34) (v := .ref (ad (154 + 1))) C0 hK hw (by decide) ly_P rfl inX3 5 (by decide) wf_X3_34 rfl rfl dX3_letDownFrom_34 ?_
    refine lv_aload_n (pc := 37) C0.1 C0.2.1 dX3_letDownFrom_37 rfl (lv_at hl 1 rfl) ?_
    refine x_get (pc := 38) (v := .ref (ad (132 + 9))) C0 hK hw (by decide) ly_P rfl inX3 2 (by decide) wf_X3_21 rfl rfl dX3_letDownFrom_38 ?_
    obtain ⟨q4, hq4, hf⟩ := bd_e hf
    refine x_backv (pc := 41) hw (x_runV (pc := 41) (As := [.ref (ad (132 + 9))]) (rest := []) C0 hK hw hl.1 ⟨Nat.zero_le _, Nat.zero_le _⟩ (kX1_survey l D y ad hI 1 (by decide) 9 (by decide) e1.2 hq4) (jy_F (by decide)) (ly_F (by decide)) rfl rfl wc_X1_survey wm_X3_87 wi_X1_survey ws_X1_survey wn_X1 ⟨rfl, rfl⟩ hd_X1_survey rfl ⟨Nat.le_of_ble_eq_true rfl, Nat.le_of_ble_eq_true rfl⟩ (Nat.le_of_ble_eq_true rfl) dX3_letDownFrom_41) (fun H locs hw => ?_)
    refine lv_iload_n (pc := 44) C0.1 C0.2.1 dX3_letDownFrom_44 rfl (lv_at hl 3 rfl) ?_
    refine lv_istore_n (pc := 45) (lv' := [(3, .int v2), (0, .ref (ad 162)), (1, .ref (ad (163 + v1))), (2, .int v2)]) C0.1 C0.2.1 dX3_letDownFrom_45 rfl hl (by decide) rfl (fun ls hl => ?_)
    obtain ⟨e5, he5, hf⟩ := bd_e hf
    refine X_loop (pc := 46) (xpc := 153) (fu := fun a1 => a1.2) (fl := fun a1 => [(3, .int a1.1), (0, .ref (ad 162)), (1, .ref (ad (163 + v1))), (2, .int v2)]) (fun a1 r hf hE hG H locs ls hw hl => ?_) he5 (fun H locs ls hw hl => ?_) hw hl
    · unfold gX3_letDownFrom_46 at hf
      refine lv_iload_n (pc := 46) C0.1 C0.2.1 dX3_letDownFrom_46 rfl (lv_at hl 0 rfl) ?_
      refine lv_aload_n (pc := 47) C0.1 C0.2.1 dX3_letDownFrom_47 rfl (lv_at hl 1 rfl) ?_
      refine x_get (pc := 48) (v := .ref (ad (132 + 9))) C0 hK hw (by decide) ly_P rfl inX3 2 (by decide) wf_X3_21 rfl rfl dX3_letDownFrom_48 ?_
      refine x_get (pc := 51) (v := .int (a1.2.1 (132 + 9) 4)) C0 hK hw (jy_B (by decide)) (ly_B (by decide)) rfl inX0 4 (by decide) wf_X3_42 rfl rfl dX3_letDownFrom_51 ?_
      refine lv_icmp_ge (tgt := 153) (pc := 54) C0.1 C0.2.1 dX3_letDownFrom_54 (by decide) (fun hc => ?_) (fun hc => ?_)
      · have hf := if_t hf hc
        exact hE _ (Option.some.inj hf).symm H locs ls hw (lv_sub hl [0, 1, 2, 3] rfl)
      · have hf := if_f hf hc
        refine lv_aload_n (pc := 57) C0.1 C0.2.1 dX3_letDownFrom_57 rfl (lv_at hl 1 rfl) ?_
        refine x_get (pc := 58) (v := .ref (ad (132 + 9))) C0 hK hw (by decide) ly_P rfl inX3 2 (by decide) wf_X3_21 rfl rfl dX3_letDownFrom_58 ?_
        refine x_get (pc := 61) (v := .ref (ad (143 + 9))) C0 hK hw (jy_B (by decide)) (ly_B (by decide)) rfl inX0 5 (by decide) wf_X3_46 rfl rfl dX3_letDownFrom_61 ?_
        refine lv_aload_n (pc := 64) C0.1 C0.2.1 dX3_letDownFrom_64 rfl (lv_at hl 2 rfl) ?_
        refine lv_iload_n (pc := 65) C0.1 C0.2.1 dX3_letDownFrom_65 rfl (lv_at hl 0 rfl) ?_
        obtain ⟨hi, hf⟩ := gd_e hf
        refine x_iald (pc := 66) C0 hK hw (jy_O hv1) (ly_O hv1) hi dX3_letDownFrom_66 ?_
        obtain ⟨hi, hf⟩ := gd_e hf
        have hT6 : 12 * 9 + (a1.2.1 (163 + v1) a1.1.toNatClampNeg).toNatClampNeg < 132 := tb (by decide) (inb_lt hi)
        refine x_aldT (pc := 67) (t := 12 * 9 + (a1.2.1 (163 + v1) a1.1.toNatClampNeg).toNatClampNeg) C0 hK hw (jy_R (by decide)) (ly_R (by decide)) hi rfl dX3_letDownFrom_67 ?_
        refine lv_astore (pc := 68) (lv' := [(4, .ref (ad (12 * 9 + (a1.2.1 (163 + v1) a1.1.toNatClampNeg).toNatClampNeg))), (3, .int a1.1), (0, .ref (ad 162)), (1, .ref (ad (163 + v1))), (2, .int v2)]) C0.1 C0.2.1 dX3_letDownFrom_68 hl (by decide) rfl (fun ls hl => ?_)
        refine lv_aload_n (pc := 70) C0.1 C0.2.1 dX3_letDownFrom_70 rfl (lv_at hl 2 rfl) ?_
        refine x_get (pc := 71) (v := .ref (ad (154 + 1))) C0 hK hw (by decide) ly_P rfl inX3 5 (by decide) wf_X3_34 rfl rfl dX3_letDownFrom_71 ?_
        refine lv_aload_n (pc := 74) C0.1 C0.2.1 dX3_letDownFrom_74 rfl (lv_at hl 2 rfl) ?_
        refine x_get (pc := 75) (v := .ref (ad (132 + 9))) C0 hK hw (by decide) ly_P rfl inX3 2 (by decide) wf_X3_21 rfl rfl dX3_letDownFrom_75 ?_
        refine lv_aload (pc := 78) C0.1 C0.2.1 dX3_letDownFrom_78 (lv_at hl 0 rfl) ?_
        refine lv_iconst (v := 1) (pc := 80) C0.1 C0.2.1 dX3_letDownFrom_80 (by decide) ?_
        obtain ⟨q7, hq7, hf⟩ := bd_e hf
        refine x_backv (pc := 81) hw (x_runV (pc := 81) (As := [.ref (ad (132 + 9)), .ref (ad (12 * 9 + (a1.2.1 (163 + v1) a1.1.toNatClampNeg).toNatClampNeg)), .int 1]) (rest := []) C0 hK hw hl.1 ⟨Nat.zero_le _, Nat.zero_le _⟩ (kX1_search l D y ad hI 1 (by decide) 9 (by decide) (12 * 9 + (a1.2.1 (163 + v1) a1.1.toNatClampNeg).toNatClampNeg) hT6 1 a1.2 hq7) (jy_F (by decide)) (ly_F (by decide)) rfl rfl wc_X1_search wm_X3_90 wi_X1_search ws_X1_search wn_X1 ⟨rfl, rfl⟩ hd_X1_search rfl ⟨Nat.le_of_ble_eq_true rfl, Nat.le_of_ble_eq_true rfl⟩ (Nat.le_of_ble_eq_true rfl) dX3_letDownFrom_81) (fun H locs hw => ?_)
        refine lv_aload_n (pc := 84) C0.1 C0.2.1 dX3_letDownFrom_84 rfl (lv_at hl 2 rfl) ?_
        refine x_get (pc := 85) (v := .ref (ad (154 + 1))) C0 hK hw (by decide) ly_P rfl inX3 5 (by decide) wf_X3_34 rfl rfl dX3_letDownFrom_85 ?_
        refine x_get (pc := 88) (v := .int (q7.1 (154 + 1) 3)) C0 hK hw (jy_F (by decide)) (ly_F (by decide)) rfl inX1 3 (by decide) wf_X3_94 rfl rfl dX3_letDownFrom_88 ?_
        refine lv_if_le (tgt := 147) (pc := 91) C0.1 C0.2.1 dX3_letDownFrom_91 (by decide) (fun hc => ?_) (fun hc => ?_)
        · have hf := if_t hf hc
          refine lv_iinc (pc := 147) (v := a1.1 + 1) (lv' := [(3, .int (a1.1 + 1)), (4, .ref (ad (12 * 9 + (a1.2.1 (163 + v1) a1.1.toNatClampNeg).toNatClampNeg))), (0, .ref (ad 162)), (1, .ref (ad (163 + v1))), (2, .int v2)]) C0.1 C0.2.1 dX3_letDownFrom_147 hl (k := 1) rfl rfl (by decide) rfl (fun ls hl => ?_)
          refine lv_goto (tgt := 46) (pc := 150) C0.1 C0.2.1 dX3_letDownFrom_150 (by decide) ?_
          exact hG _ (Option.some.inj hf).symm H locs ls hw (lv_sub hl [0, 2, 3, 4] rfl)
        · have hf := if_f hf hc
          refine lv_aload (pc := 94) C0.1 C0.2.1 dX3_letDownFrom_94 (lv_at hl 0 rfl) ?_
          refine lv_aload_n (pc := 96) C0.1 C0.2.1 dX3_letDownFrom_96 rfl (lv_at hl 2 rfl) ?_
          refine x_get (pc := 97) (v := .ref (ad (154 + 1))) C0 hK hw (by decide) ly_P rfl inX3 5 (by decide) wf_X3_34 rfl rfl dX3_letDownFrom_97 ?_
          refine x_get (pc := 100) (v := .int (q7.1 (154 + 1) 4)) C0 hK hw (jy_F (by decide)) (ly_F (by decide)) rfl inX1 4 (by decide) wf_X3_97 rfl rfl dX3_letDownFrom_100 ?_
          refine lv_aload_n (pc := 103) C0.1 C0.2.1 dX3_letDownFrom_103 rfl (lv_at hl 2 rfl) ?_
          refine x_get (pc := 104) (v := .ref (ad (154 + 1))) C0 hK hw (by decide) ly_P rfl inX3 5 (by decide) wf_X3_34 rfl rfl dX3_letDownFrom_104 ?_
          refine x_get (pc := 107) (v := .int (q7.1 (154 + 1) 5)) C0 hK hw (jy_F (by decide)) (ly_F (by decide)) rfl inX1 5 (by decide) wf_X3_100 rfl rfl dX3_letDownFrom_107 ?_
          refine lv_aload_n (pc := 110) C0.1 C0.2.1 dX3_letDownFrom_110 rfl (lv_at hl 2 rfl) ?_
          refine x_get (pc := 111) (v := .ref (ad (154 + 1))) C0 hK hw (by decide) ly_P rfl inX3 5 (by decide) wf_X3_34 rfl rfl dX3_letDownFrom_111 ?_
          refine x_get (pc := 114) (v := .int (q7.1 (154 + 1) 6)) C0 hK hw (jy_F (by decide)) (ly_F (by decide)) rfl inX1 6 (by decide) wf_X3_103 rfl rfl dX3_letDownFrom_114 ?_
          refine lv_aload_n (pc := 117) C0.1 C0.2.1 dX3_letDownFrom_117 rfl (lv_at hl 2 rfl) ?_
          refine x_get (pc := 118) (v := .ref (ad (154 + 1))) C0 hK hw (by decide) ly_P rfl inX3 5 (by decide) wf_X3_34 rfl rfl dX3_letDownFrom_118 ?_
          refine x_get (pc := 121) (v := .int (q7.1 (154 + 1) 7)) C0 hK hw (jy_F (by decide)) (ly_F (by decide)) rfl inX1 7 (by decide) wf_X3_107 rfl rfl dX3_letDownFrom_121 ?_
          refine lv_aload_n (pc := 124) C0.1 C0.2.1 dX3_letDownFrom_124 rfl (lv_at hl 2 rfl) ?_
          refine x_get (pc := 125) (v := .ref (ad (154 + 1))) C0 hK hw (by decide) ly_P rfl inX3 5 (by decide) wf_X3_34 rfl rfl dX3_letDownFrom_125 ?_
          refine x_get (pc := 128) (v := .int (q7.1 (154 + 1) 8)) C0 hK hw (jy_F (by decide)) (ly_F (by decide)) rfl inX1 8 (by decide) wf_X3_110 rfl rfl dX3_letDownFrom_128 ?_
          obtain ⟨q8, hq8, hf⟩ := bd_e hf
          refine x_backv (pc := 131) hw (x_runV (pc := 131) (As := [.int (q7.1 (154 + 1) 4), .int (q7.1 (154 + 1) 5), .int (q7.1 (154 + 1) 6), .int (q7.1 (154 + 1) 7), .int (q7.1 (154 + 1) 8)]) (rest := []) C0 hK hw hl.1 ⟨Nat.zero_le _, Nat.zero_le _⟩ (kX5_lie l D y ad hI (12 * 9 + (a1.2.1 (163 + v1) a1.1.toNatClampNeg).toNatClampNeg) hT6 (q7.1 (154 + 1) 4) (q7.1 (154 + 1) 5) (q7.1 (154 + 1) 6) (q7.1 (154 + 1) 7) (q7.1 (154 + 1) 8) q7 hq8) (jy_T hT6) (ly_T hT6) rfl rfl wc_X5_lie wm_X3_113 wi_X5_lie ws_X5_lie wn_X5 ⟨rfl, rfl⟩ hd_X5_lie rfl ⟨Nat.le_of_ble_eq_true rfl, Nat.le_of_ble_eq_true rfl⟩ (Nat.le_of_ble_eq_true rfl) dX3_letDownFrom_131) (fun H locs hw => ?_)
          refine lv_aload_n (pc := 134) C0.1 C0.2.1 dX3_letDownFrom_134 rfl (lv_at hl 2 rfl) ?_
          refine x_get (pc := 135) (v := .ref (ad (154 + 1))) C0 hK hw (by decide) ly_P rfl inX3 5 (by decide) wf_X3_34 rfl rfl dX3_letDownFrom_135 ?_
          refine lv_aload_n (pc := 138) C0.1 C0.2.1 dX3_letDownFrom_138 rfl (lv_at hl 2 rfl) ?_
          refine x_get (pc := 139) (v := .ref (ad (132 + 9))) C0 hK hw (by decide) ly_P rfl inX3 2 (by decide) wf_X3_21 rfl rfl dX3_letDownFrom_139 ?_
          refine lv_aload (pc := 142) C0.1 C0.2.1 dX3_letDownFrom_142 (lv_at hl 0 rfl) ?_
          obtain ⟨q9, hq9, hf⟩ := bd_e hf
          refine x_backv (pc := 144) hw (x_runV (pc := 144) (As := [.ref (ad (132 + 9)), .ref (ad (12 * 9 + (a1.2.1 (163 + v1) a1.1.toNatClampNeg).toNatClampNeg))]) (rest := []) C0 hK hw hl.1 ⟨Nat.zero_le _, Nat.zero_le _⟩ (kX1_raise l D y ad hI 1 (by decide) 9 (by decide) (12 * 9 + (a1.2.1 (163 + v1) a1.1.toNatClampNeg).toNatClampNeg) hT6 q8 hq9) (jy_F (by decide)) (ly_F (by decide)) rfl rfl wc_X1_raise wm_X3_117 wi_X1_raise ws_X1_raise wn_X1 ⟨rfl, rfl⟩ hd_X1_raise rfl ⟨Nat.le_of_ble_eq_true rfl, Nat.le_of_ble_eq_true rfl⟩ (Nat.le_of_ble_eq_true rfl) dX3_letDownFrom_144) (fun H locs hw => ?_)
          refine lv_iinc (pc := 147) (v := a1.1 + 1) (lv' := [(3, .int (a1.1 + 1)), (4, .ref (ad (12 * 9 + (a1.2.1 (163 + v1) a1.1.toNatClampNeg).toNatClampNeg))), (0, .ref (ad 162)), (1, .ref (ad (163 + v1))), (2, .int v2)]) C0.1 C0.2.1 dX3_letDownFrom_147 hl (k := 1) rfl rfl (by decide) rfl (fun ls hl => ?_)
          refine lv_goto (tgt := 46) (pc := 150) C0.1 C0.2.1 dX3_letDownFrom_150 (by decide) ?_
          exact hG _ (Option.some.inj hf).symm H locs ls hw (lv_sub hl [0, 2, 3, 4] rfl)
    · skip
      exact x_vret (pc := 153) C0 hK hk hr hw (Option.some.inj hf) dX3_letDownFrom_153
def wX3_measure : List Cond := .code yX3_measure cX3_measure 2 none :: lwT
def rX3_measure : Room := { frames := 4, cells := 0, slots := 0, locals := 94 }
set_option maxRecDepth 100000 in
set_option maxHeartbeats 4000000 in
theorem kX3_measure (l : Launch) (D : va_G) (y : Nat → ClassId) (ad : Nat → Nat) (hI : XI ad 168) (v1 : Nat) (hv1 : v1 < 4) (u : S) {o : S} (hf : fX3_measure v1 u = some o) : Met l yX3_measure wX3_measure rX3_measure (va_Pc [.ref (ad 162), .ref (ad (163 + v1))] (XW D y ad LX 168 u)) (XQv D y ad LX 168 o) 0 0 (XA ad 168) := by
  refine x_met (bytes := cX3_measure) (maxL := 2) (ret := none) (own := RX3) (by decide) rfl rfl (Nat.le_of_ble_eq_true rfl) (fun p e s m below meth c ls C0 hK hk hr hw hl => ?_)
  have hl : lv_has ls 2 [(0, .ref (ad 162)), (1, .ref (ad (163 + v1)))] := hl
  unfold fX3_measure at hf
  refine lv_aload_n (pc := 0) C0.1 C0.2.1 dX3_measure_0 rfl (lv_at hl 1 rfl) ?_
  refine lv_iconst (v := 0) (pc := 1) C0.1 C0.2.1 dX3_measure_1 (by decide) ?_
  refine lv_aload_n (pc := 2) C0.1 C0.2.1 dX3_measure_2 rfl (lv_at hl 0 rfl) ?_
  refine x_get (pc := 3) (v := .ref (ad (132 + 9))) C0 hK hw (by decide) ly_P rfl inX3 2 (by decide) wf_X3_21 rfl rfl dX3_measure_3 ?_
  refine x_get (pc := 6) (v := .int (u.1 (132 + 9) 4)) C0 hK hw (jy_B (by decide)) (ly_B (by decide)) rfl inX0 4 (by decide) wf_X3_42 rfl rfl dX3_measure_6 ?_
  refine lv_aload_n (pc := 9) C0.1 C0.2.1 dX3_measure_9 rfl (lv_at hl 0 rfl) ?_
  refine x_get (pc := 10) (v := .ref (ad (132 + 9))) C0 hK hw (by decide) ly_P rfl inX3 2 (by decide) wf_X3_21 rfl rfl dX3_measure_10 ?_
  obtain ⟨q1, hq1, hf⟩ := bd_e hf
  refine x_backp (pc := 13) hw (x_runV (pc := 13) (As := []) (rest := [.int (u.1 (132 + 9) 4), .int 0, .ref (ad (163 + v1))]) C0 hK hw hl.1 ⟨Nat.zero_le _, Nat.zero_le _⟩ (kX0_inside l D y ad hI 9 (by decide) u hq1) (jy_B (by decide)) (ly_B (by decide)) rfl rfl wc_X0_inside wm_X3_121 wi_X0_inside ws_X0_inside wn_X0 ⟨rfl, rfl⟩ hd_X0_inside rfl ⟨Nat.le_of_ble_eq_true rfl, Nat.le_of_ble_eq_true rfl⟩ (Nat.le_of_ble_eq_true rfl) dX3_measure_13) (fun H locs hw => ?_)
  obtain ⟨q2, hq2, hf⟩ := bd_e hf
  refine x_backp (pc := 16) hw (x_runS (pc := 16) (As := [.int q1]) (rest := [.int (u.1 (132 + 9) 4), .int 0, .ref (ad (163 + v1))]) C0 hK hw hl.1 ⟨Nat.zero_le _, Nat.zero_le _⟩ (kJ6_bitCount_0f7a4 l D y ad hI q1 u hq2) rfl wc_J6_bitCount_0f7a4 wm_X3_124 wt_J6_bitCount_0f7a4 wn_J6 ⟨rfl, rfl⟩ hd_J6_bitCount_0f7a4 rfl ⟨Nat.le_of_ble_eq_true rfl, Nat.le_of_ble_eq_true rfl⟩ (Nat.le_of_ble_eq_true rfl) dX3_measure_16) (fun H locs hw => ?_)
  refine lv_isub (pc := 19) C0.1 C0.2.1 dX3_measure_19 ?_
  obtain ⟨hi, hf⟩ := gd_e hf
  obtain ⟨u3, hu, hf⟩ := nm_f hf
  refine x_iast (pc := 20) hI C0 hK hw (jy_O hv1) (ly_O hv1) hi hu dX3_measure_20 (fun H locs hw => ?_)
  refine lv_aload_n (pc := 21) C0.1 C0.2.1 dX3_measure_21 rfl (lv_at hl 1 rfl) ?_
  refine lv_iconst (v := 1) (pc := 22) C0.1 C0.2.1 dX3_measure_22 (by decide) ?_
  refine lv_aload_n (pc := 23) C0.1 C0.2.1 dX3_measure_23 rfl (lv_at hl 0 rfl) ?_
  refine x_get (pc := 24) (v := .ref (ad (132 + 9))) C0 hK hw (by decide) ly_P rfl inX3 2 (by decide) wf_X3_21 rfl rfl dX3_measure_24 ?_
  obtain ⟨q4, hq4, hf⟩ := bd_e hf
  refine x_backp (pc := 27) hw (x_runV (pc := 27) (As := []) (rest := [.int 1, .ref (ad (163 + v1))]) C0 hK hw hl.1 ⟨Nat.zero_le _, Nat.zero_le _⟩ (kX0_faults l D y ad hI 9 (by decide) u3 hq4) (jy_B (by decide)) (ly_B (by decide)) rfl rfl wc_X0_faults wm_X3_130 wi_X0_faults ws_X0_faults wn_X0 ⟨rfl, rfl⟩ hd_X0_faults rfl ⟨Nat.le_of_ble_eq_true rfl, Nat.le_of_ble_eq_true rfl⟩ (Nat.le_of_ble_eq_true rfl) dX3_measure_27) (fun H locs hw => ?_)
  obtain ⟨hi, hf⟩ := gd_e hf
  obtain ⟨u5, hu, hf⟩ := nm_f hf
  refine x_iast (pc := 30) hI C0 hK hw (jy_O hv1) (ly_O hv1) hi hu dX3_measure_30 (fun H locs hw => ?_)
  refine lv_aload_n (pc := 31) C0.1 C0.2.1 dX3_measure_31 rfl (lv_at hl 1 rfl) ?_
  refine lv_iconst (v := 2) (pc := 32) C0.1 C0.2.1 dX3_measure_32 (by decide) ?_
  refine lv_aload_n (pc := 33) C0.1 C0.2.1 dX3_measure_33 rfl (lv_at hl 0 rfl) ?_
  refine x_get (pc := 34) (v := .ref (ad (132 + 9))) C0 hK hw (by decide) ly_P rfl inX3 2 (by decide) wf_X3_21 rfl rfl dX3_measure_34 ?_
  obtain ⟨q6, hq6, hf⟩ := bd_e hf
  refine x_backp (pc := 37) hw (x_runV (pc := 37) (As := []) (rest := [.int 2, .ref (ad (163 + v1))]) C0 hK hw hl.1 ⟨Nat.zero_le _, Nat.zero_le _⟩ (kX0_filledHeight l D y ad hI 9 (by decide) u5 hq6) (jy_B (by decide)) (ly_B (by decide)) rfl rfl wc_X0_filledHeight wm_X3_133 wi_X0_filledHeight ws_X0_filledHeight wn_X0 ⟨rfl, rfl⟩ hd_X0_filledHeight rfl ⟨Nat.le_of_ble_eq_true rfl, Nat.le_of_ble_eq_true rfl⟩ (Nat.le_of_ble_eq_true rfl) dX3_measure_37) (fun H locs hw => ?_)
  obtain ⟨hi, hf⟩ := gd_e hf
  obtain ⟨u7, hu, hf⟩ := nm_f hf
  refine x_iast (pc := 40) hI C0 hK hw (jy_O hv1) (ly_O hv1) hi hu dX3_measure_40 (fun H locs hw => ?_)
  refine lv_aload_n (pc := 41) C0.1 C0.2.1 dX3_measure_41 rfl (lv_at hl 1 rfl) ?_
  refine lv_iconst (v := 3) (pc := 42) C0.1 C0.2.1 dX3_measure_42 (by decide) ?_
  refine lv_aload_n (pc := 43) C0.1 C0.2.1 dX3_measure_43 rfl (lv_at hl 0 rfl) ?_
  refine x_get (pc := 44) (v := .ref (ad (132 + 9))) C0 hK hw (by decide) ly_P rfl inX3 2 (by decide) wf_X3_21 rfl rfl dX3_measure_44 ?_
  obtain ⟨q8, hq8, hf⟩ := bd_e hf
  refine x_backp (pc := 47) hw (x_runV (pc := 47) (As := []) (rest := [.int 3, .ref (ad (163 + v1))]) C0 hK hw hl.1 ⟨Nat.zero_le _, Nat.zero_le _⟩ (kX0_air l D y ad hI 9 (by decide) u7 hq8) (jy_B (by decide)) (ly_B (by decide)) rfl rfl wc_X0_air wm_X3_136 wi_X0_air ws_X0_air wn_X0 ⟨rfl, rfl⟩ hd_X0_air rfl ⟨Nat.le_of_ble_eq_true rfl, Nat.le_of_ble_eq_true rfl⟩ (Nat.le_of_ble_eq_true rfl) dX3_measure_47) (fun H locs hw => ?_)
  obtain ⟨hi, hf⟩ := gd_e hf
  obtain ⟨u9, hu, hf⟩ := nm_f hf
  refine x_iast (pc := 50) hI C0 hK hw (jy_O hv1) (ly_O hv1) hi hu dX3_measure_50 (fun H locs hw => ?_)
  exact x_vret (pc := 51) C0 hK hk hr hw (Option.some.inj hf) dX3_measure_51
def wX3_packUsually : List Cond := .code yX3_packUsually cX3_packUsually 4 none :: lwT
def rX3_packUsually : Room := { frames := 5, cells := 0, slots := 0, locals := 128 }
set_option maxRecDepth 100000 in
set_option maxHeartbeats 4000000 in
theorem kX3_packUsually (l : Launch) (D : va_G) (y : Nat → ClassId) (ad : Nat → Nat) (hI : XI ad 168) (v1 : Nat) (hv1 : v1 < 11) (u : S) {o : S} (hf : fX3_packUsually v1 u = some o) : Met l yX3_packUsually wX3_packUsually rX3_packUsually (va_Pc [.ref (ad 162), .ref (ad (132 + v1))] (XW D y ad LX 168 u)) (XQv D y ad LX 168 o) 0 0 (XA ad 168) := by
  refine x_met (bytes := cX3_packUsually) (maxL := 4) (ret := none) (own := RX3) (by decide) rfl rfl (Nat.le_of_ble_eq_true rfl) (fun p e s m below meth c ls C0 hK hk hr hw hl => ?_)
  have hl : lv_has ls 4 [(0, .ref (ad 162)), (1, .ref (ad (132 + v1)))] := hl
  unfold fX3_packUsually at hf
  refine lv_aload_n (pc := 0) C0.1 C0.2.1 dX3_packUsually_0 rfl (lv_at hl 0 rfl) ?_
  refine x_get (pc := 1) (v := .ref (ad (132 + 9))) C0 hK hw (by decide) ly_P rfl inX3 2 (by decide) wf_X3_21 rfl rfl dX3_packUsually_1 ?_
  refine lv_aload_n (pc := 4) C0.1 C0.2.1 dX3_packUsually_4 rfl (lv_at hl 1 rfl) ?_
  obtain ⟨q1, hq1, hf⟩ := bd_e hf
  refine x_backv (pc := 5) hw (x_runV (pc := 5) (As := [.ref (ad (132 + v1))]) (rest := []) C0 hK hw hl.1 ⟨Nat.zero_le _, Nat.zero_le _⟩ (kX0_copyFrom l D y ad hI 9 (by decide) v1 hv1 u hq1) (jy_B (by decide)) (ly_B (by decide)) rfl rfl wc_X0_copyFrom wm_X3_38 wi_X0_copyFrom ws_X0_copyFrom wn_X0 ⟨rfl, rfl⟩ hd_X0_copyFrom rfl ⟨Nat.le_of_ble_eq_true rfl, Nat.le_of_ble_eq_true rfl⟩ (Nat.le_of_ble_eq_true rfl) dX3_packUsually_5) (fun H locs hw => ?_)
  refine lv_iconst (v := 0) (pc := 8) C0.1 C0.2.1 dX3_packUsually_8 (by decide) ?_
  refine lv_istore_n (pc := 9) (lv' := [(2, .int 0), (0, .ref (ad 162)), (1, .ref (ad (132 + v1)))]) C0.1 C0.2.1 dX3_packUsually_9 rfl hl (by decide) rfl (fun ls hl => ?_)
  obtain ⟨e2, he2, hf⟩ := bd_e hf
  refine X_loop (pc := 10) (xpc := 91) (fu := fun a1 => a1.2) (fl := fun a1 => [(2, .int a1.1), (0, .ref (ad 162)), (1, .ref (ad (132 + v1)))]) (fun a1 r hf hE hG H locs ls hw hl => ?_) he2 (fun H locs ls hw hl => ?_) hw hl
  · unfold gX3_packUsually_10 at hf
    refine lv_iload_n (pc := 10) C0.1 C0.2.1 dX3_packUsually_10 rfl (lv_at hl 0 rfl) ?_
    refine lv_aload_n (pc := 11) C0.1 C0.2.1 dX3_packUsually_11 rfl (lv_at hl 1 rfl) ?_
    refine x_get (pc := 12) (v := .ref (ad (132 + 9))) C0 hK hw (by decide) ly_P rfl inX3 2 (by decide) wf_X3_21 rfl rfl dX3_packUsually_12 ?_
    refine x_get (pc := 15) (v := .int (a1.2.1 (132 + 9) 4)) C0 hK hw (jy_B (by decide)) (ly_B (by decide)) rfl inX0 4 (by decide) wf_X3_42 rfl rfl dX3_packUsually_15 ?_
    refine lv_icmp_ge (tgt := 91) (pc := 18) C0.1 C0.2.1 dX3_packUsually_18 (by decide) (fun hc => ?_) (fun hc => ?_)
    · have hf := if_t hf hc
      exact hE _ (Option.some.inj hf).symm H locs ls hw (lv_sub hl [0, 1, 2] rfl)
    · have hf := if_f hf hc
      refine lv_iload_n (pc := 21) C0.1 C0.2.1 dX3_packUsually_21 rfl (lv_at hl 0 rfl) ?_
      refine lv_istore_n (pc := 22) (lv' := [(3, .int a1.1), (2, .int a1.1), (0, .ref (ad 162)), (1, .ref (ad (132 + v1)))]) C0.1 C0.2.1 dX3_packUsually_22 rfl hl (by decide) rfl (fun ls hl => ?_)
      obtain ⟨e3, he3, hf⟩ := bd_e hf
      refine X_loop (pc := 23) (xpc := 78) (fu := fun a2 => a2.2) (fl := fun a2 => [(3, .int a2.1), (2, .int a1.1), (0, .ref (ad 162)), (1, .ref (ad (132 + v1)))]) (fun a2 r hf hE hG H locs ls hw hl => ?_) he3 (fun H locs ls hw hl => ?_) hw hl
      · unfold gX3_packUsually_23 at hf
        refine lv_iload_n (pc := 23) C0.1 C0.2.1 dX3_packUsually_23 rfl (lv_at hl 0 rfl) ?_
        refine lv_if_le (tgt := 78) (pc := 24) C0.1 C0.2.1 dX3_packUsually_24 (by decide) (fun hc => ?_) (fun hc => ?_)
        · have hf := if_t hf hc
          exact hE _ (Option.some.inj hf).symm H locs ls hw (lv_sub hl [0, 1, 2, 3] rfl)
        · have hf := if_f hf hc
          refine lv_aload_n (pc := 27) C0.1 C0.2.1 dX3_packUsually_27 rfl (lv_at hl 2 rfl) ?_
          refine x_get (pc := 28) (v := .ref (ad (132 + 9))) C0 hK hw (by decide) ly_P rfl inX3 2 (by decide) wf_X3_21 rfl rfl dX3_packUsually_28 ?_
          refine x_get (pc := 31) (v := .ref (ad (143 + 9))) C0 hK hw (jy_B (by decide)) (ly_B (by decide)) rfl inX0 5 (by decide) wf_X3_46 rfl rfl dX3_packUsually_31 ?_
          refine lv_iload_n (pc := 34) C0.1 C0.2.1 dX3_packUsually_34 rfl (lv_at hl 1 rfl) ?_
          obtain ⟨hi, hf⟩ := gd_e hf
          have hT4 : 12 * 9 + a1.1.toNatClampNeg < 132 := tb (by decide) (inb_lt hi)
          refine x_aldT (pc := 35) (t := 12 * 9 + a1.1.toNatClampNeg) C0 hK hw (jy_R (by decide)) (ly_R (by decide)) hi rfl dX3_packUsually_35 ?_
          refine lv_aload_n (pc := 36) C0.1 C0.2.1 dX3_packUsually_36 rfl (lv_at hl 2 rfl) ?_
          refine x_get (pc := 37) (v := .ref (ad (132 + 9))) C0 hK hw (by decide) ly_P rfl inX3 2 (by decide) wf_X3_21 rfl rfl dX3_packUsually_37 ?_
          refine x_get (pc := 40) (v := .ref (ad (143 + 9))) C0 hK hw (jy_B (by decide)) (ly_B (by decide)) rfl inX0 5 (by decide) wf_X3_46 rfl rfl dX3_packUsually_40 ?_
          refine lv_aload_n (pc := 43) C0.1 C0.2.1 dX3_packUsually_43 rfl (lv_at hl 2 rfl) ?_
          refine x_get (pc := 44) (v := .ref (ad (163 + 0))) C0 hK hw (by decide) ly_P rfl inX3 0 (by decide) wf_X3_9 rfl rfl dX3_packUsually_44 ?_
          refine lv_iload_n (pc := 47) C0.1 C0.2.1 dX3_packUsually_47 rfl (lv_at hl 0 rfl) ?_
          refine lv_iconst (v := 1) (pc := 48) C0.1 C0.2.1 dX3_packUsually_48 (by decide) ?_
          refine lv_isub (pc := 49) C0.1 C0.2.1 dX3_packUsually_49 ?_
          obtain ⟨hi, hf⟩ := gd_e hf
          refine x_iald (pc := 50) C0 hK hw (jy_O (by decide)) (ly_O (by decide)) hi dX3_packUsually_50 ?_
          obtain ⟨hi, hf⟩ := gd_e hf
          have hT5 : 12 * 9 + (a2.2.1 (163 + 0) (a2.1 - 1).toNatClampNeg).toNatClampNeg < 132 := tb (by decide) (inb_lt hi)
          refine x_aldT (pc := 51) (t := 12 * 9 + (a2.2.1 (163 + 0) (a2.1 - 1).toNatClampNeg).toNatClampNeg) C0 hK hw (jy_R (by decide)) (ly_R (by decide)) hi rfl dX3_packUsually_51 ?_
          obtain ⟨q6, hq6, hf⟩ := bd_e hf
          refine x_backp (pc := 52) hw (x_runS (pc := 52) (As := [.ref (ad (12 * 9 + a1.1.toNatClampNeg)), .ref (ad (12 * 9 + (a2.2.1 (163 + 0) (a2.1 - 1).toNatClampNeg).toNatClampNeg))]) (rest := []) C0 hK hw hl.1 ⟨Nat.zero_le _, Nat.zero_le _⟩ (kX3_isBefore l D y ad hI (12 * 9 + a1.1.toNatClampNeg) hT4 (12 * 9 + (a2.2.1 (163 + 0) (a2.1 - 1).toNatClampNeg).toNatClampNeg) hT5 a2.2 hq6) rfl wc_X3_isBefore wm_X3_50 wt_X3_isBefore wn_X3 ⟨rfl, rfl⟩ hd_X3_isBefore rfl ⟨Nat.le_of_ble_eq_true rfl, Nat.le_of_ble_eq_true rfl⟩ (Nat.le_of_ble_eq_true rfl) dX3_packUsually_52) (fun H locs hw => ?_)
          refine lv_if_eq (tgt := 78) (pc := 55) C0.1 C0.2.1 dX3_packUsually_55 (by decide) (fun hc => ?_) (fun hc => ?_)
          · have hf := if_t hf hc
            exact hE _ (Option.some.inj hf).symm H locs ls hw (lv_sub hl [0, 1, 2, 3] rfl)
          · have hf := if_f hf hc
            refine lv_aload_n (pc := 58) C0.1 C0.2.1 dX3_packUsually_58 rfl (lv_at hl 2 rfl) ?_
            refine x_get (pc := 59) (v := .ref (ad (163 + 0))) C0 hK hw (by decide) ly_P rfl inX3 0 (by decide) wf_X3_9 rfl rfl dX3_packUsually_59 ?_
            refine lv_iload_n (pc := 62) C0.1 C0.2.1 dX3_packUsually_62 rfl (lv_at hl 0 rfl) ?_
            refine lv_aload_n (pc := 63) C0.1 C0.2.1 dX3_packUsually_63 rfl (lv_at hl 2 rfl) ?_
            refine x_get (pc := 64) (v := .ref (ad (163 + 0))) C0 hK hw (by decide) ly_P rfl inX3 0 (by decide) wf_X3_9 rfl rfl dX3_packUsually_64 ?_
            refine lv_iload_n (pc := 67) C0.1 C0.2.1 dX3_packUsually_67 rfl (lv_at hl 0 rfl) ?_
            refine lv_iconst (v := 1) (pc := 68) C0.1 C0.2.1 dX3_packUsually_68 (by decide) ?_
            refine lv_isub (pc := 69) C0.1 C0.2.1 dX3_packUsually_69 ?_
            obtain ⟨hi, hf⟩ := gd_e hf
            refine x_iald (pc := 70) C0 hK hw (jy_O (by decide)) (ly_O (by decide)) hi dX3_packUsually_70 ?_
            obtain ⟨hi, hf⟩ := gd_e hf
            obtain ⟨u7, hu, hf⟩ := nm_f hf
            refine x_iast (pc := 71) hI C0 hK hw (jy_O (by decide)) (ly_O (by decide)) hi hu dX3_packUsually_71 (fun H locs hw => ?_)
            refine lv_iinc (pc := 72) (v := a2.1 + (-1)) (lv' := [(3, .int (a2.1 + (-1))), (2, .int a1.1), (0, .ref (ad 162)), (1, .ref (ad (132 + v1)))]) C0.1 C0.2.1 dX3_packUsually_72 hl (k := 0) rfl (congrArg (HAdd.hAdd _) (by decide)) (by decide) rfl (fun ls hl => ?_)
            refine lv_goto (tgt := 23) (pc := 75) C0.1 C0.2.1 dX3_packUsually_75 (by decide) ?_
            exact hG _ (Option.some.inj hf).symm H locs ls hw (lv_sub hl [0, 1, 2, 3] rfl)
      · skip
        refine lv_aload_n (pc := 78) C0.1 C0.2.1 dX3_packUsually_78 rfl (lv_at hl 2 rfl) ?_
        refine x_get (pc := 79) (v := .ref (ad (163 + 0))) C0 hK hw (by decide) ly_P rfl inX3 0 (by decide) wf_X3_9 rfl rfl dX3_packUsually_79 ?_
        refine lv_iload_n (pc := 82) C0.1 C0.2.1 dX3_packUsually_82 rfl (lv_at hl 0 rfl) ?_
        refine lv_iload_n (pc := 83) C0.1 C0.2.1 dX3_packUsually_83 rfl (lv_at hl 1 rfl) ?_
        obtain ⟨hi, hf⟩ := gd_e hf
        obtain ⟨u8, hu, hf⟩ := nm_f hf
        refine x_iast (pc := 84) hI C0 hK hw (jy_O (by decide)) (ly_O (by decide)) hi hu dX3_packUsually_84 (fun H locs hw => ?_)
        refine lv_iinc (pc := 85) (v := a1.1 + 1) (lv' := [(2, .int (a1.1 + 1)), (3, .int e3.1), (0, .ref (ad 162)), (1, .ref (ad (132 + v1)))]) C0.1 C0.2.1 dX3_packUsually_85 hl (k := 1) rfl rfl (by decide) rfl (fun ls hl => ?_)
        refine lv_goto (tgt := 10) (pc := 88) C0.1 C0.2.1 dX3_packUsually_88 (by decide) ?_
        exact hG _ (Option.some.inj hf).symm H locs ls hw (lv_sub hl [0, 2, 3] rfl)
  · skip
    refine lv_aload_n (pc := 91) C0.1 C0.2.1 dX3_packUsually_91 rfl (lv_at hl 1 rfl) ?_
    refine lv_aload_n (pc := 92) C0.1 C0.2.1 dX3_packUsually_92 rfl (lv_at hl 1 rfl) ?_
    refine x_get (pc := 93) (v := .ref (ad (163 + 0))) C0 hK hw (by decide) ly_P rfl inX3 0 (by decide) wf_X3_9 rfl rfl dX3_packUsually_93 ?_
    refine lv_iconst (v := 0) (pc := 96) C0.1 C0.2.1 dX3_packUsually_96 (by decide) ?_
    obtain ⟨q9, hq9, hf⟩ := bd_e hf
    refine x_backv (pc := 97) hw (x_runV (pc := 97) (As := [.ref (ad (163 + 0)), .int 0]) (rest := []) C0 hK hw hl.1 ⟨Nat.zero_le _, Nat.zero_le _⟩ (kX3_letDownFrom l D y ad hI 0 (by decide) 0 e2.2 hq9) (by decide) ly_P rfl rfl wc_X3_letDownFrom wm_X3_54 wi_X3_letDownFrom ws_X3_letDownFrom wn_X3 ⟨rfl, rfl⟩ hd_X3_letDownFrom rfl ⟨Nat.le_of_ble_eq_true rfl, Nat.le_of_ble_eq_true rfl⟩ (Nat.le_of_ble_eq_true rfl) dX3_packUsually_97) (fun H locs hw => ?_)
    refine lv_aload_n (pc := 100) C0.1 C0.2.1 dX3_packUsually_100 rfl (lv_at hl 1 rfl) ?_
    refine lv_aload_n (pc := 101) C0.1 C0.2.1 dX3_packUsually_101 rfl (lv_at hl 1 rfl) ?_
    refine x_get (pc := 102) (v := .ref (ad (163 + 1))) C0 hK hw (by decide) ly_P rfl inX3 1 (by decide) wf_X3_15 rfl rfl dX3_packUsually_102 ?_
    obtain ⟨q10, hq10, hf⟩ := bd_e hf
    refine x_backv (pc := 105) hw (x_runV (pc := 105) (As := [.ref (ad (163 + 1))]) (rest := []) C0 hK hw hl.1 ⟨Nat.zero_le _, Nat.zero_le _⟩ (kX3_measure l D y ad hI 1 (by decide) q9 hq10) (by decide) ly_P rfl rfl wc_X3_measure wm_X3_58 wi_X3_measure ws_X3_measure wn_X3 ⟨rfl, rfl⟩ hd_X3_measure rfl ⟨Nat.le_of_ble_eq_true rfl, Nat.le_of_ble_eq_true rfl⟩ (Nat.le_of_ble_eq_true rfl) dX3_packUsually_105) (fun H locs hw => ?_)
    exact x_vret (pc := 108) C0 hK hk hr hw (Option.some.inj hf) dX3_packUsually_108
def wX3_isTriedBetter : List Cond := .code yX3_isTriedBetter cX3_isTriedBetter 2 (some .boolean) :: lwT
def rX3_isTriedBetter : Room := { frames := 0, cells := 0, slots := 0, locals := 0 }
set_option maxRecDepth 100000 in
set_option maxHeartbeats 4000000 in
theorem kX3_isTriedBetter (l : Launch) (D : va_G) (y : Nat → ClassId) (ad : Nat → Nat) (hI : XI ad 168)  (u : S) {o : Int32} (hf : fX3_isTriedBetter  u = some o) : Met l yX3_isTriedBetter wX3_isTriedBetter rX3_isTriedBetter (va_Pc [.ref (ad 162)] (XW D y ad LX 168 u)) (XQi D y ad LX 168 (o, u)) 0 0 (XA ad 168) := by
  refine x_met (bytes := cX3_isTriedBetter) (maxL := 2) (ret := (some .boolean)) (own := RX3) (by decide) rfl rfl (Nat.le_of_ble_eq_true rfl) (fun p e s m below meth c ls C0 hK hk hr hw hl => ?_)
  have hl : lv_has ls 2 [(0, .ref (ad 162))] := hl
  unfold fX3_isTriedBetter at hf
  refine lv_iconst (v := 0) (pc := 0) C0.1 C0.2.1 dX3_isTriedBetter_0 (by decide) ?_
  refine lv_istore_n (pc := 1) (lv' := [(1, .int 0), (0, .ref (ad 162))]) C0.1 C0.2.1 dX3_isTriedBetter_1 rfl hl (by decide) rfl (fun ls hl => ?_)
  obtain ⟨e1, he1, hf⟩ := bd_e hf
  refine X_loopR (pc := 2) (xpc := 49) (fu := fun a1 => u) (fl := fun a1 => [(1, .int a1), (0, .ref (ad 162))]) (o := o) (fun a1 r hf hX hE hG H locs ls hw hl => ?_) he1 ?_ ?_ hw hl
  · unfold gX3_isTriedBetter_2 at hf
    refine lv_iload_n (pc := 2) C0.1 C0.2.1 dX3_isTriedBetter_2 rfl (lv_at hl 0 rfl) ?_
    refine lv_iconst (v := 4) (pc := 3) C0.1 C0.2.1 dX3_isTriedBetter_3 (by decide) ?_
    refine lv_icmp_ge (tgt := 49) (pc := 4) C0.1 C0.2.1 dX3_isTriedBetter_4 (by decide) (fun hc => ?_) (fun hc => ?_)
    · have hf := if_t hf hc
      exact hE _ (Option.some.inj hf).symm H locs ls hw (lv_sub hl [0, 1] rfl)
    · have hf := if_f hf hc
      refine lv_aload_n (pc := 7) C0.1 C0.2.1 dX3_isTriedBetter_7 rfl (lv_at hl 1 rfl) ?_
      refine x_get (pc := 8) (v := .ref (ad (163 + 3))) C0 hK hw (by decide) ly_P rfl inX3 4 (by decide) wf_X3_28 rfl rfl dX3_isTriedBetter_8 ?_
      refine lv_iload_n (pc := 11) C0.1 C0.2.1 dX3_isTriedBetter_11 rfl (lv_at hl 0 rfl) ?_
      obtain ⟨hi, hf⟩ := gd_e hf
      refine x_iald (pc := 12) C0 hK hw (jy_O (by decide)) (ly_O (by decide)) hi dX3_isTriedBetter_12 ?_
      refine lv_aload_n (pc := 13) C0.1 C0.2.1 dX3_isTriedBetter_13 rfl (lv_at hl 1 rfl) ?_
      refine x_get (pc := 14) (v := .ref (ad (163 + 1))) C0 hK hw (by decide) ly_P rfl inX3 1 (by decide) wf_X3_15 rfl rfl dX3_isTriedBetter_14 ?_
      refine lv_iload_n (pc := 17) C0.1 C0.2.1 dX3_isTriedBetter_17 rfl (lv_at hl 0 rfl) ?_
      obtain ⟨hi, hf⟩ := gd_e hf
      refine x_iald (pc := 18) C0 hK hw (jy_O (by decide)) (ly_O (by decide)) hi dX3_isTriedBetter_18 ?_
      refine lv_icmp_eq (tgt := 43) (pc := 19) C0.1 C0.2.1 dX3_isTriedBetter_19 (by decide) (fun hc => ?_) (fun hc => ?_)
      · have hf := if_t hf hc
        refine lv_iinc (pc := 43) (v := a1 + 1) (lv' := [(1, .int (a1 + 1)), (0, .ref (ad 162))]) C0.1 C0.2.1 dX3_isTriedBetter_43 hl (k := 0) rfl rfl (by decide) rfl (fun ls hl => ?_)
        refine lv_goto (tgt := 2) (pc := 46) C0.1 C0.2.1 dX3_isTriedBetter_46 (by decide) ?_
        exact hG _ (Option.some.inj hf).symm H locs ls hw (lv_sub hl [0, 1] rfl)
      · have hf := if_f hf hc
        refine lv_aload_n (pc := 22) C0.1 C0.2.1 dX3_isTriedBetter_22 rfl (lv_at hl 1 rfl) ?_
        refine x_get (pc := 23) (v := .ref (ad (163 + 3))) C0 hK hw (by decide) ly_P rfl inX3 4 (by decide) wf_X3_28 rfl rfl dX3_isTriedBetter_23 ?_
        refine lv_iload_n (pc := 26) C0.1 C0.2.1 dX3_isTriedBetter_26 rfl (lv_at hl 0 rfl) ?_
        obtain ⟨hi, hf⟩ := gd_e hf
        refine x_iald (pc := 27) C0 hK hw (jy_O (by decide)) (ly_O (by decide)) hi dX3_isTriedBetter_27 ?_
        refine lv_aload_n (pc := 28) C0.1 C0.2.1 dX3_isTriedBetter_28 rfl (lv_at hl 1 rfl) ?_
        refine x_get (pc := 29) (v := .ref (ad (163 + 1))) C0 hK hw (by decide) ly_P rfl inX3 1 (by decide) wf_X3_15 rfl rfl dX3_isTriedBetter_29 ?_
        refine lv_iload_n (pc := 32) C0.1 C0.2.1 dX3_isTriedBetter_32 rfl (lv_at hl 0 rfl) ?_
        obtain ⟨hi, hf⟩ := gd_e hf
        refine x_iald (pc := 33) C0 hK hw (jy_O (by decide)) (ly_O (by decide)) hi dX3_isTriedBetter_33 ?_
        refine lv_icmp_ge (tgt := 41) (pc := 34) C0.1 C0.2.1 dX3_isTriedBetter_34 (by decide) (fun hc => ?_) (fun hc => ?_)
        · have hf := if_t hf hc
          refine lv_iconst (v := 0) (pc := 41) C0.1 C0.2.1 dX3_isTriedBetter_41 (by decide) ?_
          exact x_zret (pc := 42) C0 hK hk hr hw rfl (congrArg (fun z => (z, u)) (hX _ (Option.some.inj hf).symm)) dX3_isTriedBetter_42
        · have hf := if_f hf hc
          refine lv_iconst (v := 1) (pc := 37) C0.1 C0.2.1 dX3_isTriedBetter_37 (by decide) ?_
          refine lv_goto (tgt := 42) (pc := 38) C0.1 C0.2.1 dX3_isTriedBetter_38 (by decide) ?_
          exact x_zret (pc := 42) C0 hK hk hr hw rfl (congrArg (fun z => (z, u)) (hX _ (Option.some.inj hf).symm)) dX3_isTriedBetter_42
  · intro x hx
    subst hx
    exact Option.some.inj hf
  · intro e1x he H locs ls hw hl
    subst he
    have hf := sum_r hf
    refine lv_iconst (v := 0) (pc := 49) C0.1 C0.2.1 dX3_isTriedBetter_49 (by decide) ?_
    exact x_zret (pc := 50) C0 hK hk hr hw rfl (congrArg (fun z => (z, u)) (Option.some.inj hf)) dX3_isTriedBetter_50
def wX3_swap : List Cond := .code yX3_swap cX3_swap 4 none :: lwT
def rX3_swap : Room := { frames := 0, cells := 0, slots := 0, locals := 0 }
set_option maxRecDepth 100000 in
set_option maxHeartbeats 4000000 in
theorem kX3_swap (l : Launch) (D : va_G) (y : Nat → ClassId) (ad : Nat → Nat) (hI : XI ad 168) (v1 : Int32) (v2 : Int32) (u : S) {o : S} (hf : fX3_swap v1 v2 u = some o) : Met l yX3_swap wX3_swap rX3_swap (va_Pc [.ref (ad 162), .int v1, .int v2] (XW D y ad LX 168 u)) (XQv D y ad LX 168 o) 0 0 (XA ad 168) := by
  refine x_met (bytes := cX3_swap) (maxL := 4) (ret := none) (own := RX3) (by decide) rfl rfl (Nat.le_of_ble_eq_true rfl) (fun p e s m below meth c ls C0 hK hk hr hw hl => ?_)
  have hl : lv_has ls 4 [(0, .ref (ad 162)), (1, .int v1), (2, .int v2)] := hl
  unfold fX3_swap at hf
  refine lv_aload_n (pc := 0) C0.1 C0.2.1 dX3_swap_0 rfl (lv_at hl 0 rfl) ?_
  refine x_get (pc := 1) (v := .ref (ad (163 + 2))) C0 hK hw (by decide) ly_P rfl inX3 3 (by decide) wf_X3_25 rfl rfl dX3_swap_1 ?_
  refine lv_iload_n (pc := 4) C0.1 C0.2.1 dX3_swap_4 rfl (lv_at hl 1 rfl) ?_
  obtain ⟨hi, hf⟩ := gd_e hf
  refine x_iald (pc := 5) C0 hK hw (jy_O (by decide)) (ly_O (by decide)) hi dX3_swap_5 ?_
  refine lv_istore_n (pc := 6) (lv' := [(3, .int (u.1 (163 + 2) v1.toNatClampNeg)), (0, .ref (ad 162)), (1, .int v1), (2, .int v2)]) C0.1 C0.2.1 dX3_swap_6 rfl hl (by decide) rfl (fun ls hl => ?_)
  refine lv_aload_n (pc := 7) C0.1 C0.2.1 dX3_swap_7 rfl (lv_at hl 1 rfl) ?_
  refine x_get (pc := 8) (v := .ref (ad (163 + 2))) C0 hK hw (by decide) ly_P rfl inX3 3 (by decide) wf_X3_25 rfl rfl dX3_swap_8 ?_
  refine lv_iload_n (pc := 11) C0.1 C0.2.1 dX3_swap_11 rfl (lv_at hl 2 rfl) ?_
  refine lv_aload_n (pc := 12) C0.1 C0.2.1 dX3_swap_12 rfl (lv_at hl 1 rfl) ?_
  refine x_get (pc := 13) (v := .ref (ad (163 + 2))) C0 hK hw (by decide) ly_P rfl inX3 3 (by decide) wf_X3_25 rfl rfl dX3_swap_13 ?_
  refine lv_iload_n (pc := 16) C0.1 C0.2.1 dX3_swap_16 rfl (lv_at hl 3 rfl) ?_
  obtain ⟨hi, hf⟩ := gd_e hf
  refine x_iald (pc := 17) C0 hK hw (jy_O (by decide)) (ly_O (by decide)) hi dX3_swap_17 ?_
  obtain ⟨hi, hf⟩ := gd_e hf
  obtain ⟨u1, hu, hf⟩ := nm_f hf
  refine x_iast (pc := 18) hI C0 hK hw (jy_O (by decide)) (ly_O (by decide)) hi hu dX3_swap_18 (fun H locs hw => ?_)
  refine lv_aload_n (pc := 19) C0.1 C0.2.1 dX3_swap_19 rfl (lv_at hl 1 rfl) ?_
  refine x_get (pc := 20) (v := .ref (ad (163 + 2))) C0 hK hw (by decide) ly_P rfl inX3 3 (by decide) wf_X3_25 rfl rfl dX3_swap_20 ?_
  refine lv_iload_n (pc := 23) C0.1 C0.2.1 dX3_swap_23 rfl (lv_at hl 3 rfl) ?_
  refine lv_iload_n (pc := 24) C0.1 C0.2.1 dX3_swap_24 rfl (lv_at hl 0 rfl) ?_
  obtain ⟨hi, hf⟩ := gd_e hf
  obtain ⟨u2, hu, hf⟩ := nm_f hf
  refine x_iast (pc := 25) hI C0 hK hw (jy_O (by decide)) (ly_O (by decide)) hi hu dX3_swap_25 (fun H locs hw => ?_)
  exact x_vret (pc := 26) C0 hK hk hr hw (Option.some.inj hf) dX3_swap_26
def wX3_stepToNextOrder : List Cond := .code yX3_stepToNextOrder cX3_stepToNextOrder 5 (some .int) :: lwT
def rX3_stepToNextOrder : Room := { frames := 1, cells := 0, slots := 0, locals := 23 }
set_option maxRecDepth 100000 in
set_option maxHeartbeats 4000000 in
theorem kX3_stepToNextOrder (l : Launch) (D : va_G) (y : Nat → ClassId) (ad : Nat → Nat) (hI : XI ad 168)  (u : S) {o : Int32 × S} (hf : fX3_stepToNextOrder  u = some o) : Met l yX3_stepToNextOrder wX3_stepToNextOrder rX3_stepToNextOrder (va_Pc [.ref (ad 162)] (XW D y ad LX 168 u)) (XQi D y ad LX 168 o) 0 0 (XA ad 168) := by
  refine x_met (bytes := cX3_stepToNextOrder) (maxL := 5) (ret := (some .int)) (own := RX3) (by decide) rfl rfl (Nat.le_of_ble_eq_true rfl) (fun p e s m below meth c ls C0 hK hk hr hw hl => ?_)
  have hl : lv_has ls 5 [(0, .ref (ad 162))] := hl
  unfold fX3_stepToNextOrder at hf
  refine lv_aload_n (pc := 0) C0.1 C0.2.1 dX3_stepToNextOrder_0 rfl (lv_at hl 0 rfl) ?_
  refine x_get (pc := 1) (v := .ref (ad (132 + 9))) C0 hK hw (by decide) ly_P rfl inX3 2 (by decide) wf_X3_21 rfl rfl dX3_stepToNextOrder_1 ?_
  refine x_get (pc := 4) (v := .int (u.1 (132 + 9) 4)) C0 hK hw (jy_B (by decide)) (ly_B (by decide)) rfl inX0 4 (by decide) wf_X3_42 rfl rfl dX3_stepToNextOrder_4 ?_
  refine lv_iconst (v := 2) (pc := 7) C0.1 C0.2.1 dX3_stepToNextOrder_7 (by decide) ?_
  refine lv_isub (pc := 8) C0.1 C0.2.1 dX3_stepToNextOrder_8 ?_
  refine lv_istore_n (pc := 9) (lv' := [(1, .int ((u.1 (132 + 9) 4) - 2)), (0, .ref (ad 162))]) C0.1 C0.2.1 dX3_stepToNextOrder_9 rfl hl (by decide) rfl (fun ls hl => ?_)
  obtain ⟨e1, he1, hf⟩ := bd_e hf
  refine X_loop (pc := 10) (xpc := 37) (fu := fun a1 => u) (fl := fun a1 => [(1, .int a1), (0, .ref (ad 162))]) (fun a1 r hf hE hG H locs ls hw hl => ?_) he1 (fun H locs ls hw hl => ?_) hw hl
  · unfold gX3_stepToNextOrder_10 at hf
    refine lv_iload_n (pc := 10) C0.1 C0.2.1 dX3_stepToNextOrder_10 rfl (lv_at hl 0 rfl) ?_
    refine lv_if_lt (tgt := 37) (pc := 11) C0.1 C0.2.1 dX3_stepToNextOrder_11 (by decide) (fun hc => ?_) (fun hc => ?_)
    · have hf := if_t hf hc
      exact hE _ (Option.some.inj hf).symm H locs ls hw (lv_sub hl [0, 1] rfl)
    · have hf := if_f hf hc
      refine lv_aload_n (pc := 14) C0.1 C0.2.1 dX3_stepToNextOrder_14 rfl (lv_at hl 1 rfl) ?_
      refine x_get (pc := 15) (v := .ref (ad (163 + 2))) C0 hK hw (by decide) ly_P rfl inX3 3 (by decide) wf_X3_25 rfl rfl dX3_stepToNextOrder_15 ?_
      refine lv_iload_n (pc := 18) C0.1 C0.2.1 dX3_stepToNextOrder_18 rfl (lv_at hl 0 rfl) ?_
      obtain ⟨hi, hf⟩ := gd_e hf
      refine x_iald (pc := 19) C0 hK hw (jy_O (by decide)) (ly_O (by decide)) hi dX3_stepToNextOrder_19 ?_
      refine lv_aload_n (pc := 20) C0.1 C0.2.1 dX3_stepToNextOrder_20 rfl (lv_at hl 1 rfl) ?_
      refine x_get (pc := 21) (v := .ref (ad (163 + 2))) C0 hK hw (by decide) ly_P rfl inX3 3 (by decide) wf_X3_25 rfl rfl dX3_stepToNextOrder_21 ?_
      refine lv_iload_n (pc := 24) C0.1 C0.2.1 dX3_stepToNextOrder_24 rfl (lv_at hl 0 rfl) ?_
      refine lv_iconst (v := 1) (pc := 25) C0.1 C0.2.1 dX3_stepToNextOrder_25 (by decide) ?_
      refine lv_iadd (pc := 26) C0.1 C0.2.1 dX3_stepToNextOrder_26 ?_
      obtain ⟨hi, hf⟩ := gd_e hf
      refine x_iald (pc := 27) C0 hK hw (jy_O (by decide)) (ly_O (by decide)) hi dX3_stepToNextOrder_27 ?_
      refine lv_icmp_le (tgt := 37) (pc := 28) C0.1 C0.2.1 dX3_stepToNextOrder_28 (by decide) (fun hc => ?_) (fun hc => ?_)
      · have hf := if_t hf hc
        exact hE _ (Option.some.inj hf).symm H locs ls hw (lv_sub hl [0, 1] rfl)
      · have hf := if_f hf hc
        refine lv_iinc (pc := 31) (v := a1 + (-1)) (lv' := [(1, .int (a1 + (-1))), (0, .ref (ad 162))]) C0.1 C0.2.1 dX3_stepToNextOrder_31 hl (k := 0) rfl (congrArg (HAdd.hAdd _) (by decide)) (by decide) rfl (fun ls hl => ?_)
        refine lv_goto (tgt := 10) (pc := 34) C0.1 C0.2.1 dX3_stepToNextOrder_34 (by decide) ?_
        exact hG _ (Option.some.inj hf).symm H locs ls hw (lv_sub hl [0, 1] rfl)
  · skip
    refine lv_iload_n (pc := 37) C0.1 C0.2.1 dX3_stepToNextOrder_37 rfl (lv_at hl 0 rfl) ?_
    refine lv_if_ge (tgt := 44) (pc := 38) C0.1 C0.2.1 dX3_stepToNextOrder_38 (by decide) (fun hc => ?_) (fun hc => ?_)
    · have hf := if_t hf hc
      refine lv_aload_n (pc := 44) C0.1 C0.2.1 dX3_stepToNextOrder_44 rfl (lv_at hl 1 rfl) ?_
      refine x_get (pc := 45) (v := .ref (ad (132 + 9))) C0 hK hw (by decide) ly_P rfl inX3 2 (by decide) wf_X3_21 rfl rfl dX3_stepToNextOrder_45 ?_
      refine x_get (pc := 48) (v := .int (u.1 (132 + 9) 4)) C0 hK hw (jy_B (by decide)) (ly_B (by decide)) rfl inX0 4 (by decide) wf_X3_42 rfl rfl dX3_stepToNextOrder_48 ?_
      refine lv_iconst (v := 1) (pc := 51) C0.1 C0.2.1 dX3_stepToNextOrder_51 (by decide) ?_
      refine lv_isub (pc := 52) C0.1 C0.2.1 dX3_stepToNextOrder_52 ?_
      refine lv_istore_n (pc := 53) (lv' := [(2, .int ((u.1 (132 + 9) 4) - 1)), (1, .int e1), (0, .ref (ad 162))]) C0.1 C0.2.1 dX3_stepToNextOrder_53 rfl hl (by decide) rfl (fun ls hl => ?_)
      obtain ⟨e2, he2, hf⟩ := bd_e hf
      refine X_loop (pc := 54) (xpc := 80) (fu := fun a1 => u) (fl := fun a1 => [(2, .int a1), (1, .int e1), (0, .ref (ad 162))]) (fun a1 r hf hE hG H locs ls hw hl => ?_) he2 (fun H locs ls hw hl => ?_) hw hl
      · unfold gX3_stepToNextOrder_54 at hf
        refine lv_iload_n (pc := 54) C0.1 C0.2.1 dX3_stepToNextOrder_54 rfl (lv_at hl 0 rfl) ?_
        refine lv_iload_n (pc := 55) C0.1 C0.2.1 dX3_stepToNextOrder_55 rfl (lv_at hl 1 rfl) ?_
        refine lv_icmp_le (tgt := 80) (pc := 56) C0.1 C0.2.1 dX3_stepToNextOrder_56 (by decide) (fun hc => ?_) (fun hc => ?_)
        · have hf := if_t hf hc
          exact hE _ (Option.some.inj hf).symm H locs ls hw (lv_sub hl [0, 1, 2] rfl)
        · have hf := if_f hf hc
          refine lv_aload_n (pc := 59) C0.1 C0.2.1 dX3_stepToNextOrder_59 rfl (lv_at hl 2 rfl) ?_
          refine x_get (pc := 60) (v := .ref (ad (163 + 2))) C0 hK hw (by decide) ly_P rfl inX3 3 (by decide) wf_X3_25 rfl rfl dX3_stepToNextOrder_60 ?_
          refine lv_iload_n (pc := 63) C0.1 C0.2.1 dX3_stepToNextOrder_63 rfl (lv_at hl 0 rfl) ?_
          obtain ⟨hi, hf⟩ := gd_e hf
          refine x_iald (pc := 64) C0 hK hw (jy_O (by decide)) (ly_O (by decide)) hi dX3_stepToNextOrder_64 ?_
          refine lv_aload_n (pc := 65) C0.1 C0.2.1 dX3_stepToNextOrder_65 rfl (lv_at hl 2 rfl) ?_
          refine x_get (pc := 66) (v := .ref (ad (163 + 2))) C0 hK hw (by decide) ly_P rfl inX3 3 (by decide) wf_X3_25 rfl rfl dX3_stepToNextOrder_66 ?_
          refine lv_iload_n (pc := 69) C0.1 C0.2.1 dX3_stepToNextOrder_69 rfl (lv_at hl 1 rfl) ?_
          obtain ⟨hi, hf⟩ := gd_e hf
          refine x_iald (pc := 70) C0 hK hw (jy_O (by decide)) (ly_O (by decide)) hi dX3_stepToNextOrder_70 ?_
          refine lv_icmp_ge (tgt := 80) (pc := 71) C0.1 C0.2.1 dX3_stepToNextOrder_71 (by decide) (fun hc => ?_) (fun hc => ?_)
          · have hf := if_t hf hc
            exact hE _ (Option.some.inj hf).symm H locs ls hw (lv_sub hl [0, 1, 2] rfl)
          · have hf := if_f hf hc
            refine lv_iinc (pc := 74) (v := a1 + (-1)) (lv' := [(2, .int (a1 + (-1))), (1, .int e1), (0, .ref (ad 162))]) C0.1 C0.2.1 dX3_stepToNextOrder_74 hl (k := 0) rfl (congrArg (HAdd.hAdd _) (by decide)) (by decide) rfl (fun ls hl => ?_)
            refine lv_goto (tgt := 54) (pc := 77) C0.1 C0.2.1 dX3_stepToNextOrder_77 (by decide) ?_
            exact hG _ (Option.some.inj hf).symm H locs ls hw (lv_sub hl [0, 1, 2] rfl)
      · skip
        refine lv_aload_n (pc := 80) C0.1 C0.2.1 dX3_stepToNextOrder_80 rfl (lv_at hl 2 rfl) ?_
        refine lv_iload_n (pc := 81) C0.1 C0.2.1 dX3_stepToNextOrder_81 rfl (lv_at hl 1 rfl) ?_
        refine lv_iload_n (pc := 82) C0.1 C0.2.1 dX3_stepToNextOrder_82 rfl (lv_at hl 0 rfl) ?_
        obtain ⟨q3, hq3, hf⟩ := bd_e hf
        refine x_backv (pc := 83) hw (x_runV (pc := 83) (As := [.int e1, .int e2]) (rest := []) C0 hK hw hl.1 ⟨Nat.zero_le _, Nat.zero_le _⟩ (kX3_swap l D y ad hI e1 e2 u hq3) (by decide) ly_P rfl rfl wc_X3_swap wm_X3_139 wi_X3_swap ws_X3_swap wn_X3 ⟨rfl, rfl⟩ hd_X3_swap rfl ⟨Nat.le_of_ble_eq_true rfl, Nat.le_of_ble_eq_true rfl⟩ (Nat.le_of_ble_eq_true rfl) dX3_stepToNextOrder_83) (fun H locs hw => ?_)
        refine lv_iload_n (pc := 86) C0.1 C0.2.1 dX3_stepToNextOrder_86 rfl (lv_at hl 1 rfl) ?_
        refine lv_iconst (v := 1) (pc := 87) C0.1 C0.2.1 dX3_stepToNextOrder_87 (by decide) ?_
        refine lv_iadd (pc := 88) C0.1 C0.2.1 dX3_stepToNextOrder_88 ?_
        refine lv_istore_n (pc := 89) (lv' := [(3, .int (e1 + 1)), (2, .int e2), (1, .int e1), (0, .ref (ad 162))]) C0.1 C0.2.1 dX3_stepToNextOrder_89 rfl hl (by decide) rfl (fun ls hl => ?_)
        refine lv_aload_n (pc := 90) C0.1 C0.2.1 dX3_stepToNextOrder_90 rfl (lv_at hl 3 rfl) ?_
        refine x_get (pc := 91) (v := .ref (ad (132 + 9))) C0 hK hw (by decide) ly_P rfl inX3 2 (by decide) wf_X3_21 rfl rfl dX3_stepToNextOrder_91 ?_
        refine x_get (pc := 94) (v := .int (q3.1 (132 + 9) 4)) C0 hK hw (jy_B (by decide)) (ly_B (by decide)) rfl inX0 4 (by decide) wf_X3_42 rfl rfl dX3_stepToNextOrder_94 ?_
        refine lv_iconst (v := 1) (pc := 97) C0.1 C0.2.1 dX3_stepToNextOrder_97 (by decide) ?_
        refine lv_isub (pc := 98) C0.1 C0.2.1 dX3_stepToNextOrder_98 ?_
        refine lv_istore (pc := 99) (lv' := [(4, .int ((q3.1 (132 + 9) 4) - 1)), (3, .int (e1 + 1)), (2, .int e2), (1, .int e1), (0, .ref (ad 162))]) C0.1 C0.2.1 dX3_stepToNextOrder_99 hl (by decide) rfl (fun ls hl => ?_)
        obtain ⟨e4, he4, hf⟩ := bd_e hf
        refine X_loop (pc := 101) (xpc := 123) (fu := fun a1 => a1.2.2) (fl := fun a1 => [(4, .int a1.2.1), (3, .int a1.1), (2, .int e2), (1, .int e1), (0, .ref (ad 162))]) (fun a1 r hf hE hG H locs ls hw hl => ?_) he4 (fun H locs ls hw hl => ?_) hw hl
        · unfold gX3_stepToNextOrder_101 at hf
          refine lv_iload_n (pc := 101) C0.1 C0.2.1 dX3_stepToNextOrder_101 rfl (lv_at hl 1 rfl) ?_
          refine lv_iload (pc := 102) C0.1 C0.2.1 dX3_stepToNextOrder_102 (lv_at hl 0 rfl) ?_
          refine lv_icmp_ge (tgt := 123) (pc := 104) C0.1 C0.2.1 dX3_stepToNextOrder_104 (by decide) (fun hc => ?_) (fun hc => ?_)
          · have hf := if_t hf hc
            exact hE _ (Option.some.inj hf).symm H locs ls hw (lv_sub hl [0, 1, 2, 3, 4] rfl)
          · have hf := if_f hf hc
            refine lv_aload_n (pc := 107) C0.1 C0.2.1 dX3_stepToNextOrder_107 rfl (lv_at hl 4 rfl) ?_
            refine lv_iload_n (pc := 108) C0.1 C0.2.1 dX3_stepToNextOrder_108 rfl (lv_at hl 1 rfl) ?_
            refine lv_iload (pc := 109) C0.1 C0.2.1 dX3_stepToNextOrder_109 (lv_at hl 0 rfl) ?_
            obtain ⟨q5, hq5, hf⟩ := bd_e hf
            refine x_backv (pc := 111) hw (x_runV (pc := 111) (As := [.int a1.1, .int a1.2.1]) (rest := []) C0 hK hw hl.1 ⟨Nat.zero_le _, Nat.zero_le _⟩ (kX3_swap l D y ad hI a1.1 a1.2.1 a1.2.2 hq5) (by decide) ly_P rfl rfl wc_X3_swap wm_X3_139 wi_X3_swap ws_X3_swap wn_X3 ⟨rfl, rfl⟩ hd_X3_swap rfl ⟨Nat.le_of_ble_eq_true rfl, Nat.le_of_ble_eq_true rfl⟩ (Nat.le_of_ble_eq_true rfl) dX3_stepToNextOrder_111) (fun H locs hw => ?_)
            refine lv_iinc (pc := 114) (v := a1.1 + 1) (lv' := [(3, .int (a1.1 + 1)), (4, .int a1.2.1), (2, .int e2), (1, .int e1), (0, .ref (ad 162))]) C0.1 C0.2.1 dX3_stepToNextOrder_114 hl (k := 1) rfl rfl (by decide) rfl (fun ls hl => ?_)
            refine lv_iinc (pc := 117) (v := a1.2.1 + (-1)) (lv' := [(4, .int (a1.2.1 + (-1))), (3, .int (a1.1 + 1)), (2, .int e2), (1, .int e1), (0, .ref (ad 162))]) C0.1 C0.2.1 dX3_stepToNextOrder_117 hl (k := 1) rfl (congrArg (HAdd.hAdd _) (by decide)) (by decide) rfl (fun ls hl => ?_)
            refine lv_goto (tgt := 101) (pc := 120) C0.1 C0.2.1 dX3_stepToNextOrder_120 (by decide) ?_
            exact hG _ (Option.some.inj hf).symm H locs ls hw (lv_sub hl [0, 1, 2, 3, 4] rfl)
        · skip
          refine lv_iload_n (pc := 123) C0.1 C0.2.1 dX3_stepToNextOrder_123 rfl (lv_at hl 3 rfl) ?_
          exact x_iret (pc := 124) C0 hK hk hr hw (Option.some.inj hf) dX3_stepToNextOrder_124
    · have hf := if_f hf hc
      refine lv_bipush (v := (-9)) (pc := 41) C0.1 C0.2.1 dX3_stepToNextOrder_41 (by decide) ?_
      exact x_iret (pc := 43) C0 hK hk hr hw (Option.some.inj hf) dX3_stepToNextOrder_43
def wX3_packByBest : List Cond := .code yX3_packByBest cX3_packByBest 4 none :: lwT
def rX3_packByBest : Room := { frames := 5, cells := 0, slots := 0, locals := 128 }
set_option maxRecDepth 100000 in
set_option maxHeartbeats 4000000 in
theorem kX3_packByBest (l : Launch) (D : va_G) (y : Nat → ClassId) (ad : Nat → Nat) (hI : XI ad 168) (v1 : Nat) (hv1 : v1 < 11) (u : S) {o : S} (hf : fX3_packByBest v1 u = some o) : Met l yX3_packByBest wX3_packByBest rX3_packByBest (va_Pc [.ref (ad 162), .ref (ad (132 + v1))] (XW D y ad LX 168 u)) (XQv D y ad LX 168 o) 0 0 (XA ad 168) := by
  refine x_met (bytes := cX3_packByBest) (maxL := 4) (ret := none) (own := RX3) (by decide) rfl rfl (Nat.le_of_ble_eq_true rfl) (fun p e s m below meth c ls C0 hK hk hr hw hl => ?_)
  have hl : lv_has ls 4 [(0, .ref (ad 162)), (1, .ref (ad (132 + v1)))] := hl
  unfold fX3_packByBest at hf
  refine lv_aload_n (pc := 0) C0.1 C0.2.1 dX3_packByBest_0 rfl (lv_at hl 0 rfl) ?_
  refine x_get (pc := 1) (v := .ref (ad (132 + 9))) C0 hK hw (by decide) ly_P rfl inX3 2 (by decide) wf_X3_21 rfl rfl dX3_packByBest_1 ?_
  refine lv_aload_n (pc := 4) C0.1 C0.2.1 dX3_packByBest_4 rfl (lv_at hl 1 rfl) ?_
  obtain ⟨q1, hq1, hf⟩ := bd_e hf
  refine x_backv (pc := 5) hw (x_runV (pc := 5) (As := [.ref (ad (132 + v1))]) (rest := []) C0 hK hw hl.1 ⟨Nat.zero_le _, Nat.zero_le _⟩ (kX0_copyFrom l D y ad hI 9 (by decide) v1 hv1 u hq1) (jy_B (by decide)) (ly_B (by decide)) rfl rfl wc_X0_copyFrom wm_X3_38 wi_X0_copyFrom ws_X0_copyFrom wn_X0 ⟨rfl, rfl⟩ hd_X0_copyFrom rfl ⟨Nat.le_of_ble_eq_true rfl, Nat.le_of_ble_eq_true rfl⟩ (Nat.le_of_ble_eq_true rfl) dX3_packByBest_5) (fun H locs hw => ?_)
  refine lv_iconst (v := 0) (pc := 8) C0.1 C0.2.1 dX3_packByBest_8 (by decide) ?_
  refine lv_istore_n (pc := 9) (lv' := [(2, .int 0), (0, .ref (ad 162)), (1, .ref (ad (132 + v1)))]) C0.1 C0.2.1 dX3_packByBest_9 rfl hl (by decide) rfl (fun ls hl => ?_)
  obtain ⟨e2, he2, hf⟩ := bd_e hf
  refine X_loop (pc := 10) (xpc := 34) (fu := fun a1 => a1.2) (fl := fun a1 => [(2, .int a1.1), (0, .ref (ad 162)), (1, .ref (ad (132 + v1)))]) (fun a1 r hf hE hG H locs ls hw hl => ?_) he2 (fun H locs ls hw hl => ?_) hw hl
  · unfold gX3_packByBest_10 at hf
    refine lv_iload_n (pc := 10) C0.1 C0.2.1 dX3_packByBest_10 rfl (lv_at hl 0 rfl) ?_
    refine lv_aload_n (pc := 11) C0.1 C0.2.1 dX3_packByBest_11 rfl (lv_at hl 1 rfl) ?_
    refine x_get (pc := 12) (v := .ref (ad (132 + 9))) C0 hK hw (by decide) ly_P rfl inX3 2 (by decide) wf_X3_21 rfl rfl dX3_packByBest_12 ?_
    refine x_get (pc := 15) (v := .int (a1.2.1 (132 + 9) 4)) C0 hK hw (jy_B (by decide)) (ly_B (by decide)) rfl inX0 4 (by decide) wf_X3_42 rfl rfl dX3_packByBest_15 ?_
    refine lv_icmp_ge (tgt := 34) (pc := 18) C0.1 C0.2.1 dX3_packByBest_18 (by decide) (fun hc => ?_) (fun hc => ?_)
    · have hf := if_t hf hc
      exact hE _ (Option.some.inj hf).symm H locs ls hw (lv_sub hl [0, 1, 2] rfl)
    · have hf := if_f hf hc
      refine lv_aload_n (pc := 21) C0.1 C0.2.1 dX3_packByBest_21 rfl (lv_at hl 1 rfl) ?_
      refine x_get (pc := 22) (v := .ref (ad (163 + 2))) C0 hK hw (by decide) ly_P rfl inX3 3 (by decide) wf_X3_25 rfl rfl dX3_packByBest_22 ?_
      refine lv_iload_n (pc := 25) C0.1 C0.2.1 dX3_packByBest_25 rfl (lv_at hl 0 rfl) ?_
      refine lv_iload_n (pc := 26) C0.1 C0.2.1 dX3_packByBest_26 rfl (lv_at hl 0 rfl) ?_
      obtain ⟨hi, hf⟩ := gd_e hf
      obtain ⟨u3, hu, hf⟩ := nm_f hf
      refine x_iast (pc := 27) hI C0 hK hw (jy_O (by decide)) (ly_O (by decide)) hi hu dX3_packByBest_27 (fun H locs hw => ?_)
      refine lv_iinc (pc := 28) (v := a1.1 + 1) (lv' := [(2, .int (a1.1 + 1)), (0, .ref (ad 162)), (1, .ref (ad (132 + v1)))]) C0.1 C0.2.1 dX3_packByBest_28 hl (k := 0) rfl rfl (by decide) rfl (fun ls hl => ?_)
      refine lv_goto (tgt := 10) (pc := 31) C0.1 C0.2.1 dX3_packByBest_31 (by decide) ?_
      exact hG _ (Option.some.inj hf).symm H locs ls hw (lv_sub hl [0, 1, 2] rfl)
  · skip
    refine lv_iconst (v := 0) (pc := 34) C0.1 C0.2.1 dX3_packByBest_34 (by decide) ?_
    refine lv_istore_n (pc := 35) (lv' := [(2, .int 0), (0, .ref (ad 162)), (1, .ref (ad (132 + v1)))]) C0.1 C0.2.1 dX3_packByBest_35 rfl hl (by decide) rfl (fun ls hl => ?_)
    refine lv_iconst (v := 0) (pc := 36) C0.1 C0.2.1 dX3_packByBest_36 (by decide) ?_
    refine lv_istore_n (pc := 37) (lv' := [(3, .int 0), (2, .int 0), (0, .ref (ad 162)), (1, .ref (ad (132 + v1)))]) C0.1 C0.2.1 dX3_packByBest_37 rfl hl (by decide) rfl (fun ls hl => ?_)
    obtain ⟨e4, he4, hf⟩ := bd_e hf
    refine X_loop (pc := 38) (xpc := 116) (fu := fun a1 => a1.2.2) (fl := fun a1 => [(3, .int a1.2.1), (2, .int a1.1), (0, .ref (ad 162)), (1, .ref (ad (132 + v1)))]) (fun a1 r hf hE hG H locs ls hw hl => ?_) he4 (fun H locs ls hw hl => ?_) hw hl
    · unfold gX3_packByBest_38 at hf
      refine lv_iload_n (pc := 38) C0.1 C0.2.1 dX3_packByBest_38 rfl (lv_at hl 0 rfl) ?_
      refine lv_bipush (v := 120) (pc := 39) C0.1 C0.2.1 dX3_packByBest_39 (by decide) ?_
      refine lv_icmp_ge (tgt := 116) (pc := 41) C0.1 C0.2.1 dX3_packByBest_41 (by decide) (fun hc => ?_) (fun hc => ?_)
      · have hf := if_t hf hc
        exact hE _ (Option.some.inj hf).symm H locs ls hw (lv_sub hl [0, 1, 2, 3] rfl)
      · have hf := if_f hf hc
        refine lv_iload_n (pc := 44) C0.1 C0.2.1 dX3_packByBest_44 rfl (lv_at hl 1 rfl) ?_
        refine lv_if_lt (tgt := 116) (pc := 45) C0.1 C0.2.1 dX3_packByBest_45 (by decide) (fun hc => ?_) (fun hc => ?_)
        · have hf := if_t hf hc
          exact hE _ (Option.some.inj hf).symm H locs ls hw (lv_sub hl [0, 1, 2, 3] rfl)
        · have hf := if_f hf hc
          refine lv_aload_n (pc := 48) C0.1 C0.2.1 dX3_packByBest_48 rfl (lv_at hl 2 rfl) ?_
          refine lv_aload_n (pc := 49) C0.1 C0.2.1 dX3_packByBest_49 rfl (lv_at hl 2 rfl) ?_
          refine x_get (pc := 50) (v := .ref (ad (163 + 2))) C0 hK hw (by decide) ly_P rfl inX3 3 (by decide) wf_X3_25 rfl rfl dX3_packByBest_50 ?_
          refine lv_iload_n (pc := 53) C0.1 C0.2.1 dX3_packByBest_53 rfl (lv_at hl 1 rfl) ?_
          obtain ⟨q5, hq5, hf⟩ := bd_e hf
          refine x_backv (pc := 54) hw (x_runV (pc := 54) (As := [.ref (ad (163 + 2)), .int a1.1]) (rest := []) C0 hK hw hl.1 ⟨Nat.zero_le _, Nat.zero_le _⟩ (kX3_letDownFrom l D y ad hI 2 (by decide) a1.1 a1.2.2 hq5) (by decide) ly_P rfl rfl wc_X3_letDownFrom wm_X3_54 wi_X3_letDownFrom ws_X3_letDownFrom wn_X3 ⟨rfl, rfl⟩ hd_X3_letDownFrom rfl ⟨Nat.le_of_ble_eq_true rfl, Nat.le_of_ble_eq_true rfl⟩ (Nat.le_of_ble_eq_true rfl) dX3_packByBest_54) (fun H locs hw => ?_)
          refine lv_aload_n (pc := 57) C0.1 C0.2.1 dX3_packByBest_57 rfl (lv_at hl 2 rfl) ?_
          refine lv_aload_n (pc := 58) C0.1 C0.2.1 dX3_packByBest_58 rfl (lv_at hl 2 rfl) ?_
          refine x_get (pc := 59) (v := .ref (ad (163 + 3))) C0 hK hw (by decide) ly_P rfl inX3 4 (by decide) wf_X3_28 rfl rfl dX3_packByBest_59 ?_
          obtain ⟨q6, hq6, hf⟩ := bd_e hf
          refine x_backv (pc := 62) hw (x_runV (pc := 62) (As := [.ref (ad (163 + 3))]) (rest := []) C0 hK hw hl.1 ⟨Nat.zero_le _, Nat.zero_le _⟩ (kX3_measure l D y ad hI 3 (by decide) q5 hq6) (by decide) ly_P rfl rfl wc_X3_measure wm_X3_58 wi_X3_measure ws_X3_measure wn_X3 ⟨rfl, rfl⟩ hd_X3_measure rfl ⟨Nat.le_of_ble_eq_true rfl, Nat.le_of_ble_eq_true rfl⟩ (Nat.le_of_ble_eq_true rfl) dX3_packByBest_62) (fun H locs hw => ?_)
          refine lv_iload_n (pc := 65) C0.1 C0.2.1 dX3_packByBest_65 rfl (lv_at hl 0 rfl) ?_
          refine lv_if_eq (tgt := 76) (pc := 66) C0.1 C0.2.1 dX3_packByBest_66 (by decide) (fun hc => ?_) (fun hc => ?_)
          · have hf := if_t hf hc
            refine lv_aload_n (pc := 76) C0.1 C0.2.1 dX3_packByBest_76 rfl (lv_at hl 2 rfl) ?_
            refine x_get (pc := 77) (v := .ref (ad (163 + 2))) C0 hK hw (by decide) ly_P rfl inX3 3 (by decide) wf_X3_25 rfl rfl dX3_packByBest_77 ?_
            refine lv_iconst (v := 0) (pc := 80) C0.1 C0.2.1 dX3_packByBest_80 (by decide) ?_
            refine lv_aload_n (pc := 81) C0.1 C0.2.1 dX3_packByBest_81 rfl (lv_at hl 2 rfl) ?_
            refine x_get (pc := 82) (v := .ref (ad (163 + 0))) C0 hK hw (by decide) ly_P rfl inX3 0 (by decide) wf_X3_9 rfl rfl dX3_packByBest_82 ?_
            refine lv_iconst (v := 0) (pc := 85) C0.1 C0.2.1 dX3_packByBest_85 (by decide) ?_
            refine lv_bipush (v := 12) (pc := 86) C0.1 C0.2.1 dX3_packByBest_86 (by decide) ?_
            obtain ⟨u7, hu, hf⟩ := nm_f hf
            refine x_copy (pc := 88) hI C0 hK hw hl.1 wm_X3_75 wnat_acopy wt_acopy wn_Sys (jy_O (by decide)) (ly_O (by decide)) (jy_O (by decide)) (ly_O (by decide)) (by decide) (by decide) hu rfl (Nat.le_of_ble_eq_true rfl) (Nat.le_of_ble_eq_true rfl) dX3_packByBest_88 (fun H locs hw => ?_)
            refine lv_aload_n (pc := 91) C0.1 C0.2.1 dX3_packByBest_91 rfl (lv_at hl 2 rfl) ?_
            refine x_get (pc := 92) (v := .ref (ad (163 + 3))) C0 hK hw (by decide) ly_P rfl inX3 4 (by decide) wf_X3_28 rfl rfl dX3_packByBest_92 ?_
            refine lv_iconst (v := 0) (pc := 95) C0.1 C0.2.1 dX3_packByBest_95 (by decide) ?_
            refine lv_aload_n (pc := 96) C0.1 C0.2.1 dX3_packByBest_96 rfl (lv_at hl 2 rfl) ?_
            refine x_get (pc := 97) (v := .ref (ad (163 + 1))) C0 hK hw (by decide) ly_P rfl inX3 1 (by decide) wf_X3_15 rfl rfl dX3_packByBest_97 ?_
            refine lv_iconst (v := 0) (pc := 100) C0.1 C0.2.1 dX3_packByBest_100 (by decide) ?_
            refine lv_iconst (v := 4) (pc := 101) C0.1 C0.2.1 dX3_packByBest_101 (by decide) ?_
            obtain ⟨u8, hu, hf⟩ := nm_f hf
            refine x_copy (pc := 102) hI C0 hK hw hl.1 wm_X3_75 wnat_acopy wt_acopy wn_Sys (jy_O (by decide)) (ly_O (by decide)) (jy_O (by decide)) (ly_O (by decide)) (by decide) (by decide) hu rfl (Nat.le_of_ble_eq_true rfl) (Nat.le_of_ble_eq_true rfl) dX3_packByBest_102 (fun H locs hw => ?_)
            refine lv_aload_n (pc := 105) C0.1 C0.2.1 dX3_packByBest_105 rfl (lv_at hl 2 rfl) ?_
            obtain ⟨q9, hq9, hf⟩ := bd_e hf
            refine x_back (pc := 106) hw (x_runV (pc := 106) (As := []) (rest := []) C0 hK hw hl.1 ⟨Nat.zero_le _, Nat.zero_le _⟩ (kX3_stepToNextOrder l D y ad hI  u8 hq9) (by decide) ly_P rfl rfl wc_X3_stepToNextOrder wm_X3_81 wi_X3_stepToNextOrder ws_X3_stepToNextOrder wn_X3 ⟨rfl, rfl⟩ hd_X3_stepToNextOrder rfl ⟨Nat.le_of_ble_eq_true rfl, Nat.le_of_ble_eq_true rfl⟩ (Nat.le_of_ble_eq_true rfl) dX3_packByBest_106) (fun H locs hw => ?_)
            refine lv_istore_n (pc := 109) (lv' := [(2, .int q9.1), (3, .int a1.2.1), (0, .ref (ad 162)), (1, .ref (ad (132 + v1)))]) C0.1 C0.2.1 dX3_packByBest_109 rfl hl (by decide) rfl (fun ls hl => ?_)
            refine lv_iinc (pc := 110) (v := a1.2.1 + 1) (lv' := [(3, .int (a1.2.1 + 1)), (2, .int q9.1), (0, .ref (ad 162)), (1, .ref (ad (132 + v1)))]) C0.1 C0.2.1 dX3_packByBest_110 hl (k := 1) rfl rfl (by decide) rfl (fun ls hl => ?_)
            refine lv_goto (tgt := 38) (pc := 113) C0.1 C0.2.1 dX3_packByBest_113 (by decide) ?_
            exact hG _ (Option.some.inj hf).symm H locs ls hw (lv_sub hl [0, 1, 2, 3] rfl)
          · have hf := if_f hf hc
            refine lv_aload_n (pc := 69) C0.1 C0.2.1 dX3_packByBest_69 rfl (lv_at hl 2 rfl) ?_
            obtain ⟨q10, hq10, hf⟩ := bd_e hf
            refine x_backp (pc := 70) hw (x_runV (pc := 70) (As := []) (rest := []) C0 hK hw hl.1 ⟨Nat.zero_le _, Nat.zero_le _⟩ (kX3_isTriedBetter l D y ad hI  q6 hq10) (by decide) ly_P rfl rfl wc_X3_isTriedBetter wm_X3_71 wi_X3_isTriedBetter ws_X3_isTriedBetter wn_X3 ⟨rfl, rfl⟩ hd_X3_isTriedBetter rfl ⟨Nat.le_of_ble_eq_true rfl, Nat.le_of_ble_eq_true rfl⟩ (Nat.le_of_ble_eq_true rfl) dX3_packByBest_70) (fun H locs hw => ?_)
            refine lv_if_eq (tgt := 105) (pc := 73) C0.1 C0.2.1 dX3_packByBest_73 (by decide) (fun hc => ?_) (fun hc => ?_)
            · have hf := if_t hf hc
              refine lv_aload_n (pc := 105) C0.1 C0.2.1 dX3_packByBest_105 rfl (lv_at hl 2 rfl) ?_
              obtain ⟨q11, hq11, hf⟩ := bd_e hf
              refine x_back (pc := 106) hw (x_runV (pc := 106) (As := []) (rest := []) C0 hK hw hl.1 ⟨Nat.zero_le _, Nat.zero_le _⟩ (kX3_stepToNextOrder l D y ad hI  q6 hq11) (by decide) ly_P rfl rfl wc_X3_stepToNextOrder wm_X3_81 wi_X3_stepToNextOrder ws_X3_stepToNextOrder wn_X3 ⟨rfl, rfl⟩ hd_X3_stepToNextOrder rfl ⟨Nat.le_of_ble_eq_true rfl, Nat.le_of_ble_eq_true rfl⟩ (Nat.le_of_ble_eq_true rfl) dX3_packByBest_106) (fun H locs hw => ?_)
              refine lv_istore_n (pc := 109) (lv' := [(2, .int q11.1), (3, .int a1.2.1), (0, .ref (ad 162)), (1, .ref (ad (132 + v1)))]) C0.1 C0.2.1 dX3_packByBest_109 rfl hl (by decide) rfl (fun ls hl => ?_)
              refine lv_iinc (pc := 110) (v := a1.2.1 + 1) (lv' := [(3, .int (a1.2.1 + 1)), (2, .int q11.1), (0, .ref (ad 162)), (1, .ref (ad (132 + v1)))]) C0.1 C0.2.1 dX3_packByBest_110 hl (k := 1) rfl rfl (by decide) rfl (fun ls hl => ?_)
              refine lv_goto (tgt := 38) (pc := 113) C0.1 C0.2.1 dX3_packByBest_113 (by decide) ?_
              exact hG _ (Option.some.inj hf).symm H locs ls hw (lv_sub hl [0, 1, 2, 3] rfl)
            · have hf := if_f hf hc
              refine lv_aload_n (pc := 76) C0.1 C0.2.1 dX3_packByBest_76 rfl (lv_at hl 2 rfl) ?_
              refine x_get (pc := 77) (v := .ref (ad (163 + 2))) C0 hK hw (by decide) ly_P rfl inX3 3 (by decide) wf_X3_25 rfl rfl dX3_packByBest_77 ?_
              refine lv_iconst (v := 0) (pc := 80) C0.1 C0.2.1 dX3_packByBest_80 (by decide) ?_
              refine lv_aload_n (pc := 81) C0.1 C0.2.1 dX3_packByBest_81 rfl (lv_at hl 2 rfl) ?_
              refine x_get (pc := 82) (v := .ref (ad (163 + 0))) C0 hK hw (by decide) ly_P rfl inX3 0 (by decide) wf_X3_9 rfl rfl dX3_packByBest_82 ?_
              refine lv_iconst (v := 0) (pc := 85) C0.1 C0.2.1 dX3_packByBest_85 (by decide) ?_
              refine lv_bipush (v := 12) (pc := 86) C0.1 C0.2.1 dX3_packByBest_86 (by decide) ?_
              obtain ⟨u12, hu, hf⟩ := nm_f hf
              refine x_copy (pc := 88) hI C0 hK hw hl.1 wm_X3_75 wnat_acopy wt_acopy wn_Sys (jy_O (by decide)) (ly_O (by decide)) (jy_O (by decide)) (ly_O (by decide)) (by decide) (by decide) hu rfl (Nat.le_of_ble_eq_true rfl) (Nat.le_of_ble_eq_true rfl) dX3_packByBest_88 (fun H locs hw => ?_)
              refine lv_aload_n (pc := 91) C0.1 C0.2.1 dX3_packByBest_91 rfl (lv_at hl 2 rfl) ?_
              refine x_get (pc := 92) (v := .ref (ad (163 + 3))) C0 hK hw (by decide) ly_P rfl inX3 4 (by decide) wf_X3_28 rfl rfl dX3_packByBest_92 ?_
              refine lv_iconst (v := 0) (pc := 95) C0.1 C0.2.1 dX3_packByBest_95 (by decide) ?_
              refine lv_aload_n (pc := 96) C0.1 C0.2.1 dX3_packByBest_96 rfl (lv_at hl 2 rfl) ?_
              refine x_get (pc := 97) (v := .ref (ad (163 + 1))) C0 hK hw (by decide) ly_P rfl inX3 1 (by decide) wf_X3_15 rfl rfl dX3_packByBest_97 ?_
              refine lv_iconst (v := 0) (pc := 100) C0.1 C0.2.1 dX3_packByBest_100 (by decide) ?_
              refine lv_iconst (v := 4) (pc := 101) C0.1 C0.2.1 dX3_packByBest_101 (by decide) ?_
              obtain ⟨u13, hu, hf⟩ := nm_f hf
              refine x_copy (pc := 102) hI C0 hK hw hl.1 wm_X3_75 wnat_acopy wt_acopy wn_Sys (jy_O (by decide)) (ly_O (by decide)) (jy_O (by decide)) (ly_O (by decide)) (by decide) (by decide) hu rfl (Nat.le_of_ble_eq_true rfl) (Nat.le_of_ble_eq_true rfl) dX3_packByBest_102 (fun H locs hw => ?_)
              refine lv_aload_n (pc := 105) C0.1 C0.2.1 dX3_packByBest_105 rfl (lv_at hl 2 rfl) ?_
              obtain ⟨q14, hq14, hf⟩ := bd_e hf
              refine x_back (pc := 106) hw (x_runV (pc := 106) (As := []) (rest := []) C0 hK hw hl.1 ⟨Nat.zero_le _, Nat.zero_le _⟩ (kX3_stepToNextOrder l D y ad hI  u13 hq14) (by decide) ly_P rfl rfl wc_X3_stepToNextOrder wm_X3_81 wi_X3_stepToNextOrder ws_X3_stepToNextOrder wn_X3 ⟨rfl, rfl⟩ hd_X3_stepToNextOrder rfl ⟨Nat.le_of_ble_eq_true rfl, Nat.le_of_ble_eq_true rfl⟩ (Nat.le_of_ble_eq_true rfl) dX3_packByBest_106) (fun H locs hw => ?_)
              refine lv_istore_n (pc := 109) (lv' := [(2, .int q14.1), (3, .int a1.2.1), (0, .ref (ad 162)), (1, .ref (ad (132 + v1)))]) C0.1 C0.2.1 dX3_packByBest_109 rfl hl (by decide) rfl (fun ls hl => ?_)
              refine lv_iinc (pc := 110) (v := a1.2.1 + 1) (lv' := [(3, .int (a1.2.1 + 1)), (2, .int q14.1), (0, .ref (ad 162)), (1, .ref (ad (132 + v1)))]) C0.1 C0.2.1 dX3_packByBest_110 hl (k := 1) rfl rfl (by decide) rfl (fun ls hl => ?_)
              refine lv_goto (tgt := 38) (pc := 113) C0.1 C0.2.1 dX3_packByBest_113 (by decide) ?_
              exact hG _ (Option.some.inj hf).symm H locs ls hw (lv_sub hl [0, 1, 2, 3] rfl)
    · skip
      refine lv_aload_n (pc := 116) C0.1 C0.2.1 dX3_packByBest_116 rfl (lv_at hl 2 rfl) ?_
      refine lv_aload_n (pc := 117) C0.1 C0.2.1 dX3_packByBest_117 rfl (lv_at hl 2 rfl) ?_
      refine x_get (pc := 118) (v := .ref (ad (163 + 0))) C0 hK hw (by decide) ly_P rfl inX3 0 (by decide) wf_X3_9 rfl rfl dX3_packByBest_118 ?_
      refine lv_iconst (v := 0) (pc := 121) C0.1 C0.2.1 dX3_packByBest_121 (by decide) ?_
      obtain ⟨q15, hq15, hf⟩ := bd_e hf
      refine x_backv (pc := 122) hw (x_runV (pc := 122) (As := [.ref (ad (163 + 0)), .int 0]) (rest := []) C0 hK hw hl.1 ⟨Nat.zero_le _, Nat.zero_le _⟩ (kX3_letDownFrom l D y ad hI 0 (by decide) 0 e4.2.2 hq15) (by decide) ly_P rfl rfl wc_X3_letDownFrom wm_X3_54 wi_X3_letDownFrom ws_X3_letDownFrom wn_X3 ⟨rfl, rfl⟩ hd_X3_letDownFrom rfl ⟨Nat.le_of_ble_eq_true rfl, Nat.le_of_ble_eq_true rfl⟩ (Nat.le_of_ble_eq_true rfl) dX3_packByBest_122) (fun H locs hw => ?_)
      exact x_vret (pc := 125) C0 hK hk hr hw (Option.some.inj hf) dX3_packByBest_125
