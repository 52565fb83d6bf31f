def wX6_setBox : List Cond := .code yX6_setBox cX6_setBox 5 (some .int) :: lwT
def rX6_setBox : Room := { frames := 4, cells := 0, slots := 0, locals := 85 }
set_option maxRecDepth 100000 in
set_option maxHeartbeats 4000000 in
theorem kX6_setBox (l : Launch) (D : va_G) (y : Nat → ClassId) (ad : Nat → Nat) (hI : XI ad 168) (v1 : Int32) (v2 : Int32) (v3 : Int32) (u : S) {o : Int32 × S} (hf : fX6_setBox v1 v2 v3 u = some o) : Met l yX6_setBox wX6_setBox rX6_setBox (va_Pc [.ref (ad 167), .int v1, .int v2, .int v3] (XW D y ad LX 168 u)) (XQi D y ad LX 168 o) 0 0 (XA ad 168) := by
  refine x_met (bytes := cX6_setBox) (maxL := 5) (ret := (some .int)) (own := RX6) (by decide) rfl rfl (Nat.le_of_ble_eq_true rfl) (fun p e s m below meth c ls C0 hK hk hr hw hl => ?_)
  have hl : lv_has ls 5 [(0, .ref (ad 167)), (1, .int v1), (2, .int v2), (3, .int v3)] := hl
  unfold fX6_setBox at hf
  refine lv_iload_n (pc := 0) C0.1 C0.2.1 dX6_setBox_0 rfl (lv_at hl 1 rfl) ?_
  refine lv_iconst (v := 2) (pc := 1) C0.1 C0.2.1 dX6_setBox_1 (by decide) ?_
  refine lv_bipush (v := 10) (pc := 2) C0.1 C0.2.1 dX6_setBox_2 (by decide) ?_
  obtain ⟨q1, hq1, hf⟩ := bd_e hf
  refine x_backp (pc := 4) hw (x_runS (pc := 4) (As := [.int v1, .int 2, .int 10]) (rest := []) C0 hK hw hl.1 ⟨Nat.zero_le _, Nat.zero_le _⟩ (kX6_isWithin l D y ad hI v1 2 10 u hq1) rfl wc_X6_isWithin wm_X6_44 wt_X6_isWithin wn_X6 ⟨rfl, rfl⟩ hd_X6_isWithin rfl ⟨Nat.le_of_ble_eq_true rfl, Nat.le_of_ble_eq_true rfl⟩ (Nat.le_of_ble_eq_true rfl) dX6_setBox_4) (fun H locs hw => ?_)
  refine lv_if_eq (tgt := 30) (pc := 7) C0.1 C0.2.1 dX6_setBox_7 (by decide) (fun hc => ?_) (fun hc => ?_)
  · have hf := if_t hf hc
    refine lv_iconst (v := (-1)) (pc := 30) C0.1 C0.2.1 dX6_setBox_30 (by decide) ?_
    exact x_iret (pc := 31) C0 hK hk hr hw (Option.some.inj hf) dX6_setBox_31
  · have hf := if_f hf hc
    refine lv_iload_n (pc := 10) C0.1 C0.2.1 dX6_setBox_10 rfl (lv_at hl 2 rfl) ?_
    refine lv_iconst (v := 2) (pc := 11) C0.1 C0.2.1 dX6_setBox_11 (by decide) ?_
    refine lv_bipush (v := 10) (pc := 12) C0.1 C0.2.1 dX6_setBox_12 (by decide) ?_
    obtain ⟨q2, hq2, hf⟩ := bd_e hf
    refine x_backp (pc := 14) hw (x_runS (pc := 14) (As := [.int v2, .int 2, .int 10]) (rest := []) C0 hK hw hl.1 ⟨Nat.zero_le _, Nat.zero_le _⟩ (kX6_isWithin l D y ad hI v2 2 10 u hq2) rfl wc_X6_isWithin wm_X6_44 wt_X6_isWithin wn_X6 ⟨rfl, rfl⟩ hd_X6_isWithin rfl ⟨Nat.le_of_ble_eq_true rfl, Nat.le_of_ble_eq_true rfl⟩ (Nat.le_of_ble_eq_true rfl) dX6_setBox_14) (fun H locs hw => ?_)
    refine lv_if_eq (tgt := 30) (pc := 17) C0.1 C0.2.1 dX6_setBox_17 (by decide) (fun hc => ?_) (fun hc => ?_)
    · have hf := if_t hf hc
      refine lv_iconst (v := (-1)) (pc := 30) C0.1 C0.2.1 dX6_setBox_30 (by decide) ?_
      exact x_iret (pc := 31) C0 hK hk hr hw (Option.some.inj hf) dX6_setBox_31
    · have hf := if_f hf hc
      refine lv_iload_n (pc := 20) C0.1 C0.2.1 dX6_setBox_20 rfl (lv_at hl 3 rfl) ?_
      refine lv_iconst (v := 1) (pc := 21) C0.1 C0.2.1 dX6_setBox_21 (by decide) ?_
      refine lv_bipush (v := 30) (pc := 22) C0.1 C0.2.1 dX6_setBox_22 (by decide) ?_
      obtain ⟨q3, hq3, hf⟩ := bd_e hf
      refine x_backp (pc := 24) hw (x_runS (pc := 24) (As := [.int v3, .int 1, .int 30]) (rest := []) C0 hK hw hl.1 ⟨Nat.zero_le _, Nat.zero_le _⟩ (kX6_isWithin l D y ad hI v3 1 30 u hq3) rfl wc_X6_isWithin wm_X6_44 wt_X6_isWithin wn_X6 ⟨rfl, rfl⟩ hd_X6_isWithin rfl ⟨Nat.le_of_ble_eq_true rfl, Nat.le_of_ble_eq_true rfl⟩ (Nat.le_of_ble_eq_true rfl) dX6_setBox_24) (fun H locs hw => ?_)
      refine lv_if_ne (tgt := 32) (pc := 27) C0.1 C0.2.1 dX6_setBox_27 (by decide) (fun hc => ?_) (fun hc => ?_)
      · have hf := if_f hf hc
        refine lv_aload_n (pc := 32) C0.1 C0.2.1 dX6_setBox_32 rfl (lv_at hl 0 rfl) ?_
        refine x_get (pc := 33) (v := .ref (ad (132 + 0))) C0 hK hw (by decide) ly_M rfl inX6 0 (by decide) wf_X6_10 rfl rfl dX6_setBox_33 ?_
        obtain ⟨q4, hq4, hf⟩ := bd_e hf
        refine x_backp (pc := 36) hw (x_runV (pc := 36) (As := []) (rest := []) C0 hK hw hl.1 ⟨Nat.zero_le _, Nat.zero_le _⟩ (kX0_inside l D y ad hI 0 (by decide) u hq4) (jy_B (by decide)) (ly_B (by decide)) rfl rfl wc_X0_inside wm_X6_48 wi_X0_inside ws_X0_inside wn_X0 ⟨rfl, rfl⟩ hd_X0_inside rfl ⟨Nat.le_of_ble_eq_true rfl, Nat.le_of_ble_eq_true rfl⟩ (Nat.le_of_ble_eq_true rfl) dX6_setBox_36) (fun H locs hw => ?_)
        obtain ⟨q5, hq5, hf⟩ := bd_e hf
        refine x_backp (pc := 39) hw (x_runS (pc := 39) (As := [.int q4]) (rest := []) C0 hK hw hl.1 ⟨Nat.zero_le _, Nat.zero_le _⟩ (kJ6_bitCount_0f7a4 l D y ad hI q4 u hq5) rfl wc_J6_bitCount_0f7a4 wm_X6_52 wt_J6_bitCount_0f7a4 wn_J6 ⟨rfl, rfl⟩ hd_J6_bitCount_0f7a4 rfl ⟨Nat.le_of_ble_eq_true rfl, Nat.le_of_ble_eq_true rfl⟩ (Nat.le_of_ble_eq_true rfl) dX6_setBox_39) (fun H locs hw => ?_)
        refine lv_istore (pc := 42) (lv' := [(4, .int q5), (0, .ref (ad 167)), (1, .int v1), (2, .int v2), (3, .int v3)]) C0.1 C0.2.1 dX6_setBox_42 hl (by decide) rfl (fun ls hl => ?_)
        refine lv_aload_n (pc := 44) C0.1 C0.2.1 dX6_setBox_44 rfl (lv_at hl 1 rfl) ?_
        refine x_get (pc := 45) (v := .ref (ad 158)) C0 hK hw (by decide) ly_M rfl inX6 1 (by decide) wf_X6_19 rfl rfl dX6_setBox_45 ?_
        refine lv_aload_n (pc := 48) C0.1 C0.2.1 dX6_setBox_48 rfl (lv_at hl 1 rfl) ?_
        refine x_get (pc := 49) (v := .ref (ad (132 + 0))) C0 hK hw (by decide) ly_M rfl inX6 0 (by decide) wf_X6_10 rfl rfl dX6_setBox_49 ?_
        obtain ⟨q6, hq6, hf⟩ := bd_e hf
        refine x_backv (pc := 52) hw (x_runV (pc := 52) (As := [.ref (ad (132 + 0))]) (rest := []) C0 hK hw hl.1 ⟨Nat.zero_le _, Nat.zero_le _⟩ (kX2_record l D y ad hI 0 (by decide) u hq6) (by decide) ly_H rfl rfl wc_X2_record wm_X6_58 wi_X2_record ws_X2_record wn_X2 ⟨rfl, rfl⟩ hd_X2_record rfl ⟨Nat.le_of_ble_eq_true rfl, Nat.le_of_ble_eq_true rfl⟩ (Nat.le_of_ble_eq_true rfl) dX6_setBox_52) (fun H locs hw => ?_)
        refine lv_aload_n (pc := 55) C0.1 C0.2.1 dX6_setBox_55 rfl (lv_at hl 1 rfl) ?_
        refine x_get (pc := 56) (v := .ref (ad (132 + 0))) C0 hK hw (by decide) ly_M rfl inX6 0 (by decide) wf_X6_10 rfl rfl dX6_setBox_56 ?_
        obtain ⟨q7, hq7, hf⟩ := bd_e hf
        refine x_backv (pc := 59) hw (x_runV (pc := 59) (As := []) (rest := []) C0 hK hw hl.1 ⟨Nat.zero_le _, Nat.zero_le _⟩ (kX0_clear l D y ad hI 0 (by decide) q6 hq7) (jy_B (by decide)) (ly_B (by decide)) rfl rfl wc_X0_clear wm_X6_62 wi_X0_clear ws_X0_clear wn_X0 ⟨rfl, rfl⟩ hd_X0_clear rfl ⟨Nat.le_of_ble_eq_true rfl, Nat.le_of_ble_eq_true rfl⟩ (Nat.le_of_ble_eq_true rfl) dX6_setBox_59) (fun H locs hw => ?_)
        refine lv_aload_n (pc := 62) C0.1 C0.2.1 dX6_setBox_62 rfl (lv_at hl 1 rfl) ?_
        refine x_get (pc := 63) (v := .ref (ad (132 + 0))) C0 hK hw (by decide) ly_M rfl inX6 0 (by decide) wf_X6_10 rfl rfl dX6_setBox_63 ?_
        refine lv_iload_n (pc := 66) C0.1 C0.2.1 dX6_setBox_66 rfl (lv_at hl 2 rfl) ?_
        obtain ⟨u8, hu, hf⟩ := nm_f hf
        refine x_put (pc := 67) hI C0 hK hw (jy_B (by decide)) (ly_B (by decide)) rfl inX0 tyX0_ok nmX0 0 (by decide) wf_X6_65 rfl rfl rfl hu rfl rfl dX6_setBox_67 (fun H locs hw => ?_)
        refine lv_aload_n (pc := 70) C0.1 C0.2.1 dX6_setBox_70 rfl (lv_at hl 1 rfl) ?_
        refine x_get (pc := 71) (v := .ref (ad (132 + 0))) C0 hK hw (by decide) ly_M rfl inX6 0 (by decide) wf_X6_10 rfl rfl dX6_setBox_71 ?_
        refine lv_iload_n (pc := 74) C0.1 C0.2.1 dX6_setBox_74 rfl (lv_at hl 3 rfl) ?_
        obtain ⟨u9, hu, hf⟩ := nm_f hf
        refine x_put (pc := 75) hI C0 hK hw (jy_B (by decide)) (ly_B (by decide)) rfl inX0 tyX0_ok nmX0 1 (by decide) wf_X6_69 rfl rfl rfl hu rfl rfl dX6_setBox_75 (fun H locs hw => ?_)
        refine lv_aload_n (pc := 78) C0.1 C0.2.1 dX6_setBox_78 rfl (lv_at hl 1 rfl) ?_
        refine x_get (pc := 79) (v := .ref (ad (132 + 0))) C0 hK hw (by decide) ly_M rfl inX6 0 (by decide) wf_X6_10 rfl rfl dX6_setBox_79 ?_
        refine lv_iload_n (pc := 82) C0.1 C0.2.1 dX6_setBox_82 rfl (lv_at hl 4 rfl) ?_
        obtain ⟨u10, hu, hf⟩ := nm_f hf
        refine x_put (pc := 83) hI C0 hK hw (jy_B (by decide)) (ly_B (by decide)) rfl inX0 tyX0_ok nmX0 2 (by decide) wf_X6_72 rfl rfl rfl hu rfl rfl dX6_setBox_83 (fun H locs hw => ?_)
        refine lv_iload (pc := 86) C0.1 C0.2.1 dX6_setBox_86 (lv_at hl 0 rfl) ?_
        exact x_iret (pc := 88) C0 hK hk hr hw (Option.some.inj hf) dX6_setBox_88
      · have hf := if_t hf hc
        refine lv_iconst (v := (-1)) (pc := 30) C0.1 C0.2.1 dX6_setBox_30 (by decide) ?_
        exact x_iret (pc := 31) C0 hK hk hr hw (Option.some.inj hf) dX6_setBox_31
def wX6_setShare : List Cond := .code yX6_setShare cX6_setShare 3 (some .int) :: lwT
def rX6_setShare : Room := { frames := 4, cells := 0, slots := 0, locals := 85 }
set_option maxRecDepth 100000 in
set_option maxHeartbeats 4000000 in
theorem kX6_setShare (l : Launch) (D : va_G) (y : Nat → ClassId) (ad : Nat → Nat) (hI : XI ad 168) (v1 : Int32) (u : S) {o : Int32 × S} (hf : fX6_setShare v1 u = some o) : Met l yX6_setShare wX6_setShare rX6_setShare (va_Pc [.ref (ad 167), .int v1] (XW D y ad LX 168 u)) (XQi D y ad LX 168 o) 0 0 (XA ad 168) := by
  refine x_met (bytes := cX6_setShare) (maxL := 3) (ret := (some .int)) (own := RX6) (by decide) rfl rfl (Nat.le_of_ble_eq_true rfl) (fun p e s m below meth c ls C0 hK hk hr hw hl => ?_)
  have hl : lv_has ls 3 [(0, .ref (ad 167)), (1, .int v1)] := hl
  unfold fX6_setShare at hf
  refine lv_iload_n (pc := 0) C0.1 C0.2.1 dX6_setShare_0 rfl (lv_at hl 1 rfl) ?_
  refine lv_iconst (v := 0) (pc := 1) C0.1 C0.2.1 dX6_setShare_1 (by decide) ?_
  refine lv_bipush (v := 100) (pc := 2) C0.1 C0.2.1 dX6_setShare_2 (by decide) ?_
  obtain ⟨q1, hq1, hf⟩ := bd_e hf
  refine x_backp (pc := 4) hw (x_runS (pc := 4) (As := [.int v1, .int 0, .int 100]) (rest := []) C0 hK hw hl.1 ⟨Nat.zero_le _, Nat.zero_le _⟩ (kX6_isWithin l D y ad hI v1 0 100 u hq1) rfl wc_X6_isWithin wm_X6_44 wt_X6_isWithin wn_X6 ⟨rfl, rfl⟩ hd_X6_isWithin rfl ⟨Nat.le_of_ble_eq_true rfl, Nat.le_of_ble_eq_true rfl⟩ (Nat.le_of_ble_eq_true rfl) dX6_setShare_4) (fun H locs hw => ?_)
  refine lv_if_ne (tgt := 12) (pc := 7) C0.1 C0.2.1 dX6_setShare_7 (by decide) (fun hc => ?_) (fun hc => ?_)
  · have hf := if_f hf hc
    refine lv_aload_n (pc := 12) C0.1 C0.2.1 dX6_setShare_12 rfl (lv_at hl 0 rfl) ?_
    refine x_get (pc := 13) (v := .ref (ad (132 + 0))) C0 hK hw (by decide) ly_M rfl inX6 0 (by decide) wf_X6_10 rfl rfl dX6_setShare_13 ?_
    refine x_get (pc := 16) (v := .int (u.1 (132 + 0) 3)) C0 hK hw (jy_B (by decide)) (ly_B (by decide)) rfl inX0 3 (by decide) wf_X6_75 rfl rfl dX6_setShare_16 ?_
    refine lv_istore_n (pc := 19) (lv' := [(2, .int (u.1 (132 + 0) 3)), (0, .ref (ad 167)), (1, .int v1)]) C0.1 C0.2.1 dX6_setShare_19 rfl hl (by decide) rfl (fun ls hl => ?_)
    refine lv_aload_n (pc := 20) C0.1 C0.2.1 dX6_setShare_20 rfl (lv_at hl 1 rfl) ?_
    refine x_get (pc := 21) (v := .ref (ad 158)) C0 hK hw (by decide) ly_M rfl inX6 1 (by decide) wf_X6_19 rfl rfl dX6_setShare_21 ?_
    refine lv_aload_n (pc := 24) C0.1 C0.2.1 dX6_setShare_24 rfl (lv_at hl 1 rfl) ?_
    refine x_get (pc := 25) (v := .ref (ad (132 + 0))) C0 hK hw (by decide) ly_M rfl inX6 0 (by decide) wf_X6_10 rfl rfl dX6_setShare_25 ?_
    obtain ⟨q2, hq2, hf⟩ := bd_e hf
    refine x_backv (pc := 28) hw (x_runV (pc := 28) (As := [.ref (ad (132 + 0))]) (rest := []) C0 hK hw hl.1 ⟨Nat.zero_le _, Nat.zero_le _⟩ (kX2_record l D y ad hI 0 (by decide) u hq2) (by decide) ly_H rfl rfl wc_X2_record wm_X6_58 wi_X2_record ws_X2_record wn_X2 ⟨rfl, rfl⟩ hd_X2_record rfl ⟨Nat.le_of_ble_eq_true rfl, Nat.le_of_ble_eq_true rfl⟩ (Nat.le_of_ble_eq_true rfl) dX6_setShare_28) (fun H locs hw => ?_)
    refine lv_aload_n (pc := 31) C0.1 C0.2.1 dX6_setShare_31 rfl (lv_at hl 1 rfl) ?_
    refine x_get (pc := 32) (v := .ref (ad (132 + 0))) C0 hK hw (by decide) ly_M rfl inX6 0 (by decide) wf_X6_10 rfl rfl dX6_setShare_32 ?_
    refine lv_iload_n (pc := 35) C0.1 C0.2.1 dX6_setShare_35 rfl (lv_at hl 2 rfl) ?_
    obtain ⟨u3, hu, hf⟩ := nm_f hf
    refine x_put (pc := 36) hI C0 hK hw (jy_B (by decide)) (ly_B (by decide)) rfl inX0 tyX0_ok nmX0 3 (by decide) wf_X6_75 rfl rfl rfl hu rfl rfl dX6_setShare_36 (fun H locs hw => ?_)
    refine lv_iload_n (pc := 39) C0.1 C0.2.1 dX6_setShare_39 rfl (lv_at hl 0 rfl) ?_
    exact x_iret (pc := 40) C0 hK hk hr hw (Option.some.inj hf) dX6_setShare_40
  · have hf := if_t hf hc
    refine lv_iconst (v := (-1)) (pc := 10) C0.1 C0.2.1 dX6_setShare_10 (by decide) ?_
    exact x_iret (pc := 11) C0 hK hk hr hw (Option.some.inj hf) dX6_setShare_11
def wX6_add : List Cond := .code yX6_add cX6_add 5 (some .int) :: lwT
def rX6_add : Room := { frames := 4, cells := 0, slots := 0, locals := 85 }
set_option maxRecDepth 100000 in
set_option maxHeartbeats 4000000 in
theorem kX6_add (l : Launch) (D : va_G) (y : Nat → ClassId) (ad : Nat → Nat) (hI : XI ad 168) (v1 : Int32) (v2 : Int32) (v3 : Int32) (v4 : Int32) (u : S) {o : Int32 × S} (hf : fX6_add v1 v2 v3 v4 u = some o) : Met l yX6_add wX6_add rX6_add (va_Pc [.ref (ad 167), .int v1, .int v2, .int v3, .int v4] (XW D y ad LX 168 u)) (XQi D y ad LX 168 o) 0 0 (XA ad 168) := by
  refine x_met (bytes := cX6_add) (maxL := 5) (ret := (some .int)) (own := RX6) (by decide) rfl rfl (Nat.le_of_ble_eq_true rfl) (fun p e s m below meth c ls C0 hK hk hr hw hl => ?_)
  have hl : lv_has ls 5 [(0, .ref (ad 167)), (1, .int v1), (2, .int v2), (3, .int v3), (4, .int v4)] := hl
  unfold fX6_add at hf
  refine lv_iload_n (pc := 0) C0.1 C0.2.1 dX6_add_0 rfl (lv_at hl 1 rfl) ?_
  refine lv_iconst (v := 1) (pc := 1) C0.1 C0.2.1 dX6_add_1 (by decide) ?_
  refine lv_bipush (v := 10) (pc := 2) C0.1 C0.2.1 dX6_add_2 (by decide) ?_
  obtain ⟨q1, hq1, hf⟩ := bd_e hf
  refine x_backp (pc := 4) hw (x_runS (pc := 4) (As := [.int v1, .int 1, .int 10]) (rest := []) C0 hK hw hl.1 ⟨Nat.zero_le _, Nat.zero_le _⟩ (kX6_isWithin l D y ad hI v1 1 10 u hq1) rfl wc_X6_isWithin wm_X6_44 wt_X6_isWithin wn_X6 ⟨rfl, rfl⟩ hd_X6_isWithin rfl ⟨Nat.le_of_ble_eq_true rfl, Nat.le_of_ble_eq_true rfl⟩ (Nat.le_of_ble_eq_true rfl) dX6_add_4) (fun H locs hw => ?_)
  refine lv_if_eq (tgt := 41) (pc := 7) C0.1 C0.2.1 dX6_add_7 (by decide) (fun hc => ?_) (fun hc => ?_)
  · have hf := if_t hf hc
    refine lv_iconst (v := (-1)) (pc := 41) C0.1 C0.2.1 dX6_add_41 (by decide) ?_
    exact x_iret (pc := 42) C0 hK hk hr hw (Option.some.inj hf) dX6_add_42
  · have hf := if_f hf hc
    refine lv_iload_n (pc := 10) C0.1 C0.2.1 dX6_add_10 rfl (lv_at hl 2 rfl) ?_
    refine lv_iconst (v := 1) (pc := 11) C0.1 C0.2.1 dX6_add_11 (by decide) ?_
    refine lv_bipush (v := 10) (pc := 12) C0.1 C0.2.1 dX6_add_12 (by decide) ?_
    obtain ⟨q2, hq2, hf⟩ := bd_e hf
    refine x_backp (pc := 14) hw (x_runS (pc := 14) (As := [.int v2, .int 1, .int 10]) (rest := []) C0 hK hw hl.1 ⟨Nat.zero_le _, Nat.zero_le _⟩ (kX6_isWithin l D y ad hI v2 1 10 u hq2) rfl wc_X6_isWithin wm_X6_44 wt_X6_isWithin wn_X6 ⟨rfl, rfl⟩ hd_X6_isWithin rfl ⟨Nat.le_of_ble_eq_true rfl, Nat.le_of_ble_eq_true rfl⟩ (Nat.le_of_ble_eq_true rfl) dX6_add_14) (fun H locs hw => ?_)
    refine lv_if_eq (tgt := 41) (pc := 17) C0.1 C0.2.1 dX6_add_17 (by decide) (fun hc => ?_) (fun hc => ?_)
    · have hf := if_t hf hc
      refine lv_iconst (v := (-1)) (pc := 41) C0.1 C0.2.1 dX6_add_41 (by decide) ?_
      exact x_iret (pc := 42) C0 hK hk hr hw (Option.some.inj hf) dX6_add_42
    · have hf := if_f hf hc
      refine lv_iload_n (pc := 20) C0.1 C0.2.1 dX6_add_20 rfl (lv_at hl 3 rfl) ?_
      refine lv_iconst (v := 1) (pc := 21) C0.1 C0.2.1 dX6_add_21 (by decide) ?_
      refine lv_bipush (v := 9) (pc := 22) C0.1 C0.2.1 dX6_add_22 (by decide) ?_
      obtain ⟨q3, hq3, hf⟩ := bd_e hf
      refine x_backp (pc := 24) hw (x_runS (pc := 24) (As := [.int v3, .int 1, .int 9]) (rest := []) C0 hK hw hl.1 ⟨Nat.zero_le _, Nat.zero_le _⟩ (kX6_isWithin l D y ad hI v3 1 9 u hq3) rfl wc_X6_isWithin wm_X6_44 wt_X6_isWithin wn_X6 ⟨rfl, rfl⟩ hd_X6_isWithin rfl ⟨Nat.le_of_ble_eq_true rfl, Nat.le_of_ble_eq_true rfl⟩ (Nat.le_of_ble_eq_true rfl) dX6_add_24) (fun H locs hw => ?_)
      refine lv_if_eq (tgt := 41) (pc := 27) C0.1 C0.2.1 dX6_add_27 (by decide) (fun hc => ?_) (fun hc => ?_)
      · have hf := if_t hf hc
        refine lv_iconst (v := (-1)) (pc := 41) C0.1 C0.2.1 dX6_add_41 (by decide) ?_
        exact x_iret (pc := 42) C0 hK hk hr hw (Option.some.inj hf) dX6_add_42
      · have hf := if_f hf hc
        refine lv_iload (pc := 30) C0.1 C0.2.1 dX6_add_30 (lv_at hl 4 rfl) ?_
        refine lv_iconst (v := 0) (pc := 32) C0.1 C0.2.1 dX6_add_32 (by decide) ?_
        refine lv_bipush (v := 9) (pc := 33) C0.1 C0.2.1 dX6_add_33 (by decide) ?_
        obtain ⟨q4, hq4, hf⟩ := bd_e hf
        refine x_backp (pc := 35) hw (x_runS (pc := 35) (As := [.int v4, .int 0, .int 9]) (rest := []) C0 hK hw hl.1 ⟨Nat.zero_le _, Nat.zero_le _⟩ (kX6_isWithin l D y ad hI v4 0 9 u hq4) rfl wc_X6_isWithin wm_X6_44 wt_X6_isWithin wn_X6 ⟨rfl, rfl⟩ hd_X6_isWithin rfl ⟨Nat.le_of_ble_eq_true rfl, Nat.le_of_ble_eq_true rfl⟩ (Nat.le_of_ble_eq_true rfl) dX6_add_35) (fun H locs hw => ?_)
        refine lv_if_ne (tgt := 43) (pc := 38) C0.1 C0.2.1 dX6_add_38 (by decide) (fun hc => ?_) (fun hc => ?_)
        · have hf := if_f hf hc
          refine lv_aload_n (pc := 43) C0.1 C0.2.1 dX6_add_43 rfl (lv_at hl 0 rfl) ?_
          refine x_get (pc := 44) (v := .ref (ad (132 + 0))) C0 hK hw (by decide) ly_M rfl inX6 0 (by decide) wf_X6_10 rfl rfl dX6_add_44 ?_
          refine x_get (pc := 47) (v := .int (u.1 (132 + 0) 4)) C0 hK hw (jy_B (by decide)) (ly_B (by decide)) rfl inX0 4 (by decide) wf_X6_95 rfl rfl dX6_add_47 ?_
          refine lv_bipush (v := 12) (pc := 50) C0.1 C0.2.1 dX6_add_50 (by decide) ?_
          refine lv_icmp_lt (tgt := 58) (pc := 52) C0.1 C0.2.1 dX6_add_52 (by decide) (fun hc => ?_) (fun hc => ?_)
          · have hf := if_t hf hc
            refine lv_aload_n (pc := 58) C0.1 C0.2.1 dX6_add_58 rfl (lv_at hl 0 rfl) ?_
            refine x_get (pc := 59) (v := .ref (ad 158)) C0 hK hw (by decide) ly_M rfl inX6 1 (by decide) wf_X6_19 rfl rfl dX6_add_59 ?_
            refine lv_aload_n (pc := 62) C0.1 C0.2.1 dX6_add_62 rfl (lv_at hl 0 rfl) ?_
            refine x_get (pc := 63) (v := .ref (ad (132 + 0))) C0 hK hw (by decide) ly_M rfl inX6 0 (by decide) wf_X6_10 rfl rfl dX6_add_63 ?_
            obtain ⟨q5, hq5, hf⟩ := bd_e hf
            refine x_backv (pc := 66) hw (x_runV (pc := 66) (As := [.ref (ad (132 + 0))]) (rest := []) C0 hK hw hl.1 ⟨Nat.zero_le _, Nat.zero_le _⟩ (kX2_record l D y ad hI 0 (by decide) u hq5) (by decide) ly_H rfl rfl wc_X2_record wm_X6_58 wi_X2_record ws_X2_record wn_X2 ⟨rfl, rfl⟩ hd_X2_record rfl ⟨Nat.le_of_ble_eq_true rfl, Nat.le_of_ble_eq_true rfl⟩ (Nat.le_of_ble_eq_true rfl) dX6_add_66) (fun H locs hw => ?_)
            refine lv_aload_n (pc := 69) C0.1 C0.2.1 dX6_add_69 rfl (lv_at hl 0 rfl) ?_
            refine x_get (pc := 70) (v := .ref (ad (132 + 0))) C0 hK hw (by decide) ly_M rfl inX6 0 (by decide) wf_X6_10 rfl rfl dX6_add_70 ?_
            refine x_get (pc := 73) (v := .ref (ad (143 + 0))) C0 hK hw (jy_B (by decide)) (ly_B (by decide)) rfl inX0 5 (by decide) wf_X6_98 rfl rfl dX6_add_73 ?_
            refine lv_aload_n (pc := 76) C0.1 C0.2.1 dX6_add_76 rfl (lv_at hl 0 rfl) ?_
            refine x_get (pc := 77) (v := .ref (ad (132 + 0))) C0 hK hw (by decide) ly_M rfl inX6 0 (by decide) wf_X6_10 rfl rfl dX6_add_77 ?_
            refine x_get (pc := 80) (v := .int (q5.1 (132 + 0) 4)) C0 hK hw (jy_B (by decide)) (ly_B (by decide)) rfl inX0 4 (by decide) wf_X6_95 rfl rfl dX6_add_80 ?_
            obtain ⟨hi, hf⟩ := gd_e hf
            have hT6 : 12 * 0 + (q5.1 (132 + 0) 4).toNatClampNeg < 132 := tb (by decide) (inb_lt hi)
            refine x_aldT (pc := 83) (t := 12 * 0 + (q5.1 (132 + 0) 4).toNatClampNeg) C0 hK hw (jy_R (by decide)) (ly_R (by decide)) hi rfl dX6_add_83 ?_
            refine lv_iload_n (pc := 84) C0.1 C0.2.1 dX6_add_84 rfl (lv_at hl 1 rfl) ?_
            refine lv_iload_n (pc := 85) C0.1 C0.2.1 dX6_add_85 rfl (lv_at hl 2 rfl) ?_
            refine lv_iload_n (pc := 86) C0.1 C0.2.1 dX6_add_86 rfl (lv_at hl 3 rfl) ?_
            refine lv_iload (pc := 87) C0.1 C0.2.1 dX6_add_87 (lv_at hl 4 rfl) ?_
            obtain ⟨q7, hq7, hf⟩ := bd_e hf
            refine x_backv (pc := 89) hw (x_runV (pc := 89) (As := [.int v1, .int v2, .int v3, .int v4]) (rest := []) C0 hK hw hl.1 ⟨Nat.zero_le _, Nat.zero_le _⟩ (kX5_become l D y ad hI (12 * 0 + (q5.1 (132 + 0) 4).toNatClampNeg) hT6 v1 v2 v3 v4 q5 hq7) (jy_T hT6) (ly_T hT6) rfl rfl wc_X5_become wm_X6_102 wi_X5_become ws_X5_become wn_X5 ⟨rfl, rfl⟩ hd_X5_become rfl ⟨Nat.le_of_ble_eq_true rfl, Nat.le_of_ble_eq_true rfl⟩ (Nat.le_of_ble_eq_true rfl) dX6_add_89) (fun H locs hw => ?_)
            refine lv_aload_n (pc := 92) C0.1 C0.2.1 dX6_add_92 rfl (lv_at hl 0 rfl) ?_
            refine x_get (pc := 93) (v := .ref (ad (132 + 0))) C0 hK hw (by decide) ly_M rfl inX6 0 (by decide) wf_X6_10 rfl rfl dX6_add_93 ?_
            refine lv_dup (pc := 96) C0.1 C0.2.1 dX6_add_96 rfl ?_
            refine x_get (pc := 97) (v := .int (q7.1 (132 + 0) 4)) C0 hK hw (jy_B (by decide)) (ly_B (by decide)) rfl inX0 4 (by decide) wf_X6_95 rfl rfl dX6_add_97 ?_
            refine lv_iconst (v := 1) (pc := 100) C0.1 C0.2.1 dX6_add_100 (by decide) ?_
            refine lv_iadd (pc := 101) C0.1 C0.2.1 dX6_add_101 ?_
            obtain ⟨u8, hu, hf⟩ := nm_f hf
            refine x_put (pc := 102) hI C0 hK hw (jy_B (by decide)) (ly_B (by decide)) rfl inX0 tyX0_ok nmX0 4 (by decide) wf_X6_95 rfl rfl rfl hu rfl rfl dX6_add_102 (fun H locs hw => ?_)
            refine lv_aload_n (pc := 105) C0.1 C0.2.1 dX6_add_105 rfl (lv_at hl 0 rfl) ?_
            refine x_get (pc := 106) (v := .ref (ad (132 + 0))) C0 hK hw (by decide) ly_M rfl inX6 0 (by decide) wf_X6_10 rfl rfl dX6_add_106 ?_
            refine x_get (pc := 109) (v := .int (u8.1 (132 + 0) 4)) C0 hK hw (jy_B (by decide)) (ly_B (by decide)) rfl inX0 4 (by decide) wf_X6_95 rfl rfl dX6_add_109 ?_
            refine lv_iconst (v := 1) (pc := 112) C0.1 C0.2.1 dX6_add_112 (by decide) ?_
            refine lv_isub (pc := 113) C0.1 C0.2.1 dX6_add_113 ?_
            exact x_iret (pc := 114) C0 hK hk hr hw (Option.some.inj hf) dX6_add_114
          · have hf := if_f hf hc
            refine lv_bipush (v := (-3)) (pc := 55) C0.1 C0.2.1 dX6_add_55 (by decide) ?_
            exact x_iret (pc := 57) C0 hK hk hr hw (Option.some.inj hf) dX6_add_57
        · have hf := if_t hf hc
          refine lv_iconst (v := (-1)) (pc := 41) C0.1 C0.2.1 dX6_add_41 (by decide) ?_
          exact x_iret (pc := 42) C0 hK hk hr hw (Option.some.inj hf) dX6_add_42
def wX6_setTray : List Cond := .code yX6_setTray cX6_setTray 6 (some .int) :: lwT
def rX6_setTray : Room := { frames := 4, cells := 0, slots := 0, locals := 85 }
set_option maxRecDepth 100000 in
set_option maxHeartbeats 4000000 in
theorem kX6_setTray (l : Launch) (D : va_G) (y : Nat → ClassId) (ad : Nat → Nat) (hI : XI ad 168) (v1 : Int32) (v2 : Int32) (v3 : Int32) (u : S) {o : Int32 × S} (hf : fX6_setTray v1 v2 v3 u = some o) : Met l yX6_setTray wX6_setTray rX6_setTray (va_Pc [.ref (ad 167), .int v1, .int v2, .int v3] (XW D y ad LX 168 u)) (XQi D y ad LX 168 o) 0 0 (XA ad 168) := by
  refine x_met (bytes := cX6_setTray) (maxL := 6) (ret := (some .int)) (own := RX6) (by decide) rfl rfl (Nat.le_of_ble_eq_true rfl) (fun p e s m below meth c ls C0 hK hk hr hw hl => ?_)
  have hl : lv_has ls 6 [(0, .ref (ad 167)), (1, .int v1), (2, .int v2), (3, .int v3)] := hl
  unfold fX6_setTray at hf
  refine lv_aload_n (pc := 0) C0.1 C0.2.1 dX6_setTray_0 rfl (lv_at hl 0 rfl) ?_
  refine x_get (pc := 1) (v := .ref (ad (132 + 0))) C0 hK hw (by decide) ly_M rfl inX6 0 (by decide) wf_X6_10 rfl rfl dX6_setTray_1 ?_
  refine lv_iload_n (pc := 4) C0.1 C0.2.1 dX6_setTray_4 rfl (lv_at hl 1 rfl) ?_
  obtain ⟨q1, hq1, hf⟩ := bd_e hf
  refine x_backp (pc := 5) hw (x_runV (pc := 5) (As := [.int v1]) (rest := []) C0 hK hw hl.1 ⟨Nat.zero_le _, Nat.zero_le _⟩ (kX0_has l D y ad hI 0 (by decide) v1 u hq1) (jy_B (by decide)) (ly_B (by decide)) rfl rfl wc_X0_has wm_X6_108 wi_X0_has ws_X0_has wn_X0 ⟨rfl, rfl⟩ hd_X0_has rfl ⟨Nat.le_of_ble_eq_true rfl, Nat.le_of_ble_eq_true rfl⟩ (Nat.le_of_ble_eq_true rfl) dX6_setTray_5) (fun H locs hw => ?_)
  refine lv_if_eq (tgt := 38) (pc := 8) C0.1 C0.2.1 dX6_setTray_8 (by decide) (fun hc => ?_) (fun hc => ?_)
  · have hf := if_t hf hc
    refine lv_iconst (v := (-1)) (pc := 38) C0.1 C0.2.1 dX6_setTray_38 (by decide) ?_
    exact x_iret (pc := 39) C0 hK hk hr hw (Option.some.inj hf) dX6_setTray_39
  · have hf := if_f hf hc
    refine lv_iload_n (pc := 11) C0.1 C0.2.1 dX6_setTray_11 rfl (lv_at hl 2 rfl) ?_
    refine lv_iconst (v := 0) (pc := 12) C0.1 C0.2.1 dX6_setTray_12 (by decide) ?_
    refine lv_iconst (v := 1) (pc := 13) C0.1 C0.2.1 dX6_setTray_13 (by decide) ?_
    obtain ⟨q2, hq2, hf⟩ := bd_e hf
    refine x_backp (pc := 14) hw (x_runS (pc := 14) (As := [.int v2, .int 0, .int 1]) (rest := []) C0 hK hw hl.1 ⟨Nat.zero_le _, Nat.zero_le _⟩ (kX6_isWithin l D y ad hI v2 0 1 u hq2) rfl wc_X6_isWithin wm_X6_44 wt_X6_isWithin wn_X6 ⟨rfl, rfl⟩ hd_X6_isWithin rfl ⟨Nat.le_of_ble_eq_true rfl, Nat.le_of_ble_eq_true rfl⟩ (Nat.le_of_ble_eq_true rfl) dX6_setTray_14) (fun H locs hw => ?_)
    refine lv_if_eq (tgt := 38) (pc := 17) C0.1 C0.2.1 dX6_setTray_17 (by decide) (fun hc => ?_) (fun hc => ?_)
    · have hf := if_t hf hc
      refine lv_iconst (v := (-1)) (pc := 38) C0.1 C0.2.1 dX6_setTray_38 (by decide) ?_
      exact x_iret (pc := 39) C0 hK hk hr hw (Option.some.inj hf) dX6_setTray_39
    · have hf := if_f hf hc
      refine lv_iload_n (pc := 20) C0.1 C0.2.1 dX6_setTray_20 rfl (lv_at hl 3 rfl) ?_
      refine lv_iconst (v := 0) (pc := 21) C0.1 C0.2.1 dX6_setTray_21 (by decide) ?_
      refine lv_iload_n (pc := 22) C0.1 C0.2.1 dX6_setTray_22 rfl (lv_at hl 2 rfl) ?_
      refine lv_if_ne (tgt := 31) (pc := 23) C0.1 C0.2.1 dX6_setTray_23 (by decide) (fun hc => ?_) (fun hc => ?_)
      · have hf := if_f hf hc
        refine lv_iconst (v := 1) (pc := 31) C0.1 C0.2.1 dX6_setTray_31 (by decide) ?_
        obtain ⟨q3, hq3, hf⟩ := bd_e hf
        refine x_backp (pc := 32) hw (x_runS (pc := 32) (As := [.int v3, .int 0, .int 1]) (rest := []) C0 hK hw hl.1 ⟨Nat.zero_le _, Nat.zero_le _⟩ (kX6_isWithin l D y ad hI v3 0 1 u hq3) rfl wc_X6_isWithin wm_X6_44 wt_X6_isWithin wn_X6 ⟨rfl, rfl⟩ hd_X6_isWithin rfl ⟨Nat.le_of_ble_eq_true rfl, Nat.le_of_ble_eq_true rfl⟩ (Nat.le_of_ble_eq_true rfl) dX6_setTray_32) (fun H locs hw => ?_)
        refine lv_if_ne (tgt := 40) (pc := 35) C0.1 C0.2.1 dX6_setTray_35 (by decide) (fun hc => ?_) (fun hc => ?_)
        · have hf := if_f hf hc
          refine lv_aload_n (pc := 40) C0.1 C0.2.1 dX6_setTray_40 rfl (lv_at hl 0 rfl) ?_
          refine x_get (pc := 41) (v := .ref (ad (132 + 0))) C0 hK hw (by decide) ly_M rfl inX6 0 (by decide) wf_X6_10 rfl rfl dX6_setTray_41 ?_
          refine x_get (pc := 44) (v := .ref (ad (143 + 0))) C0 hK hw (jy_B (by decide)) (ly_B (by decide)) rfl inX0 5 (by decide) wf_X6_98 rfl rfl dX6_setTray_44 ?_
          refine lv_iload_n (pc := 47) C0.1 C0.2.1 dX6_setTray_47 rfl (lv_at hl 1 rfl) ?_
          obtain ⟨hi, hf⟩ := gd_e hf
          have hT4 : 12 * 0 + v1.toNatClampNeg < 132 := tb (by decide) (inb_lt hi)
          refine x_aldT (pc := 48) (t := 12 * 0 + v1.toNatClampNeg) C0 hK hw (jy_R (by decide)) (ly_R (by decide)) hi rfl dX6_setTray_48 ?_
          refine lv_astore (pc := 49) (lv' := [(4, .ref (ad (12 * 0 + v1.toNatClampNeg))), (0, .ref (ad 167)), (1, .int v1), (2, .int v2), (3, .int v3)]) C0.1 C0.2.1 dX6_setTray_49 hl (by decide) rfl (fun ls hl => ?_)
          refine lv_iload_n (pc := 51) C0.1 C0.2.1 dX6_setTray_51 rfl (lv_at hl 3 rfl) ?_
          refine lv_iconst (v := 1) (pc := 52) C0.1 C0.2.1 dX6_setTray_52 (by decide) ?_
          refine lv_icmp_ne (tgt := 67) (pc := 53) C0.1 C0.2.1 dX6_setTray_53 (by decide) (fun hc => ?_) (fun hc => ?_)
          · have hf := if_f hf hc
            refine lv_iload_n (pc := 67) C0.1 C0.2.1 dX6_setTray_67 rfl (lv_at hl 3 rfl) ?_
            refine lv_if_ne (tgt := 79) (pc := 68) C0.1 C0.2.1 dX6_setTray_68 (by decide) (fun hc => ?_) (fun hc => ?_)
            · have hf := if_f hf hc
              refine lv_aload (pc := 79) C0.1 C0.2.1 dX6_setTray_79 (lv_at hl 0 rfl) ?_
              refine x_get (pc := 81) (v := .int (u.1 (12 * 0 + v1.toNatClampNeg) 4)) C0 hK hw (jy_T hT4) (ly_T hT4) rfl inX5 4 (by decide) wf_X6_122 rfl rfl dX6_setTray_81 ?_
              refine lv_istore (pc := 84) (lv' := [(5, .int (u.1 (12 * 0 + v1.toNatClampNeg) 4)), (4, .ref (ad (12 * 0 + v1.toNatClampNeg))), (0, .ref (ad 167)), (1, .int v1), (2, .int v2), (3, .int v3)]) C0.1 C0.2.1 dX6_setTray_84 hl (by decide) rfl (fun ls hl => ?_)
              refine lv_aload_n (pc := 86) C0.1 C0.2.1 dX6_setTray_86 rfl (lv_at hl 2 rfl) ?_
              refine x_get (pc := 87) (v := .ref (ad 158)) C0 hK hw (by decide) ly_M rfl inX6 1 (by decide) wf_X6_19 rfl rfl dX6_setTray_87 ?_
              refine lv_aload_n (pc := 90) C0.1 C0.2.1 dX6_setTray_90 rfl (lv_at hl 2 rfl) ?_
              refine x_get (pc := 91) (v := .ref (ad (132 + 0))) C0 hK hw (by decide) ly_M rfl inX6 0 (by decide) wf_X6_10 rfl rfl dX6_setTray_91 ?_
              obtain ⟨q5, hq5, hf⟩ := bd_e hf
              refine x_backv (pc := 94) hw (x_runV (pc := 94) (As := [.ref (ad (132 + 0))]) (rest := []) C0 hK hw hl.1 ⟨Nat.zero_le _, Nat.zero_le _⟩ (kX2_record l D y ad hI 0 (by decide) u hq5) (by decide) ly_H rfl rfl wc_X2_record wm_X6_58 wi_X2_record ws_X2_record wn_X2 ⟨rfl, rfl⟩ hd_X2_record rfl ⟨Nat.le_of_ble_eq_true rfl, Nat.le_of_ble_eq_true rfl⟩ (Nat.le_of_ble_eq_true rfl) dX6_setTray_94) (fun H locs hw => ?_)
              refine lv_iload_n (pc := 97) C0.1 C0.2.1 dX6_setTray_97 rfl (lv_at hl 4 rfl) ?_
              refine lv_if_ne (tgt := 110) (pc := 98) C0.1 C0.2.1 dX6_setTray_98 (by decide) (fun hc => ?_) (fun hc => ?_)
              · have hf := if_f hf hc
                refine lv_aload (pc := 110) C0.1 C0.2.1 dX6_setTray_110 (lv_at hl 1 rfl) ?_
                refine lv_iload_n (pc := 112) C0.1 C0.2.1 dX6_setTray_112 rfl (lv_at hl 5 rfl) ?_
                obtain ⟨u6, hu, hf⟩ := nm_f hf
                refine x_put (pc := 113) hI C0 hK hw (jy_T hT4) (ly_T hT4) rfl inX5 tyX5_ok nmX5 4 (by decide) wf_X6_122 rfl rfl rfl hu rfl rfl dX6_setTray_113 (fun H locs hw => ?_)
                refine lv_iload (pc := 116) C0.1 C0.2.1 dX6_setTray_116 (lv_at hl 0 rfl) ?_
                exact x_iret (pc := 118) C0 hK hk hr hw (Option.some.inj hf) dX6_setTray_118
              · have hf := if_t hf hc
                refine lv_aload (pc := 101) C0.1 C0.2.1 dX6_setTray_101 (lv_at hl 1 rfl) ?_
                refine lv_iload_n (pc := 103) C0.1 C0.2.1 dX6_setTray_103 rfl (lv_at hl 5 rfl) ?_
                obtain ⟨u7, hu, hf⟩ := nm_f hf
                refine x_put (pc := 104) hI C0 hK hw (jy_T hT4) (ly_T hT4) rfl inX5 tyX5_ok nmX5 3 (by decide) wf_X6_119 rfl rfl rfl hu rfl rfl dX6_setTray_104 (fun H locs hw => ?_)
                refine lv_goto (tgt := 116) (pc := 107) C0.1 C0.2.1 dX6_setTray_107 (by decide) ?_
                refine lv_iload (pc := 116) C0.1 C0.2.1 dX6_setTray_116 (lv_at hl 0 rfl) ?_
                exact x_iret (pc := 118) C0 hK hk hr hw (Option.some.inj hf) dX6_setTray_118
            · have hf := if_t hf hc
              refine lv_aload (pc := 71) C0.1 C0.2.1 dX6_setTray_71 (lv_at hl 0 rfl) ?_
              refine x_get (pc := 73) (v := .int (u.1 (12 * 0 + v1.toNatClampNeg) 3)) C0 hK hw (jy_T hT4) (ly_T hT4) rfl inX5 3 (by decide) wf_X6_119 rfl rfl dX6_setTray_73 ?_
              refine lv_goto (tgt := 84) (pc := 76) C0.1 C0.2.1 dX6_setTray_76 (by decide) ?_
              refine lv_istore (pc := 84) (lv' := [(5, .int (u.1 (12 * 0 + v1.toNatClampNeg) 3)), (4, .ref (ad (12 * 0 + v1.toNatClampNeg))), (0, .ref (ad 167)), (1, .int v1), (2, .int v2), (3, .int v3)]) C0.1 C0.2.1 dX6_setTray_84 hl (by decide) rfl (fun ls hl => ?_)
              refine lv_aload_n (pc := 86) C0.1 C0.2.1 dX6_setTray_86 rfl (lv_at hl 2 rfl) ?_
              refine x_get (pc := 87) (v := .ref (ad 158)) C0 hK hw (by decide) ly_M rfl inX6 1 (by decide) wf_X6_19 rfl rfl dX6_setTray_87 ?_
              refine lv_aload_n (pc := 90) C0.1 C0.2.1 dX6_setTray_90 rfl (lv_at hl 2 rfl) ?_
              refine x_get (pc := 91) (v := .ref (ad (132 + 0))) C0 hK hw (by decide) ly_M rfl inX6 0 (by decide) wf_X6_10 rfl rfl dX6_setTray_91 ?_
              obtain ⟨q8, hq8, hf⟩ := bd_e hf
              refine x_backv (pc := 94) hw (x_runV (pc := 94) (As := [.ref (ad (132 + 0))]) (rest := []) C0 hK hw hl.1 ⟨Nat.zero_le _, Nat.zero_le _⟩ (kX2_record l D y ad hI 0 (by decide) u hq8) (by decide) ly_H rfl rfl wc_X2_record wm_X6_58 wi_X2_record ws_X2_record wn_X2 ⟨rfl, rfl⟩ hd_X2_record rfl ⟨Nat.le_of_ble_eq_true rfl, Nat.le_of_ble_eq_true rfl⟩ (Nat.le_of_ble_eq_true rfl) dX6_setTray_94) (fun H locs hw => ?_)
              refine lv_iload_n (pc := 97) C0.1 C0.2.1 dX6_setTray_97 rfl (lv_at hl 4 rfl) ?_
              refine lv_if_ne (tgt := 110) (pc := 98) C0.1 C0.2.1 dX6_setTray_98 (by decide) (fun hc => ?_) (fun hc => ?_)
              · have hf := if_f hf hc
                refine lv_aload (pc := 110) C0.1 C0.2.1 dX6_setTray_110 (lv_at hl 1 rfl) ?_
                refine lv_iload_n (pc := 112) C0.1 C0.2.1 dX6_setTray_112 rfl (lv_at hl 5 rfl) ?_
                obtain ⟨u9, hu, hf⟩ := nm_f hf
                refine x_put (pc := 113) hI C0 hK hw (jy_T hT4) (ly_T hT4) rfl inX5 tyX5_ok nmX5 4 (by decide) wf_X6_122 rfl rfl rfl hu rfl rfl dX6_setTray_113 (fun H locs hw => ?_)
                refine lv_iload (pc := 116) C0.1 C0.2.1 dX6_setTray_116 (lv_at hl 0 rfl) ?_
                exact x_iret (pc := 118) C0 hK hk hr hw (Option.some.inj hf) dX6_setTray_118
              · have hf := if_t hf hc
                refine lv_aload (pc := 101) C0.1 C0.2.1 dX6_setTray_101 (lv_at hl 1 rfl) ?_
                refine lv_iload_n (pc := 103) C0.1 C0.2.1 dX6_setTray_103 rfl (lv_at hl 5 rfl) ?_
                obtain ⟨u10, hu, hf⟩ := nm_f hf
                refine x_put (pc := 104) hI C0 hK hw (jy_T hT4) (ly_T hT4) rfl inX5 tyX5_ok nmX5 3 (by decide) wf_X6_119 rfl rfl rfl hu rfl rfl dX6_setTray_104 (fun H locs hw => ?_)
                refine lv_goto (tgt := 116) (pc := 107) C0.1 C0.2.1 dX6_setTray_107 (by decide) ?_
                refine lv_iload (pc := 116) C0.1 C0.2.1 dX6_setTray_116 (lv_at hl 0 rfl) ?_
                exact x_iret (pc := 118) C0 hK hk hr hw (Option.some.inj hf) dX6_setTray_118
          · have hf := if_t hf hc
            refine lv_aload (pc := 56) C0.1 C0.2.1 dX6_setTray_56 (lv_at hl 0 rfl) ?_
            refine x_get (pc := 58) (v := .int (u.1 (12 * 0 + v1.toNatClampNeg) 5)) C0 hK hw (jy_T hT4) (ly_T hT4) rfl inX5 5 (by decide) wf_X6_112 rfl rfl dX6_setTray_58 ?_
            refine lv_if_eq (tgt := 67) (pc := 61) C0.1 C0.2.1 dX6_setTray_61 (by decide) (fun hc => ?_) (fun hc => ?_)
            · have hf := if_t hf hc
              refine lv_iload_n (pc := 67) C0.1 C0.2.1 dX6_setTray_67 rfl (lv_at hl 3 rfl) ?_
              refine lv_if_ne (tgt := 79) (pc := 68) C0.1 C0.2.1 dX6_setTray_68 (by decide) (fun hc => ?_) (fun hc => ?_)
              · have hf := if_f hf hc
                refine lv_aload (pc := 79) C0.1 C0.2.1 dX6_setTray_79 (lv_at hl 0 rfl) ?_
                refine x_get (pc := 81) (v := .int (u.1 (12 * 0 + v1.toNatClampNeg) 4)) C0 hK hw (jy_T hT4) (ly_T hT4) rfl inX5 4 (by decide) wf_X6_122 rfl rfl dX6_setTray_81 ?_
                refine lv_istore (pc := 84) (lv' := [(5, .int (u.1 (12 * 0 + v1.toNatClampNeg) 4)), (4, .ref (ad (12 * 0 + v1.toNatClampNeg))), (0, .ref (ad 167)), (1, .int v1), (2, .int v2), (3, .int v3)]) C0.1 C0.2.1 dX6_setTray_84 hl (by decide) rfl (fun ls hl => ?_)
                refine lv_aload_n (pc := 86) C0.1 C0.2.1 dX6_setTray_86 rfl (lv_at hl 2 rfl) ?_
                refine x_get (pc := 87) (v := .ref (ad 158)) C0 hK hw (by decide) ly_M rfl inX6 1 (by decide) wf_X6_19 rfl rfl dX6_setTray_87 ?_
                refine lv_aload_n (pc := 90) C0.1 C0.2.1 dX6_setTray_90 rfl (lv_at hl 2 rfl) ?_
                refine x_get (pc := 91) (v := .ref (ad (132 + 0))) C0 hK hw (by decide) ly_M rfl inX6 0 (by decide) wf_X6_10 rfl rfl dX6_setTray_91 ?_
                obtain ⟨q11, hq11, hf⟩ := bd_e hf
                refine x_backv (pc := 94) hw (x_runV (pc := 94) (As := [.ref (ad (132 + 0))]) (rest := []) C0 hK hw hl.1 ⟨Nat.zero_le _, Nat.zero_le _⟩ (kX2_record l D y ad hI 0 (by decide) u hq11) (by decide) ly_H rfl rfl wc_X2_record wm_X6_58 wi_X2_record ws_X2_record wn_X2 ⟨rfl, rfl⟩ hd_X2_record rfl ⟨Nat.le_of_ble_eq_true rfl, Nat.le_of_ble_eq_true rfl⟩ (Nat.le_of_ble_eq_true rfl) dX6_setTray_94) (fun H locs hw => ?_)
                refine lv_iload_n (pc := 97) C0.1 C0.2.1 dX6_setTray_97 rfl (lv_at hl 4 rfl) ?_
                refine lv_if_ne (tgt := 110) (pc := 98) C0.1 C0.2.1 dX6_setTray_98 (by decide) (fun hc => ?_) (fun hc => ?_)
                · have hf := if_f hf hc
                  refine lv_aload (pc := 110) C0.1 C0.2.1 dX6_setTray_110 (lv_at hl 1 rfl) ?_
                  refine lv_iload_n (pc := 112) C0.1 C0.2.1 dX6_setTray_112 rfl (lv_at hl 5 rfl) ?_
                  obtain ⟨u12, hu, hf⟩ := nm_f hf
                  refine x_put (pc := 113) hI C0 hK hw (jy_T hT4) (ly_T hT4) rfl inX5 tyX5_ok nmX5 4 (by decide) wf_X6_122 rfl rfl rfl hu rfl rfl dX6_setTray_113 (fun H locs hw => ?_)
                  refine lv_iload (pc := 116) C0.1 C0.2.1 dX6_setTray_116 (lv_at hl 0 rfl) ?_
                  exact x_iret (pc := 118) C0 hK hk hr hw (Option.some.inj hf) dX6_setTray_118
                · have hf := if_t hf hc
                  refine lv_aload (pc := 101) C0.1 C0.2.1 dX6_setTray_101 (lv_at hl 1 rfl) ?_
                  refine lv_iload_n (pc := 103) C0.1 C0.2.1 dX6_setTray_103 rfl (lv_at hl 5 rfl) ?_
                  obtain ⟨u13, hu, hf⟩ := nm_f hf
                  refine x_put (pc := 104) hI C0 hK hw (jy_T hT4) (ly_T hT4) rfl inX5 tyX5_ok nmX5 3 (by decide) wf_X6_119 rfl rfl rfl hu rfl rfl dX6_setTray_104 (fun H locs hw => ?_)
                  refine lv_goto (tgt := 116) (pc := 107) C0.1 C0.2.1 dX6_setTray_107 (by decide) ?_
                  refine lv_iload (pc := 116) C0.1 C0.2.1 dX6_setTray_116 (lv_at hl 0 rfl) ?_
                  exact x_iret (pc := 118) C0 hK hk hr hw (Option.some.inj hf) dX6_setTray_118
              · have hf := if_t hf hc
                refine lv_aload (pc := 71) C0.1 C0.2.1 dX6_setTray_71 (lv_at hl 0 rfl) ?_
                refine x_get (pc := 73) (v := .int (u.1 (12 * 0 + v1.toNatClampNeg) 3)) C0 hK hw (jy_T hT4) (ly_T hT4) rfl inX5 3 (by decide) wf_X6_119 rfl rfl dX6_setTray_73 ?_
                refine lv_goto (tgt := 84) (pc := 76) C0.1 C0.2.1 dX6_setTray_76 (by decide) ?_
                refine lv_istore (pc := 84) (lv' := [(5, .int (u.1 (12 * 0 + v1.toNatClampNeg) 3)), (4, .ref (ad (12 * 0 + v1.toNatClampNeg))), (0, .ref (ad 167)), (1, .int v1), (2, .int v2), (3, .int v3)]) C0.1 C0.2.1 dX6_setTray_84 hl (by decide) rfl (fun ls hl => ?_)
                refine lv_aload_n (pc := 86) C0.1 C0.2.1 dX6_setTray_86 rfl (lv_at hl 2 rfl) ?_
                refine x_get (pc := 87) (v := .ref (ad 158)) C0 hK hw (by decide) ly_M rfl inX6 1 (by decide) wf_X6_19 rfl rfl dX6_setTray_87 ?_
                refine lv_aload_n (pc := 90) C0.1 C0.2.1 dX6_setTray_90 rfl (lv_at hl 2 rfl) ?_
                refine x_get (pc := 91) (v := .ref (ad (132 + 0))) C0 hK hw (by decide) ly_M rfl inX6 0 (by decide) wf_X6_10 rfl rfl dX6_setTray_91 ?_
                obtain ⟨q14, hq14, hf⟩ := bd_e hf
                refine x_backv (pc := 94) hw (x_runV (pc := 94) (As := [.ref (ad (132 + 0))]) (rest := []) C0 hK hw hl.1 ⟨Nat.zero_le _, Nat.zero_le _⟩ (kX2_record l D y ad hI 0 (by decide) u hq14) (by decide) ly_H rfl rfl wc_X2_record wm_X6_58 wi_X2_record ws_X2_record wn_X2 ⟨rfl, rfl⟩ hd_X2_record rfl ⟨Nat.le_of_ble_eq_true rfl, Nat.le_of_ble_eq_true rfl⟩ (Nat.le_of_ble_eq_true rfl) dX6_setTray_94) (fun H locs hw => ?_)
                refine lv_iload_n (pc := 97) C0.1 C0.2.1 dX6_setTray_97 rfl (lv_at hl 4 rfl) ?_
                refine lv_if_ne (tgt := 110) (pc := 98) C0.1 C0.2.1 dX6_setTray_98 (by decide) (fun hc => ?_) (fun hc => ?_)
                · have hf := if_f hf hc
                  refine lv_aload (pc := 110) C0.1 C0.2.1 dX6_setTray_110 (lv_at hl 1 rfl) ?_
                  refine lv_iload_n (pc := 112) C0.1 C0.2.1 dX6_setTray_112 rfl (lv_at hl 5 rfl) ?_
                  obtain ⟨u15, hu, hf⟩ := nm_f hf
                  refine x_put (pc := 113) hI C0 hK hw (jy_T hT4) (ly_T hT4) rfl inX5 tyX5_ok nmX5 4 (by decide) wf_X6_122 rfl rfl rfl hu rfl rfl dX6_setTray_113 (fun H locs hw => ?_)
                  refine lv_iload (pc := 116) C0.1 C0.2.1 dX6_setTray_116 (lv_at hl 0 rfl) ?_
                  exact x_iret (pc := 118) C0 hK hk hr hw (Option.some.inj hf) dX6_setTray_118
                · have hf := if_t hf hc
                  refine lv_aload (pc := 101) C0.1 C0.2.1 dX6_setTray_101 (lv_at hl 1 rfl) ?_
                  refine lv_iload_n (pc := 103) C0.1 C0.2.1 dX6_setTray_103 rfl (lv_at hl 5 rfl) ?_
                  obtain ⟨u16, hu, hf⟩ := nm_f hf
                  refine x_put (pc := 104) hI C0 hK hw (jy_T hT4) (ly_T hT4) rfl inX5 tyX5_ok nmX5 3 (by decide) wf_X6_119 rfl rfl rfl hu rfl rfl dX6_setTray_104 (fun H locs hw => ?_)
                  refine lv_goto (tgt := 116) (pc := 107) C0.1 C0.2.1 dX6_setTray_107 (by decide) ?_
                  refine lv_iload (pc := 116) C0.1 C0.2.1 dX6_setTray_116 (lv_at hl 0 rfl) ?_
                  exact x_iret (pc := 118) C0 hK hk hr hw (Option.some.inj hf) dX6_setTray_118
            · have hf := if_f hf hc
              refine lv_bipush (v := (-2)) (pc := 64) C0.1 C0.2.1 dX6_setTray_64 (by decide) ?_
              exact x_iret (pc := 66) C0 hK hk hr hw (Option.some.inj hf) dX6_setTray_66
        · have hf := if_t hf hc
          refine lv_iconst (v := (-1)) (pc := 38) C0.1 C0.2.1 dX6_setTray_38 (by decide) ?_
          exact x_iret (pc := 39) C0 hK hk hr hw (Option.some.inj hf) dX6_setTray_39
      · have hf := if_t hf hc
        refine lv_bipush (v := 9) (pc := 26) C0.1 C0.2.1 dX6_setTray_26 (by decide) ?_
        refine lv_goto (tgt := 32) (pc := 28) C0.1 C0.2.1 dX6_setTray_28 (by decide) ?_
        obtain ⟨q17, hq17, hf⟩ := bd_e hf
        refine x_backp (pc := 32) hw (x_runS (pc := 32) (As := [.int v3, .int 0, .int 9]) (rest := []) C0 hK hw hl.1 ⟨Nat.zero_le _, Nat.zero_le _⟩ (kX6_isWithin l D y ad hI v3 0 9 u hq17) rfl wc_X6_isWithin wm_X6_44 wt_X6_isWithin wn_X6 ⟨rfl, rfl⟩ hd_X6_isWithin rfl ⟨Nat.le_of_ble_eq_true rfl, Nat.le_of_ble_eq_true rfl⟩ (Nat.le_of_ble_eq_true rfl) dX6_setTray_32) (fun H locs hw => ?_)
        refine lv_if_ne (tgt := 40) (pc := 35) C0.1 C0.2.1 dX6_setTray_35 (by decide) (fun hc => ?_) (fun hc => ?_)
        · have hf := if_f hf hc
          refine lv_aload_n (pc := 40) C0.1 C0.2.1 dX6_setTray_40 rfl (lv_at hl 0 rfl) ?_
          refine x_get (pc := 41) (v := .ref (ad (132 + 0))) C0 hK hw (by decide) ly_M rfl inX6 0 (by decide) wf_X6_10 rfl rfl dX6_setTray_41 ?_
          refine x_get (pc := 44) (v := .ref (ad (143 + 0))) C0 hK hw (jy_B (by decide)) (ly_B (by decide)) rfl inX0 5 (by decide) wf_X6_98 rfl rfl dX6_setTray_44 ?_
          refine lv_iload_n (pc := 47) C0.1 C0.2.1 dX6_setTray_47 rfl (lv_at hl 1 rfl) ?_
          obtain ⟨hi, hf⟩ := gd_e hf
          have hT18 : 12 * 0 + v1.toNatClampNeg < 132 := tb (by decide) (inb_lt hi)
          refine x_aldT (pc := 48) (t := 12 * 0 + v1.toNatClampNeg) C0 hK hw (jy_R (by decide)) (ly_R (by decide)) hi rfl dX6_setTray_48 ?_
          refine lv_astore (pc := 49) (lv' := [(4, .ref (ad (12 * 0 + v1.toNatClampNeg))), (0, .ref (ad 167)), (1, .int v1), (2, .int v2), (3, .int v3)]) C0.1 C0.2.1 dX6_setTray_49 hl (by decide) rfl (fun ls hl => ?_)
          refine lv_iload_n (pc := 51) C0.1 C0.2.1 dX6_setTray_51 rfl (lv_at hl 3 rfl) ?_
          refine lv_iconst (v := 1) (pc := 52) C0.1 C0.2.1 dX6_setTray_52 (by decide) ?_
          refine lv_icmp_ne (tgt := 67) (pc := 53) C0.1 C0.2.1 dX6_setTray_53 (by decide) (fun hc => ?_) (fun hc => ?_)
          · have hf := if_f hf hc
            refine lv_iload_n (pc := 67) C0.1 C0.2.1 dX6_setTray_67 rfl (lv_at hl 3 rfl) ?_
            refine lv_if_ne (tgt := 79) (pc := 68) C0.1 C0.2.1 dX6_setTray_68 (by decide) (fun hc => ?_) (fun hc => ?_)
            · have hf := if_f hf hc
              refine lv_aload (pc := 79) C0.1 C0.2.1 dX6_setTray_79 (lv_at hl 0 rfl) ?_
              refine x_get (pc := 81) (v := .int (u.1 (12 * 0 + v1.toNatClampNeg) 4)) C0 hK hw (jy_T hT18) (ly_T hT18) rfl inX5 4 (by decide) wf_X6_122 rfl rfl dX6_setTray_81 ?_
              refine lv_istore (pc := 84) (lv' := [(5, .int (u.1 (12 * 0 + v1.toNatClampNeg) 4)), (4, .ref (ad (12 * 0 + v1.toNatClampNeg))), (0, .ref (ad 167)), (1, .int v1), (2, .int v2), (3, .int v3)]) C0.1 C0.2.1 dX6_setTray_84 hl (by decide) rfl (fun ls hl => ?_)
              refine lv_aload_n (pc := 86) C0.1 C0.2.1 dX6_setTray_86 rfl (lv_at hl 2 rfl) ?_
              refine x_get (pc := 87) (v := .ref (ad 158)) C0 hK hw (by decide) ly_M rfl inX6 1 (by decide) wf_X6_19 rfl rfl dX6_setTray_87 ?_
              refine lv_aload_n (pc := 90) C0.1 C0.2.1 dX6_setTray_90 rfl (lv_at hl 2 rfl) ?_
              refine x_get (pc := 91) (v := .ref (ad (132 + 0))) C0 hK hw (by decide) ly_M rfl inX6 0 (by decide) wf_X6_10 rfl rfl dX6_setTray_91 ?_
              obtain ⟨q19, hq19, hf⟩ := bd_e hf
              refine x_backv (pc := 94) hw (x_runV (pc := 94) (As := [.ref (ad (132 + 0))]) (rest := []) C0 hK hw hl.1 ⟨Nat.zero_le _, Nat.zero_le _⟩ (kX2_record l D y ad hI 0 (by decide) u hq19) (by decide) ly_H rfl rfl wc_X2_record wm_X6_58 wi_X2_record ws_X2_record wn_X2 ⟨rfl, rfl⟩ hd_X2_record rfl ⟨Nat.le_of_ble_eq_true rfl, Nat.le_of_ble_eq_true rfl⟩ (Nat.le_of_ble_eq_true rfl) dX6_setTray_94) (fun H locs hw => ?_)
              refine lv_iload_n (pc := 97) C0.1 C0.2.1 dX6_setTray_97 rfl (lv_at hl 4 rfl) ?_
              refine lv_if_ne (tgt := 110) (pc := 98) C0.1 C0.2.1 dX6_setTray_98 (by decide) (fun hc => ?_) (fun hc => ?_)
              · have hf := if_f hf hc
                refine lv_aload (pc := 110) C0.1 C0.2.1 dX6_setTray_110 (lv_at hl 1 rfl) ?_
                refine lv_iload_n (pc := 112) C0.1 C0.2.1 dX6_setTray_112 rfl (lv_at hl 5 rfl) ?_
                obtain ⟨u20, hu, hf⟩ := nm_f hf
                refine x_put (pc := 113) hI C0 hK hw (jy_T hT18) (ly_T hT18) rfl inX5 tyX5_ok nmX5 4 (by decide) wf_X6_122 rfl rfl rfl hu rfl rfl dX6_setTray_113 (fun H locs hw => ?_)
                refine lv_iload (pc := 116) C0.1 C0.2.1 dX6_setTray_116 (lv_at hl 0 rfl) ?_
                exact x_iret (pc := 118) C0 hK hk hr hw (Option.some.inj hf) dX6_setTray_118
              · have hf := if_t hf hc
                refine lv_aload (pc := 101) C0.1 C0.2.1 dX6_setTray_101 (lv_at hl 1 rfl) ?_
                refine lv_iload_n (pc := 103) C0.1 C0.2.1 dX6_setTray_103 rfl (lv_at hl 5 rfl) ?_
                obtain ⟨u21, hu, hf⟩ := nm_f hf
                refine x_put (pc := 104) hI C0 hK hw (jy_T hT18) (ly_T hT18) rfl inX5 tyX5_ok nmX5 3 (by decide) wf_X6_119 rfl rfl rfl hu rfl rfl dX6_setTray_104 (fun H locs hw => ?_)
                refine lv_goto (tgt := 116) (pc := 107) C0.1 C0.2.1 dX6_setTray_107 (by decide) ?_
                refine lv_iload (pc := 116) C0.1 C0.2.1 dX6_setTray_116 (lv_at hl 0 rfl) ?_
                exact x_iret (pc := 118) C0 hK hk hr hw (Option.some.inj hf) dX6_setTray_118
            · have hf := if_t hf hc
              refine lv_aload (pc := 71) C0.1 C0.2.1 dX6_setTray_71 (lv_at hl 0 rfl) ?_
              refine x_get (pc := 73) (v := .int (u.1 (12 * 0 + v1.toNatClampNeg) 3)) C0 hK hw (jy_T hT18) (ly_T hT18) rfl inX5 3 (by decide) wf_X6_119 rfl rfl dX6_setTray_73 ?_
              refine lv_goto (tgt := 84) (pc := 76) C0.1 C0.2.1 dX6_setTray_76 (by decide) ?_
              refine lv_istore (pc := 84) (lv' := [(5, .int (u.1 (12 * 0 + v1.toNatClampNeg) 3)), (4, .ref (ad (12 * 0 + v1.toNatClampNeg))), (0, .ref (ad 167)), (1, .int v1), (2, .int v2), (3, .int v3)]) C0.1 C0.2.1 dX6_setTray_84 hl (by decide) rfl (fun ls hl => ?_)
              refine lv_aload_n (pc := 86) C0.1 C0.2.1 dX6_setTray_86 rfl (lv_at hl 2 rfl) ?_
              refine x_get (pc := 87) (v := .ref (ad 158)) C0 hK hw (by decide) ly_M rfl inX6 1 (by decide) wf_X6_19 rfl rfl dX6_setTray_87 ?_
              refine lv_aload_n (pc := 90) C0.1 C0.2.1 dX6_setTray_90 rfl (lv_at hl 2 rfl) ?_
              refine x_get (pc := 91) (v := .ref (ad (132 + 0))) C0 hK hw (by decide) ly_M rfl inX6 0 (by decide) wf_X6_10 rfl rfl dX6_setTray_91 ?_
              obtain ⟨q22, hq22, hf⟩ := bd_e hf
              refine x_backv (pc := 94) hw (x_runV (pc := 94) (As := [.ref (ad (132 + 0))]) (rest := []) C0 hK hw hl.1 ⟨Nat.zero_le _, Nat.zero_le _⟩ (kX2_record l D y ad hI 0 (by decide) u hq22) (by decide) ly_H rfl rfl wc_X2_record wm_X6_58 wi_X2_record ws_X2_record wn_X2 ⟨rfl, rfl⟩ hd_X2_record rfl ⟨Nat.le_of_ble_eq_true rfl, Nat.le_of_ble_eq_true rfl⟩ (Nat.le_of_ble_eq_true rfl) dX6_setTray_94) (fun H locs hw => ?_)
              refine lv_iload_n (pc := 97) C0.1 C0.2.1 dX6_setTray_97 rfl (lv_at hl 4 rfl) ?_
              refine lv_if_ne (tgt := 110) (pc := 98) C0.1 C0.2.1 dX6_setTray_98 (by decide) (fun hc => ?_) (fun hc => ?_)
              · have hf := if_f hf hc
                refine lv_aload (pc := 110) C0.1 C0.2.1 dX6_setTray_110 (lv_at hl 1 rfl) ?_
                refine lv_iload_n (pc := 112) C0.1 C0.2.1 dX6_setTray_112 rfl (lv_at hl 5 rfl) ?_
                obtain ⟨u23, hu, hf⟩ := nm_f hf
                refine x_put (pc := 113) hI C0 hK hw (jy_T hT18) (ly_T hT18) rfl inX5 tyX5_ok nmX5 4 (by decide) wf_X6_122 rfl rfl rfl hu rfl rfl dX6_setTray_113 (fun H locs hw => ?_)
                refine lv_iload (pc := 116) C0.1 C0.2.1 dX6_setTray_116 (lv_at hl 0 rfl) ?_
                exact x_iret (pc := 118) C0 hK hk hr hw (Option.some.inj hf) dX6_setTray_118
              · have hf := if_t hf hc
                refine lv_aload (pc := 101) C0.1 C0.2.1 dX6_setTray_101 (lv_at hl 1 rfl) ?_
                refine lv_iload_n (pc := 103) C0.1 C0.2.1 dX6_setTray_103 rfl (lv_at hl 5 rfl) ?_
                obtain ⟨u24, hu, hf⟩ := nm_f hf
                refine x_put (pc := 104) hI C0 hK hw (jy_T hT18) (ly_T hT18) rfl inX5 tyX5_ok nmX5 3 (by decide) wf_X6_119 rfl rfl rfl hu rfl rfl dX6_setTray_104 (fun H locs hw => ?_)
                refine lv_goto (tgt := 116) (pc := 107) C0.1 C0.2.1 dX6_setTray_107 (by decide) ?_
                refine lv_iload (pc := 116) C0.1 C0.2.1 dX6_setTray_116 (lv_at hl 0 rfl) ?_
                exact x_iret (pc := 118) C0 hK hk hr hw (Option.some.inj hf) dX6_setTray_118
          · have hf := if_t hf hc
            refine lv_aload (pc := 56) C0.1 C0.2.1 dX6_setTray_56 (lv_at hl 0 rfl) ?_
            refine x_get (pc := 58) (v := .int (u.1 (12 * 0 + v1.toNatClampNeg) 5)) C0 hK hw (jy_T hT18) (ly_T hT18) rfl inX5 5 (by decide) wf_X6_112 rfl rfl dX6_setTray_58 ?_
            refine lv_if_eq (tgt := 67) (pc := 61) C0.1 C0.2.1 dX6_setTray_61 (by decide) (fun hc => ?_) (fun hc => ?_)
            · have hf := if_t hf hc
              refine lv_iload_n (pc := 67) C0.1 C0.2.1 dX6_setTray_67 rfl (lv_at hl 3 rfl) ?_
              refine lv_if_ne (tgt := 79) (pc := 68) C0.1 C0.2.1 dX6_setTray_68 (by decide) (fun hc => ?_) (fun hc => ?_)
              · have hf := if_f hf hc
                refine lv_aload (pc := 79) C0.1 C0.2.1 dX6_setTray_79 (lv_at hl 0 rfl) ?_
                refine x_get (pc := 81) (v := .int (u.1 (12 * 0 + v1.toNatClampNeg) 4)) C0 hK hw (jy_T hT18) (ly_T hT18) rfl inX5 4 (by decide) wf_X6_122 rfl rfl dX6_setTray_81 ?_
                refine lv_istore (pc := 84) (lv' := [(5, .int (u.1 (12 * 0 + v1.toNatClampNeg) 4)), (4, .ref (ad (12 * 0 + v1.toNatClampNeg))), (0, .ref (ad 167)), (1, .int v1), (2, .int v2), (3, .int v3)]) C0.1 C0.2.1 dX6_setTray_84 hl (by decide) rfl (fun ls hl => ?_)
                refine lv_aload_n (pc := 86) C0.1 C0.2.1 dX6_setTray_86 rfl (lv_at hl 2 rfl) ?_
                refine x_get (pc := 87) (v := .ref (ad 158)) C0 hK hw (by decide) ly_M rfl inX6 1 (by decide) wf_X6_19 rfl rfl dX6_setTray_87 ?_
                refine lv_aload_n (pc := 90) C0.1 C0.2.1 dX6_setTray_90 rfl (lv_at hl 2 rfl) ?_
                refine x_get (pc := 91) (v := .ref (ad (132 + 0))) C0 hK hw (by decide) ly_M rfl inX6 0 (by decide) wf_X6_10 rfl rfl dX6_setTray_91 ?_
                obtain ⟨q25, hq25, hf⟩ := bd_e hf
                refine x_backv (pc := 94) hw (x_runV (pc := 94) (As := [.ref (ad (132 + 0))]) (rest := []) C0 hK hw hl.1 ⟨Nat.zero_le _, Nat.zero_le _⟩ (kX2_record l D y ad hI 0 (by decide) u hq25) (by decide) ly_H rfl rfl wc_X2_record wm_X6_58 wi_X2_record ws_X2_record wn_X2 ⟨rfl, rfl⟩ hd_X2_record rfl ⟨Nat.le_of_ble_eq_true rfl, Nat.le_of_ble_eq_true rfl⟩ (Nat.le_of_ble_eq_true rfl) dX6_setTray_94) (fun H locs hw => ?_)
                refine lv_iload_n (pc := 97) C0.1 C0.2.1 dX6_setTray_97 rfl (lv_at hl 4 rfl) ?_
                refine lv_if_ne (tgt := 110) (pc := 98) C0.1 C0.2.1 dX6_setTray_98 (by decide) (fun hc => ?_) (fun hc => ?_)
                · have hf := if_f hf hc
                  refine lv_aload (pc := 110) C0.1 C0.2.1 dX6_setTray_110 (lv_at hl 1 rfl) ?_
                  refine lv_iload_n (pc := 112) C0.1 C0.2.1 dX6_setTray_112 rfl (lv_at hl 5 rfl) ?_
                  obtain ⟨u26, hu, hf⟩ := nm_f hf
                  refine x_put (pc := 113) hI C0 hK hw (jy_T hT18) (ly_T hT18) rfl inX5 tyX5_ok nmX5 4 (by decide) wf_X6_122 rfl rfl rfl hu rfl rfl dX6_setTray_113 (fun H locs hw => ?_)
                  refine lv_iload (pc := 116) C0.1 C0.2.1 dX6_setTray_116 (lv_at hl 0 rfl) ?_
                  exact x_iret (pc := 118) C0 hK hk hr hw (Option.some.inj hf) dX6_setTray_118
                · have hf := if_t hf hc
                  refine lv_aload (pc := 101) C0.1 C0.2.1 dX6_setTray_101 (lv_at hl 1 rfl) ?_
                  refine lv_iload_n (pc := 103) C0.1 C0.2.1 dX6_setTray_103 rfl (lv_at hl 5 rfl) ?_
                  obtain ⟨u27, hu, hf⟩ := nm_f hf
                  refine x_put (pc := 104) hI C0 hK hw (jy_T hT18) (ly_T hT18) rfl inX5 tyX5_ok nmX5 3 (by decide) wf_X6_119 rfl rfl rfl hu rfl rfl dX6_setTray_104 (fun H locs hw => ?_)
                  refine lv_goto (tgt := 116) (pc := 107) C0.1 C0.2.1 dX6_setTray_107 (by decide) ?_
                  refine lv_iload (pc := 116) C0.1 C0.2.1 dX6_setTray_116 (lv_at hl 0 rfl) ?_
                  exact x_iret (pc := 118) C0 hK hk hr hw (Option.some.inj hf) dX6_setTray_118
              · have hf := if_t hf hc
                refine lv_aload (pc := 71) C0.1 C0.2.1 dX6_setTray_71 (lv_at hl 0 rfl) ?_
                refine x_get (pc := 73) (v := .int (u.1 (12 * 0 + v1.toNatClampNeg) 3)) C0 hK hw (jy_T hT18) (ly_T hT18) rfl inX5 3 (by decide) wf_X6_119 rfl rfl dX6_setTray_73 ?_
                refine lv_goto (tgt := 84) (pc := 76) C0.1 C0.2.1 dX6_setTray_76 (by decide) ?_
                refine lv_istore (pc := 84) (lv' := [(5, .int (u.1 (12 * 0 + v1.toNatClampNeg) 3)), (4, .ref (ad (12 * 0 + v1.toNatClampNeg))), (0, .ref (ad 167)), (1, .int v1), (2, .int v2), (3, .int v3)]) C0.1 C0.2.1 dX6_setTray_84 hl (by decide) rfl (fun ls hl => ?_)
                refine lv_aload_n (pc := 86) C0.1 C0.2.1 dX6_setTray_86 rfl (lv_at hl 2 rfl) ?_
                refine x_get (pc := 87) (v := .ref (ad 158)) C0 hK hw (by decide) ly_M rfl inX6 1 (by decide) wf_X6_19 rfl rfl dX6_setTray_87 ?_
                refine lv_aload_n (pc := 90) C0.1 C0.2.1 dX6_setTray_90 rfl (lv_at hl 2 rfl) ?_
                refine x_get (pc := 91) (v := .ref (ad (132 + 0))) C0 hK hw (by decide) ly_M rfl inX6 0 (by decide) wf_X6_10 rfl rfl dX6_setTray_91 ?_
                obtain ⟨q28, hq28, hf⟩ := bd_e hf
                refine x_backv (pc := 94) hw (x_runV (pc := 94) (As := [.ref (ad (132 + 0))]) (rest := []) C0 hK hw hl.1 ⟨Nat.zero_le _, Nat.zero_le _⟩ (kX2_record l D y ad hI 0 (by decide) u hq28) (by decide) ly_H rfl rfl wc_X2_record wm_X6_58 wi_X2_record ws_X2_record wn_X2 ⟨rfl, rfl⟩ hd_X2_record rfl ⟨Nat.le_of_ble_eq_true rfl, Nat.le_of_ble_eq_true rfl⟩ (Nat.le_of_ble_eq_true rfl) dX6_setTray_94) (fun H locs hw => ?_)
                refine lv_iload_n (pc := 97) C0.1 C0.2.1 dX6_setTray_97 rfl (lv_at hl 4 rfl) ?_
                refine lv_if_ne (tgt := 110) (pc := 98) C0.1 C0.2.1 dX6_setTray_98 (by decide) (fun hc => ?_) (fun hc => ?_)
                · have hf := if_f hf hc
                  refine lv_aload (pc := 110) C0.1 C0.2.1 dX6_setTray_110 (lv_at hl 1 rfl) ?_
                  refine lv_iload_n (pc := 112) C0.1 C0.2.1 dX6_setTray_112 rfl (lv_at hl 5 rfl) ?_
                  obtain ⟨u29, hu, hf⟩ := nm_f hf
                  refine x_put (pc := 113) hI C0 hK hw (jy_T hT18) (ly_T hT18) rfl inX5 tyX5_ok nmX5 4 (by decide) wf_X6_122 rfl rfl rfl hu rfl rfl dX6_setTray_113 (fun H locs hw => ?_)
                  refine lv_iload (pc := 116) C0.1 C0.2.1 dX6_setTray_116 (lv_at hl 0 rfl) ?_
                  exact x_iret (pc := 118) C0 hK hk hr hw (Option.some.inj hf) dX6_setTray_118
                · have hf := if_t hf hc
                  refine lv_aload (pc := 101) C0.1 C0.2.1 dX6_setTray_101 (lv_at hl 1 rfl) ?_
                  refine lv_iload_n (pc := 103) C0.1 C0.2.1 dX6_setTray_103 rfl (lv_at hl 5 rfl) ?_
                  obtain ⟨u30, hu, hf⟩ := nm_f hf
                  refine x_put (pc := 104) hI C0 hK hw (jy_T hT18) (ly_T hT18) rfl inX5 tyX5_ok nmX5 3 (by decide) wf_X6_119 rfl rfl rfl hu rfl rfl dX6_setTray_104 (fun H locs hw => ?_)
                  refine lv_goto (tgt := 116) (pc := 107) C0.1 C0.2.1 dX6_setTray_107 (by decide) ?_
                  refine lv_iload (pc := 116) C0.1 C0.2.1 dX6_setTray_116 (lv_at hl 0 rfl) ?_
                  exact x_iret (pc := 118) C0 hK hk hr hw (Option.some.inj hf) dX6_setTray_118
            · have hf := if_f hf hc
              refine lv_bipush (v := (-2)) (pc := 64) C0.1 C0.2.1 dX6_setTray_64 (by decide) ?_
              exact x_iret (pc := 66) C0 hK hk hr hw (Option.some.inj hf) dX6_setTray_66
        · have hf := if_t hf hc
          refine lv_iconst (v := (-1)) (pc := 38) C0.1 C0.2.1 dX6_setTray_38 (by decide) ?_
          exact x_iret (pc := 39) C0 hK hk hr hw (Option.some.inj hf) dX6_setTray_39
def wX6_letDown : List Cond := .code yX6_letDown cX6_letDown 6 (some .int) :: lwT
def rX6_letDown : Room := { frames := 4, cells := 0, slots := 0, locals := 92 }
set_option maxRecDepth 100000 in
set_option maxHeartbeats 4000000 in
theorem kX6_letDown (l : Launch) (D : va_G) (y : Nat → ClassId) (ad : Nat → Nat) (hI : XI ad 168) (v1 : Int32) (v2 : Int32) (v3 : Int32) (v4 : Int32) (u : S) {o : Int32 × S} (hf : fX6_letDown v1 v2 v3 v4 u = some o) : Met l yX6_letDown wX6_letDown rX6_letDown (va_Pc [.ref (ad 167), .int v1, .int v2, .int v3, .int v4] (XW D y ad LX 168 u)) (XQi D y ad LX 168 o) 0 0 (XA ad 168) := by
  refine x_met (bytes := cX6_letDown) (maxL := 6) (ret := (some .int)) (own := RX6) (by decide) rfl rfl (Nat.le_of_ble_eq_true rfl) (fun p e s m below meth c ls C0 hK hk hr hw hl => ?_)
  have hl : lv_has ls 6 [(0, .ref (ad 167)), (1, .int v1), (2, .int v2), (3, .int v3), (4, .int v4)] := hl
  unfold fX6_letDown at hf
  refine lv_aload_n (pc := 0) C0.1 C0.2.1 dX6_letDown_0 rfl (lv_at hl 0 rfl) ?_
  refine x_get (pc := 1) (v := .ref (ad (132 + 0))) C0 hK hw (by decide) ly_M rfl inX6 0 (by decide) wf_X6_10 rfl rfl dX6_letDown_1 ?_
  refine lv_iload_n (pc := 4) C0.1 C0.2.1 dX6_letDown_4 rfl (lv_at hl 1 rfl) ?_
  obtain ⟨q1, hq1, hf⟩ := bd_e hf
  refine x_backp (pc := 5) hw (x_runV (pc := 5) (As := [.int v1]) (rest := []) C0 hK hw hl.1 ⟨Nat.zero_le _, Nat.zero_le _⟩ (kX0_has l D y ad hI 0 (by decide) v1 u hq1) (jy_B (by decide)) (ly_B (by decide)) rfl rfl wc_X0_has wm_X6_108 wi_X0_has ws_X0_has wn_X0 ⟨rfl, rfl⟩ hd_X0_has rfl ⟨Nat.le_of_ble_eq_true rfl, Nat.le_of_ble_eq_true rfl⟩ (Nat.le_of_ble_eq_true rfl) dX6_letDown_5) (fun H locs hw => ?_)
  refine lv_if_eq (tgt := 34) (pc := 8) C0.1 C0.2.1 dX6_letDown_8 (by decide) (fun hc => ?_) (fun hc => ?_)
  · have hf := if_t hf hc
    refine lv_iconst (v := (-1)) (pc := 34) C0.1 C0.2.1 dX6_letDown_34 (by decide) ?_
    exact x_iret (pc := 35) C0 hK hk hr hw (Option.some.inj hf) dX6_letDown_35
  · have hf := if_f hf hc
    refine lv_aload_n (pc := 11) C0.1 C0.2.1 dX6_letDown_11 rfl (lv_at hl 0 rfl) ?_
    refine x_get (pc := 12) (v := .ref (ad (132 + 0))) C0 hK hw (by decide) ly_M rfl inX6 0 (by decide) wf_X6_10 rfl rfl dX6_letDown_12 ?_
    refine lv_aload_n (pc := 15) C0.1 C0.2.1 dX6_letDown_15 rfl (lv_at hl 0 rfl) ?_
    refine x_get (pc := 16) (v := .ref (ad (132 + 0))) C0 hK hw (by decide) ly_M rfl inX6 0 (by decide) wf_X6_10 rfl rfl dX6_letDown_16 ?_
    refine x_get (pc := 19) (v := .ref (ad (143 + 0))) C0 hK hw (jy_B (by decide)) (ly_B (by decide)) rfl inX0 5 (by decide) wf_X6_98 rfl rfl dX6_letDown_19 ?_
    refine lv_iload_n (pc := 22) C0.1 C0.2.1 dX6_letDown_22 rfl (lv_at hl 1 rfl) ?_
    obtain ⟨hi, hf⟩ := gd_e hf
    have hT2 : 12 * 0 + v1.toNatClampNeg < 132 := tb (by decide) (inb_lt hi)
    refine x_aldT (pc := 23) (t := 12 * 0 + v1.toNatClampNeg) C0 hK hw (jy_R (by decide)) (ly_R (by decide)) hi rfl dX6_letDown_23 ?_
    refine lv_iload_n (pc := 24) C0.1 C0.2.1 dX6_letDown_24 rfl (lv_at hl 2 rfl) ?_
    refine lv_iload_n (pc := 25) C0.1 C0.2.1 dX6_letDown_25 rfl (lv_at hl 3 rfl) ?_
    refine lv_iload (pc := 26) C0.1 C0.2.1 dX6_letDown_26 (lv_at hl 4 rfl) ?_
    obtain ⟨q3, hq3, hf⟩ := bd_e hf
    refine x_backp (pc := 28) hw (x_runV (pc := 28) (As := [.ref (ad (12 * 0 + v1.toNatClampNeg)), .int v2, .int v3, .int v4]) (rest := []) C0 hK hw hl.1 ⟨Nat.zero_le _, Nat.zero_le _⟩ (kX0_encloses l D y ad hI 0 (by decide) (12 * 0 + v1.toNatClampNeg) hT2 v2 v3 v4 u hq3) (jy_B (by decide)) (ly_B (by decide)) rfl rfl wc_X0_encloses wm_X6_125 wi_X0_encloses ws_X0_encloses wn_X0 ⟨rfl, rfl⟩ hd_X0_encloses rfl ⟨Nat.le_of_ble_eq_true rfl, Nat.le_of_ble_eq_true rfl⟩ (Nat.le_of_ble_eq_true rfl) dX6_letDown_28) (fun H locs hw => ?_)
    refine lv_if_ne (tgt := 36) (pc := 31) C0.1 C0.2.1 dX6_letDown_31 (by decide) (fun hc => ?_) (fun hc => ?_)
    · have hf := if_f hf hc
      refine lv_aload_n (pc := 36) C0.1 C0.2.1 dX6_letDown_36 rfl (lv_at hl 0 rfl) ?_
      refine x_get (pc := 37) (v := .ref (ad (132 + 0))) C0 hK hw (by decide) ly_M rfl inX6 0 (by decide) wf_X6_10 rfl rfl dX6_letDown_37 ?_
      refine x_get (pc := 40) (v := .ref (ad (143 + 0))) C0 hK hw (jy_B (by decide)) (ly_B (by decide)) rfl inX0 5 (by decide) wf_X6_98 rfl rfl dX6_letDown_40 ?_
      refine lv_iload_n (pc := 43) C0.1 C0.2.1 dX6_letDown_43 rfl (lv_at hl 1 rfl) ?_
      obtain ⟨hi, hf⟩ := gd_e hf
      have hT4 : 12 * 0 + v1.toNatClampNeg < 132 := tb (by decide) (inb_lt hi)
      refine x_aldT (pc := 44) (t := 12 * 0 + v1.toNatClampNeg) C0 hK hw (jy_R (by decide)) (ly_R (by decide)) hi rfl dX6_letDown_44 ?_
      refine lv_astore (pc := 45) (lv' := [(5, .ref (ad (12 * 0 + v1.toNatClampNeg))), (0, .ref (ad 167)), (1, .int v1), (2, .int v2), (3, .int v3), (4, .int v4)]) C0.1 C0.2.1 dX6_letDown_45 hl (by decide) rfl (fun ls hl => ?_)
      refine lv_aload (pc := 47) C0.1 C0.2.1 dX6_letDown_47 (lv_at hl 0 rfl) ?_
      refine x_get (pc := 49) (v := .int (u.1 (12 * 0 + v1.toNatClampNeg) 5)) C0 hK hw (jy_T hT4) (ly_T hT4) rfl inX5 5 (by decide) wf_X6_112 rfl rfl dX6_letDown_49 ?_
      refine lv_if_eq (tgt := 58) (pc := 52) C0.1 C0.2.1 dX6_letDown_52 (by decide) (fun hc => ?_) (fun hc => ?_)
      · have hf := if_t hf hc
        refine lv_aload_n (pc := 58) C0.1 C0.2.1 dX6_letDown_58 rfl (lv_at hl 1 rfl) ?_
        refine x_get (pc := 59) (v := .ref (ad (154 + 0))) C0 hK hw (by decide) ly_M rfl inX6 3 (by decide) wf_X6_33 rfl rfl dX6_letDown_59 ?_
        refine lv_aload_n (pc := 62) C0.1 C0.2.1 dX6_letDown_62 rfl (lv_at hl 1 rfl) ?_
        refine x_get (pc := 63) (v := .ref (ad (132 + 0))) C0 hK hw (by decide) ly_M rfl inX6 0 (by decide) wf_X6_10 rfl rfl dX6_letDown_63 ?_
        obtain ⟨q5, hq5, hf⟩ := bd_e hf
        refine x_backv (pc := 66) hw (x_runV (pc := 66) (As := [.ref (ad (132 + 0))]) (rest := []) C0 hK hw hl.1 ⟨Nat.zero_le _, Nat.zero_le _⟩ (kX1_survey l D y ad hI 0 (by decide) 0 (by decide) u hq5) (jy_F (by decide)) (ly_F (by decide)) rfl rfl wc_X1_survey wm_X6_129 wi_X1_survey ws_X1_survey wn_X1 ⟨rfl, rfl⟩ hd_X1_survey rfl ⟨Nat.le_of_ble_eq_true rfl, Nat.le_of_ble_eq_true rfl⟩ (Nat.le_of_ble_eq_true rfl) dX6_letDown_66) (fun H locs hw => ?_)
        refine lv_aload_n (pc := 69) C0.1 C0.2.1 dX6_letDown_69 rfl (lv_at hl 1 rfl) ?_
        refine x_get (pc := 70) (v := .ref (ad (154 + 0))) C0 hK hw (by decide) ly_M rfl inX6 3 (by decide) wf_X6_33 rfl rfl dX6_letDown_70 ?_
        refine lv_aload_n (pc := 73) C0.1 C0.2.1 dX6_letDown_73 rfl (lv_at hl 1 rfl) ?_
        refine x_get (pc := 74) (v := .ref (ad (132 + 0))) C0 hK hw (by decide) ly_M rfl inX6 0 (by decide) wf_X6_10 rfl rfl dX6_letDown_74 ?_
        refine lv_aload (pc := 77) C0.1 C0.2.1 dX6_letDown_77 (lv_at hl 0 rfl) ?_
        refine lv_iload_n (pc := 79) C0.1 C0.2.1 dX6_letDown_79 rfl (lv_at hl 3 rfl) ?_
        refine lv_iload_n (pc := 80) C0.1 C0.2.1 dX6_letDown_80 rfl (lv_at hl 4 rfl) ?_
        refine lv_iload (pc := 81) C0.1 C0.2.1 dX6_letDown_81 (lv_at hl 5 rfl) ?_
        refine lv_aload_n (pc := 83) C0.1 C0.2.1 dX6_letDown_83 rfl (lv_at hl 1 rfl) ?_
        refine x_get (pc := 84) (v := .ref (ad (132 + 0))) C0 hK hw (by decide) ly_M rfl inX6 0 (by decide) wf_X6_10 rfl rfl dX6_letDown_84 ?_
        refine lv_aload (pc := 87) C0.1 C0.2.1 dX6_letDown_87 (lv_at hl 0 rfl) ?_
        obtain ⟨q6, hq6, hf⟩ := bd_e hf
        refine x_backp (pc := 89) hw (x_runV (pc := 89) (As := [.ref (ad (12 * 0 + v1.toNatClampNeg))]) (rest := [.int v4, .int v3, .int v2, .ref (ad (12 * 0 + v1.toNatClampNeg)), .ref (ad (132 + 0)), .ref (ad (154 + 0))]) C0 hK hw hl.1 ⟨Nat.zero_le _, Nat.zero_le _⟩ (kX0_highestFloor l D y ad hI 0 (by decide) (12 * 0 + v1.toNatClampNeg) hT4 q5 hq6) (jy_B (by decide)) (ly_B (by decide)) rfl rfl wc_X0_highestFloor wm_X6_132 wi_X0_highestFloor ws_X0_highestFloor wn_X0 ⟨rfl, rfl⟩ hd_X0_highestFloor rfl ⟨Nat.le_of_ble_eq_true rfl, Nat.le_of_ble_eq_true rfl⟩ (Nat.le_of_ble_eq_true rfl) dX6_letDown_89) (fun H locs hw => ?_)
        obtain ⟨q7, hq7, hf⟩ := bd_e hf
        refine x_back (pc := 92) hw (x_runV (pc := 92) (As := [.ref (ad (132 + 0)), .ref (ad (12 * 0 + v1.toNatClampNeg)), .int v2, .int v3, .int v4, .int q6]) (rest := []) C0 hK hw hl.1 ⟨Nat.zero_le _, Nat.zero_le _⟩ (kX1_holds l D y ad hI 0 (by decide) 0 (by decide) (12 * 0 + v1.toNatClampNeg) hT4 v2 v3 v4 q6 q5 hq7) (jy_F (by decide)) (ly_F (by decide)) rfl rfl wc_X1_holds wm_X6_136 wi_X1_holds ws_X1_holds wn_X1 ⟨rfl, rfl⟩ hd_X1_holds rfl ⟨Nat.le_of_ble_eq_true rfl, Nat.le_of_ble_eq_true rfl⟩ (Nat.le_of_ble_eq_true rfl) dX6_letDown_92) (fun H locs hw => ?_)
        refine lv_if_ne (tgt := 101) (pc := 95) C0.1 C0.2.1 dX6_letDown_95 (by decide) (fun hc => ?_) (fun hc => ?_)
        · have hf := if_f hf hc
          refine lv_aload_n (pc := 101) C0.1 C0.2.1 dX6_letDown_101 rfl (lv_at hl 1 rfl) ?_
          refine x_get (pc := 102) (v := .ref (ad 158)) C0 hK hw (by decide) ly_M rfl inX6 1 (by decide) wf_X6_19 rfl rfl dX6_letDown_102 ?_
          refine lv_aload_n (pc := 105) C0.1 C0.2.1 dX6_letDown_105 rfl (lv_at hl 1 rfl) ?_
          refine x_get (pc := 106) (v := .ref (ad (132 + 0))) C0 hK hw (by decide) ly_M rfl inX6 0 (by decide) wf_X6_10 rfl rfl dX6_letDown_106 ?_
          obtain ⟨q8, hq8, hf⟩ := bd_e hf
          refine x_backv (pc := 109) hw (x_runV (pc := 109) (As := [.ref (ad (132 + 0))]) (rest := []) C0 hK hw hl.1 ⟨Nat.zero_le _, Nat.zero_le _⟩ (kX2_record l D y ad hI 0 (by decide) q7.2 hq8) (by decide) ly_H rfl rfl wc_X2_record wm_X6_58 wi_X2_record ws_X2_record wn_X2 ⟨rfl, rfl⟩ hd_X2_record rfl ⟨Nat.le_of_ble_eq_true rfl, Nat.le_of_ble_eq_true rfl⟩ (Nat.le_of_ble_eq_true rfl) dX6_letDown_109) (fun H locs hw => ?_)
          refine lv_aload (pc := 112) C0.1 C0.2.1 dX6_letDown_112 (lv_at hl 0 rfl) ?_
          refine lv_iload_n (pc := 114) C0.1 C0.2.1 dX6_letDown_114 rfl (lv_at hl 3 rfl) ?_
          refine lv_iload_n (pc := 115) C0.1 C0.2.1 dX6_letDown_115 rfl (lv_at hl 4 rfl) ?_
          refine lv_iload (pc := 116) C0.1 C0.2.1 dX6_letDown_116 (lv_at hl 5 rfl) ?_
          refine lv_aload_n (pc := 118) C0.1 C0.2.1 dX6_letDown_118 rfl (lv_at hl 1 rfl) ?_
          refine x_get (pc := 119) (v := .ref (ad (154 + 0))) C0 hK hw (by decide) ly_M rfl inX6 3 (by decide) wf_X6_33 rfl rfl dX6_letDown_119 ?_
          refine x_get (pc := 122) (v := .int (q8.1 (154 + 0) 1)) C0 hK hw (jy_F (by decide)) (ly_F (by decide)) rfl inX1 1 (by decide) wf_X6_140 rfl rfl dX6_letDown_122 ?_
          refine lv_aload_n (pc := 125) C0.1 C0.2.1 dX6_letDown_125 rfl (lv_at hl 1 rfl) ?_
          refine x_get (pc := 126) (v := .ref (ad (154 + 0))) C0 hK hw (by decide) ly_M rfl inX6 3 (by decide) wf_X6_33 rfl rfl dX6_letDown_126 ?_
          refine x_get (pc := 129) (v := .int (q8.1 (154 + 0) 2)) C0 hK hw (jy_F (by decide)) (ly_F (by decide)) rfl inX1 2 (by decide) wf_X6_143 rfl rfl dX6_letDown_129 ?_
          obtain ⟨q9, hq9, hf⟩ := bd_e hf
          refine x_backv (pc := 132) hw (x_runV (pc := 132) (As := [.int v2, .int v3, .int v4, .int (q8.1 (154 + 0) 1), .int (q8.1 (154 + 0) 2)]) (rest := []) C0 hK hw hl.1 ⟨Nat.zero_le _, Nat.zero_le _⟩ (kX5_lie l D y ad hI (12 * 0 + v1.toNatClampNeg) hT4 v2 v3 v4 (q8.1 (154 + 0) 1) (q8.1 (154 + 0) 2) q8 hq9) (jy_T hT4) (ly_T hT4) rfl rfl wc_X5_lie wm_X6_146 wi_X5_lie ws_X5_lie wn_X5 ⟨rfl, rfl⟩ hd_X5_lie rfl ⟨Nat.le_of_ble_eq_true rfl, Nat.le_of_ble_eq_true rfl⟩ (Nat.le_of_ble_eq_true rfl) dX6_letDown_132) (fun H locs hw => ?_)
          refine lv_aload (pc := 135) C0.1 C0.2.1 dX6_letDown_135 (lv_at hl 0 rfl) ?_
          refine x_get (pc := 137) (v := .int (q9.1 (12 * 0 + v1.toNatClampNeg) 11)) C0 hK hw (jy_T hT4) (ly_T hT4) rfl inX5 11 (by decide) wf_X6_150 rfl rfl dX6_letDown_137 ?_
          exact x_iret (pc := 140) C0 hK hk hr hw (Option.some.inj hf) dX6_letDown_140
        · have hf := if_t hf hc
          refine lv_bipush (v := (-3)) (pc := 98) C0.1 C0.2.1 dX6_letDown_98 (by decide) ?_
          exact x_iret (pc := 100) C0 hK hk hr hw (Option.some.inj hf) dX6_letDown_100
      · have hf := if_f hf hc
        refine lv_bipush (v := (-2)) (pc := 55) C0.1 C0.2.1 dX6_letDown_55 (by decide) ?_
        exact x_iret (pc := 57) C0 hK hk hr hw (Option.some.inj hf) dX6_letDown_57
    · have hf := if_t hf hc
      refine lv_iconst (v := (-1)) (pc := 34) C0.1 C0.2.1 dX6_letDown_34 (by decide) ?_
      exact x_iret (pc := 35) C0 hK hk hr hw (Option.some.inj hf) dX6_letDown_35
def wX6_takeOut : List Cond := .code yX6_takeOut cX6_takeOut 3 (some .int) :: lwT
def rX6_takeOut : Room := { frames := 4, cells := 0, slots := 0, locals := 85 }
set_option maxRecDepth 100000 in
set_option maxHeartbeats 4000000 in
theorem kX6_takeOut (l : Launch) (D : va_G) (y : Nat → ClassId) (ad : Nat → Nat) (hI : XI ad 168) (v1 : Int32) (u : S) {o : Int32 × S} (hf : fX6_takeOut v1 u = some o) : Met l yX6_takeOut wX6_takeOut rX6_takeOut (va_Pc [.ref (ad 167), .int v1] (XW D y ad LX 168 u)) (XQi D y ad LX 168 o) 0 0 (XA ad 168) := by
  refine x_met (bytes := cX6_takeOut) (maxL := 3) (ret := (some .int)) (own := RX6) (by decide) rfl rfl (Nat.le_of_ble_eq_true rfl) (fun p e s m below meth c ls C0 hK hk hr hw hl => ?_)
  have hl : lv_has ls 3 [(0, .ref (ad 167)), (1, .int v1)] := hl
  unfold fX6_takeOut at hf
  refine lv_aload_n (pc := 0) C0.1 C0.2.1 dX6_takeOut_0 rfl (lv_at hl 0 rfl) ?_
  refine x_get (pc := 1) (v := .ref (ad (132 + 0))) C0 hK hw (by decide) ly_M rfl inX6 0 (by decide) wf_X6_10 rfl rfl dX6_takeOut_1 ?_
  refine lv_iload_n (pc := 4) C0.1 C0.2.1 dX6_takeOut_4 rfl (lv_at hl 1 rfl) ?_
  obtain ⟨q1, hq1, hf⟩ := bd_e hf
  refine x_backp (pc := 5) hw (x_runV (pc := 5) (As := [.int v1]) (rest := []) C0 hK hw hl.1 ⟨Nat.zero_le _, Nat.zero_le _⟩ (kX0_has l D y ad hI 0 (by decide) v1 u hq1) (jy_B (by decide)) (ly_B (by decide)) rfl rfl wc_X0_has wm_X6_108 wi_X0_has ws_X0_has wn_X0 ⟨rfl, rfl⟩ hd_X0_has rfl ⟨Nat.le_of_ble_eq_true rfl, Nat.le_of_ble_eq_true rfl⟩ (Nat.le_of_ble_eq_true rfl) dX6_takeOut_5) (fun H locs hw => ?_)
  refine lv_if_ne (tgt := 13) (pc := 8) C0.1 C0.2.1 dX6_takeOut_8 (by decide) (fun hc => ?_) (fun hc => ?_)
  · have hf := if_f hf hc
    refine lv_aload_n (pc := 13) C0.1 C0.2.1 dX6_takeOut_13 rfl (lv_at hl 0 rfl) ?_
    refine x_get (pc := 14) (v := .ref (ad (132 + 0))) C0 hK hw (by decide) ly_M rfl inX6 0 (by decide) wf_X6_10 rfl rfl dX6_takeOut_14 ?_
    refine x_get (pc := 17) (v := .ref (ad (143 + 0))) C0 hK hw (jy_B (by decide)) (ly_B (by decide)) rfl inX0 5 (by decide) wf_X6_98 rfl rfl dX6_takeOut_17 ?_
    refine lv_iload_n (pc := 20) C0.1 C0.2.1 dX6_takeOut_20 rfl (lv_at hl 1 rfl) ?_
    obtain ⟨hi, hf⟩ := gd_e hf
    have hT2 : 12 * 0 + v1.toNatClampNeg < 132 := tb (by decide) (inb_lt hi)
    refine x_aldT (pc := 21) (t := 12 * 0 + v1.toNatClampNeg) C0 hK hw (jy_R (by decide)) (ly_R (by decide)) hi rfl dX6_takeOut_21 ?_
    refine lv_astore_n (pc := 22) (lv' := [(2, .ref (ad (12 * 0 + v1.toNatClampNeg))), (0, .ref (ad 167)), (1, .int v1)]) C0.1 C0.2.1 dX6_takeOut_22 rfl hl (by decide) rfl (fun ls hl => ?_)
    refine lv_aload_n (pc := 23) C0.1 C0.2.1 dX6_takeOut_23 rfl (lv_at hl 0 rfl) ?_
    refine x_get (pc := 24) (v := .int (u.1 (12 * 0 + v1.toNatClampNeg) 5)) C0 hK hw (jy_T hT2) (ly_T hT2) rfl inX5 5 (by decide) wf_X6_112 rfl rfl dX6_takeOut_24 ?_
    refine lv_if_eq (tgt := 41) (pc := 27) C0.1 C0.2.1 dX6_takeOut_27 (by decide) (fun hc => ?_) (fun hc => ?_)
    · have hf := if_t hf hc
      refine lv_bipush (v := (-2)) (pc := 41) C0.1 C0.2.1 dX6_takeOut_41 (by decide) ?_
      exact x_iret (pc := 43) C0 hK hk hr hw (Option.some.inj hf) dX6_takeOut_43
    · have hf := if_f hf hc
      refine lv_aload_n (pc := 30) C0.1 C0.2.1 dX6_takeOut_30 rfl (lv_at hl 1 rfl) ?_
      refine x_get (pc := 31) (v := .ref (ad (132 + 0))) C0 hK hw (by decide) ly_M rfl inX6 0 (by decide) wf_X6_10 rfl rfl dX6_takeOut_31 ?_
      refine lv_iload_n (pc := 34) C0.1 C0.2.1 dX6_takeOut_34 rfl (lv_at hl 2 rfl) ?_
      obtain ⟨q3, hq3, hf⟩ := bd_e hf
      refine x_backp (pc := 35) hw (x_runV (pc := 35) (As := [.int v1]) (rest := []) C0 hK hw hl.1 ⟨Nat.zero_le _, Nat.zero_le _⟩ (kX0_isFree l D y ad hI 0 (by decide) v1 u hq3) (jy_B (by decide)) (ly_B (by decide)) rfl rfl wc_X0_isFree wm_X6_151 wi_X0_isFree ws_X0_isFree wn_X0 ⟨rfl, rfl⟩ hd_X0_isFree rfl ⟨Nat.le_of_ble_eq_true rfl, Nat.le_of_ble_eq_true rfl⟩ (Nat.le_of_ble_eq_true rfl) dX6_takeOut_35) (fun H locs hw => ?_)
      refine lv_if_ne (tgt := 44) (pc := 38) C0.1 C0.2.1 dX6_takeOut_38 (by decide) (fun hc => ?_) (fun hc => ?_)
      · have hf := if_f hf hc
        refine lv_aload_n (pc := 44) C0.1 C0.2.1 dX6_takeOut_44 rfl (lv_at hl 1 rfl) ?_
        refine x_get (pc := 45) (v := .ref (ad 158)) C0 hK hw (by decide) ly_M rfl inX6 1 (by decide) wf_X6_19 rfl rfl dX6_takeOut_45 ?_
        refine lv_aload_n (pc := 48) C0.1 C0.2.1 dX6_takeOut_48 rfl (lv_at hl 1 rfl) ?_
        refine x_get (pc := 49) (v := .ref (ad (132 + 0))) C0 hK hw (by decide) ly_M rfl inX6 0 (by decide) wf_X6_10 rfl rfl dX6_takeOut_49 ?_
        obtain ⟨q4, hq4, hf⟩ := bd_e hf
        refine x_backv (pc := 52) hw (x_runV (pc := 52) (As := [.ref (ad (132 + 0))]) (rest := []) C0 hK hw hl.1 ⟨Nat.zero_le _, Nat.zero_le _⟩ (kX2_record l D y ad hI 0 (by decide) u hq4) (by decide) ly_H rfl rfl wc_X2_record wm_X6_58 wi_X2_record ws_X2_record wn_X2 ⟨rfl, rfl⟩ hd_X2_record rfl ⟨Nat.le_of_ble_eq_true rfl, Nat.le_of_ble_eq_true rfl⟩ (Nat.le_of_ble_eq_true rfl) dX6_takeOut_52) (fun H locs hw => ?_)
        refine lv_aload_n (pc := 55) C0.1 C0.2.1 dX6_takeOut_55 rfl (lv_at hl 0 rfl) ?_
        obtain ⟨q5, hq5, hf⟩ := bd_e hf
        refine x_backv (pc := 56) hw (x_runV (pc := 56) (As := []) (rest := []) C0 hK hw hl.1 ⟨Nat.zero_le _, Nat.zero_le _⟩ (kX5_leave l D y ad hI (12 * 0 + v1.toNatClampNeg) hT2 q4 hq5) (jy_T hT2) (ly_T hT2) rfl rfl wc_X5_leave wm_X6_154 wi_X5_leave ws_X5_leave wn_X5 ⟨rfl, rfl⟩ hd_X5_leave rfl ⟨Nat.le_of_ble_eq_true rfl, Nat.le_of_ble_eq_true rfl⟩ (Nat.le_of_ble_eq_true rfl) dX6_takeOut_56) (fun H locs hw => ?_)
        refine lv_aload_n (pc := 59) C0.1 C0.2.1 dX6_takeOut_59 rfl (lv_at hl 0 rfl) ?_
        refine x_get (pc := 60) (v := .int (q5.1 (12 * 0 + v1.toNatClampNeg) 11)) C0 hK hw (jy_T hT2) (ly_T hT2) rfl inX5 11 (by decide) wf_X6_150 rfl rfl dX6_takeOut_60 ?_
        exact x_iret (pc := 63) C0 hK hk hr hw (Option.some.inj hf) dX6_takeOut_63
      · have hf := if_t hf hc
        refine lv_bipush (v := (-2)) (pc := 41) C0.1 C0.2.1 dX6_takeOut_41 (by decide) ?_
        exact x_iret (pc := 43) C0 hK hk hr hw (Option.some.inj hf) dX6_takeOut_43
  · have hf := if_t hf hc
    refine lv_iconst (v := (-1)) (pc := 11) C0.1 C0.2.1 dX6_takeOut_11 (by decide) ?_
    exact x_iret (pc := 12) C0 hK hk hr hw (Option.some.inj hf) dX6_takeOut_12
def wX6_placedProperty : List Cond := .code yX6_placedProperty cX6_placedProperty 4 (some .int) :: lwT
def rX6_placedProperty : Room := { frames := 4, cells := 0, slots := 0, locals := 92 }
set_option maxRecDepth 100000 in
set_option maxHeartbeats 4000000 in
theorem kX6_placedProperty (l : Launch) (D : va_G) (y : Nat → ClassId) (ad : Nat → Nat) (hI : XI ad 168) (v1 : Int32) (v2 : Int32) (u : S) {o : Int32} (hf : fX6_placedProperty v1 v2 u = some o) : Met l yX6_placedProperty wX6_placedProperty rX6_placedProperty (va_Pc [.ref (ad 167), .int v1, .int v2] (XW D y ad LX 168 u)) (XQi D y ad LX 168 (o, u)) 0 0 (XA ad 168) := by
  refine x_met (bytes := cX6_placedProperty) (maxL := 4) (ret := (some .int)) (own := RX6) (by decide) rfl rfl (Nat.le_of_ble_eq_true rfl) (fun p e s m below meth c ls C0 hK hk hr hw hl => ?_)
  have hl : lv_has ls 4 [(0, .ref (ad 167)), (1, .int v1), (2, .int v2)] := hl
  unfold fX6_placedProperty at hf
  refine lv_aload_n (pc := 0) C0.1 C0.2.1 dX6_placedProperty_0 rfl (lv_at hl 0 rfl) ?_
  refine x_get (pc := 1) (v := .ref (ad (132 + 0))) C0 hK hw (by decide) ly_M rfl inX6 0 (by decide) wf_X6_10 rfl rfl dX6_placedProperty_1 ?_
  refine x_get (pc := 4) (v := .ref (ad (143 + 0))) C0 hK hw (jy_B (by decide)) (ly_B (by decide)) rfl inX0 5 (by decide) wf_X6_98 rfl rfl dX6_placedProperty_4 ?_
  refine lv_iload_n (pc := 7) C0.1 C0.2.1 dX6_placedProperty_7 rfl (lv_at hl 1 rfl) ?_
  obtain ⟨hi, hf⟩ := gd_e hf
  have hT1 : 12 * 0 + v1.toNatClampNeg < 132 := tb (by decide) (inb_lt hi)
  refine x_aldT (pc := 8) (t := 12 * 0 + v1.toNatClampNeg) C0 hK hw (jy_R (by decide)) (ly_R (by decide)) hi rfl dX6_placedProperty_8 ?_
  refine lv_astore_n (pc := 9) (lv' := [(3, .ref (ad (12 * 0 + v1.toNatClampNeg))), (0, .ref (ad 167)), (1, .int v1), (2, .int v2)]) C0.1 C0.2.1 dX6_placedProperty_9 rfl hl (by decide) rfl (fun ls hl => ?_)
  refine lv_iload_n (pc := 10) C0.1 C0.2.1 dX6_placedProperty_10 rfl (lv_at hl 3 rfl) ?_
  by_cases hc7 : v2 = 7
  · have hf := if_t hf hc7
    refine lv_tableIn (tgt := 56) (pc := 11) C0.1 C0.2.1 dX6_placedProperty_11 (by rw [hc7]; decide) (by rw [hc7]; decide) (by rw [hc7]; rfl) (by decide) ?_
    refine lv_aload_n (pc := 56) C0.1 C0.2.1 dX6_placedProperty_56 rfl (lv_at hl 0 rfl) ?_
    refine x_get (pc := 57) (v := .int (u.1 (12 * 0 + v1.toNatClampNeg) 7)) C0 hK hw (jy_T hT1) (ly_T hT1) rfl inX5 7 (by decide) wf_X6_252 rfl rfl dX6_placedProperty_57 ?_
    exact x_iret (pc := 60) C0 hK hk hr hw (congrArg (fun z => (z, u)) (Option.some.inj hf)) dX6_placedProperty_60
  · have hf := if_f hf hc7
    by_cases hc8 : v2 = 8
    · have hf := if_t hf hc8
      refine lv_tableIn (tgt := 61) (pc := 11) C0.1 C0.2.1 dX6_placedProperty_11 (by rw [hc8]; decide) (by rw [hc8]; decide) (by rw [hc8]; rfl) (by decide) ?_
      refine lv_aload_n (pc := 61) C0.1 C0.2.1 dX6_placedProperty_61 rfl (lv_at hl 0 rfl) ?_
      refine x_get (pc := 62) (v := .int (u.1 (12 * 0 + v1.toNatClampNeg) 8)) C0 hK hw (jy_T hT1) (ly_T hT1) rfl inX5 8 (by decide) wf_X6_255 rfl rfl dX6_placedProperty_62 ?_
      exact x_iret (pc := 65) C0 hK hk hr hw (congrArg (fun z => (z, u)) (Option.some.inj hf)) dX6_placedProperty_65
    · have hf := if_f hf hc8
      by_cases hc9 : v2 = 9
      · have hf := if_t hf hc9
        refine lv_tableIn (tgt := 66) (pc := 11) C0.1 C0.2.1 dX6_placedProperty_11 (by rw [hc9]; decide) (by rw [hc9]; decide) (by rw [hc9]; rfl) (by decide) ?_
        refine lv_aload_n (pc := 66) C0.1 C0.2.1 dX6_placedProperty_66 rfl (lv_at hl 0 rfl) ?_
        refine x_get (pc := 67) (v := .int (u.1 (12 * 0 + v1.toNatClampNeg) 11)) C0 hK hw (jy_T hT1) (ly_T hT1) rfl inX5 11 (by decide) wf_X6_150 rfl rfl dX6_placedProperty_67 ?_
        exact x_iret (pc := 70) C0 hK hk hr hw (congrArg (fun z => (z, u)) (Option.some.inj hf)) dX6_placedProperty_70
      · have hf := if_f hf hc9
        by_cases hc10 : v2 = 10
        · have hf := if_t hf hc10
          refine lv_tableIn (tgt := 71) (pc := 11) C0.1 C0.2.1 dX6_placedProperty_11 (by rw [hc10]; decide) (by rw [hc10]; decide) (by rw [hc10]; rfl) (by decide) ?_
          refine lv_aload_n (pc := 71) C0.1 C0.2.1 dX6_placedProperty_71 rfl (lv_at hl 0 rfl) ?_
          refine x_get (pc := 72) (v := .int (u.1 (12 * 0 + v1.toNatClampNeg) 12)) C0 hK hw (jy_T hT1) (ly_T hT1) rfl inX5 12 (by decide) wf_X6_167 rfl rfl dX6_placedProperty_72 ?_
          exact x_iret (pc := 75) C0 hK hk hr hw (congrArg (fun z => (z, u)) (Option.some.inj hf)) dX6_placedProperty_75
        · have hf := if_f hf hc10
          by_cases hc11 : v2 = 11
          · have hf := if_t hf hc11
            refine lv_tableIn (tgt := 76) (pc := 11) C0.1 C0.2.1 dX6_placedProperty_11 (by rw [hc11]; decide) (by rw [hc11]; decide) (by rw [hc11]; rfl) (by decide) ?_
            refine lv_aload_n (pc := 76) C0.1 C0.2.1 dX6_placedProperty_76 rfl (lv_at hl 1 rfl) ?_
            refine x_get (pc := 77) (v := .ref (ad (132 + 0))) C0 hK hw (by decide) ly_M rfl inX6 0 (by decide) wf_X6_10 rfl rfl dX6_placedProperty_77 ?_
            refine lv_iload_n (pc := 80) C0.1 C0.2.1 dX6_placedProperty_80 rfl (lv_at hl 2 rfl) ?_
            refine lv_aload_n (pc := 81) C0.1 C0.2.1 dX6_placedProperty_81 rfl (lv_at hl 1 rfl) ?_
            refine x_get (pc := 82) (v := .ref (ad (132 + 0))) C0 hK hw (by decide) ly_M rfl inX6 0 (by decide) wf_X6_10 rfl rfl dX6_placedProperty_82 ?_
            obtain ⟨q2, hq2, hf⟩ := bd_e hf
            refine x_backp (pc := 85) hw (x_runV (pc := 85) (As := []) (rest := [.int v1, .ref (ad (132 + 0))]) C0 hK hw hl.1 ⟨Nat.zero_le _, Nat.zero_le _⟩ (kX0_inside l D y ad hI 0 (by decide) u hq2) (jy_B (by decide)) (ly_B (by decide)) rfl rfl wc_X0_inside wm_X6_48 wi_X0_inside ws_X0_inside wn_X0 ⟨rfl, rfl⟩ hd_X0_inside rfl ⟨Nat.le_of_ble_eq_true rfl, Nat.le_of_ble_eq_true rfl⟩ (Nat.le_of_ble_eq_true rfl) dX6_placedProperty_85) (fun H locs hw => ?_)
            obtain ⟨q3, hq3, hf⟩ := bd_e hf
            refine x_backp (pc := 88) hw (x_runV (pc := 88) (As := [.int v1, .int q2]) (rest := []) C0 hK hw hl.1 ⟨Nat.zero_le _, Nat.zero_le _⟩ (kX0_above l D y ad hI 0 (by decide) v1 q2 u hq3) (jy_B (by decide)) (ly_B (by decide)) rfl rfl wc_X0_above wm_X6_258 wi_X0_above ws_X0_above wn_X0 ⟨rfl, rfl⟩ hd_X0_above rfl ⟨Nat.le_of_ble_eq_true rfl, Nat.le_of_ble_eq_true rfl⟩ (Nat.le_of_ble_eq_true rfl) dX6_placedProperty_88) (fun H locs hw => ?_)
            obtain ⟨q4, hq4, hf⟩ := bd_e hf
            refine x_backp (pc := 91) hw (x_runS (pc := 91) (As := [.int q3]) (rest := []) C0 hK hw hl.1 ⟨Nat.zero_le _, Nat.zero_le _⟩ (kJ6_bitCount_0f7a4 l D y ad hI q3 u hq4) rfl wc_J6_bitCount_0f7a4 wm_X6_52 wt_J6_bitCount_0f7a4 wn_J6 ⟨rfl, rfl⟩ hd_J6_bitCount_0f7a4 rfl ⟨Nat.le_of_ble_eq_true rfl, Nat.le_of_ble_eq_true rfl⟩ (Nat.le_of_ble_eq_true rfl) dX6_placedProperty_91) (fun H locs hw => ?_)
            exact x_iret (pc := 94) C0 hK hk hr hw (congrArg (fun z => (z, u)) (Option.some.inj hf)) dX6_placedProperty_94
          · have hf := if_f hf hc11
            by_cases hc12 : v2 = 12
            · have hf := if_t hf hc12
              refine lv_tableIn (tgt := 95) (pc := 11) C0.1 C0.2.1 dX6_placedProperty_11 (by rw [hc12]; decide) (by rw [hc12]; decide) (by rw [hc12]; rfl) (by decide) ?_
              refine lv_aload_n (pc := 95) C0.1 C0.2.1 dX6_placedProperty_95 rfl (lv_at hl 1 rfl) ?_
              refine x_get (pc := 96) (v := .ref (ad (132 + 0))) C0 hK hw (by decide) ly_M rfl inX6 0 (by decide) wf_X6_10 rfl rfl dX6_placedProperty_96 ?_
              refine lv_iload_n (pc := 99) C0.1 C0.2.1 dX6_placedProperty_99 rfl (lv_at hl 2 rfl) ?_
              obtain ⟨q5, hq5, hf⟩ := bd_e hf
              refine x_backp (pc := 100) hw (x_runV (pc := 100) (As := [.int v1]) (rest := []) C0 hK hw hl.1 ⟨Nat.zero_le _, Nat.zero_le _⟩ (kX0_faultOf l D y ad hI 0 (by decide) v1 u hq5) (jy_B (by decide)) (ly_B (by decide)) rfl rfl wc_X0_faultOf wm_X6_261 wi_X0_faultOf ws_X0_faultOf wn_X0 ⟨rfl, rfl⟩ hd_X0_faultOf rfl ⟨Nat.le_of_ble_eq_true rfl, Nat.le_of_ble_eq_true rfl⟩ (Nat.le_of_ble_eq_true rfl) dX6_placedProperty_100) (fun H locs hw => ?_)
              exact x_iret (pc := 103) C0 hK hk hr hw (congrArg (fun z => (z, u)) (Option.some.inj hf)) dX6_placedProperty_103
            · have hf := if_f hf hc12
              by_cases hc13 : v2 = 13
              · have hf := if_t hf hc13
                refine lv_tableIn (tgt := 104) (pc := 11) C0.1 C0.2.1 dX6_placedProperty_11 (by rw [hc13]; decide) (by rw [hc13]; decide) (by rw [hc13]; rfl) (by decide) ?_
                refine lv_aload_n (pc := 104) C0.1 C0.2.1 dX6_placedProperty_104 rfl (lv_at hl 1 rfl) ?_
                refine x_get (pc := 105) (v := .ref (ad (132 + 0))) C0 hK hw (by decide) ly_M rfl inX6 0 (by decide) wf_X6_10 rfl rfl dX6_placedProperty_105 ?_
                refine lv_iload_n (pc := 108) C0.1 C0.2.1 dX6_placedProperty_108 rfl (lv_at hl 2 rfl) ?_
                obtain ⟨q6, hq6, hf⟩ := bd_e hf
                refine x_backp (pc := 109) hw (x_runV (pc := 109) (As := [.int v1]) (rest := []) C0 hK hw hl.1 ⟨Nat.zero_le _, Nat.zero_le _⟩ (kX0_isFree l D y ad hI 0 (by decide) v1 u hq6) (jy_B (by decide)) (ly_B (by decide)) rfl rfl wc_X0_isFree wm_X6_151 wi_X0_isFree ws_X0_isFree wn_X0 ⟨rfl, rfl⟩ hd_X0_isFree rfl ⟨Nat.le_of_ble_eq_true rfl, Nat.le_of_ble_eq_true rfl⟩ (Nat.le_of_ble_eq_true rfl) dX6_placedProperty_109) (fun H locs hw => ?_)
                refine lv_if_eq (tgt := 119) (pc := 112) C0.1 C0.2.1 dX6_placedProperty_112 (by decide) (fun hc => ?_) (fun hc => ?_)
                · have hf := if_t hf hc
                  refine lv_iconst (v := 0) (pc := 119) C0.1 C0.2.1 dX6_placedProperty_119 (by decide) ?_
                  exact x_iret (pc := 120) C0 hK hk hr hw (congrArg (fun z => (z, u)) (Option.some.inj hf)) dX6_placedProperty_120
                · have hf := if_f hf hc
                  refine lv_iconst (v := 1) (pc := 115) C0.1 C0.2.1 dX6_placedProperty_115 (by decide) ?_
                  refine lv_goto (tgt := 120) (pc := 116) C0.1 C0.2.1 dX6_placedProperty_116 (by decide) ?_
                  exact x_iret (pc := 120) C0 hK hk hr hw (congrArg (fun z => (z, u)) (Option.some.inj hf)) dX6_placedProperty_120
              · have hf := if_f hf hc13
                by_cases hc14 : v2 = 14
                · have hf := if_t hf hc14
                  refine lv_tableIn (tgt := 121) (pc := 11) C0.1 C0.2.1 dX6_placedProperty_11 (by rw [hc14]; decide) (by rw [hc14]; decide) (by rw [hc14]; rfl) (by decide) ?_
                  refine lv_aload_n (pc := 121) C0.1 C0.2.1 dX6_placedProperty_121 rfl (lv_at hl 1 rfl) ?_
                  refine x_get (pc := 122) (v := .ref (ad (132 + 0))) C0 hK hw (by decide) ly_M rfl inX6 0 (by decide) wf_X6_10 rfl rfl dX6_placedProperty_122 ?_
                  refine lv_iload_n (pc := 125) C0.1 C0.2.1 dX6_placedProperty_125 rfl (lv_at hl 2 rfl) ?_
                  refine lv_aload_n (pc := 126) C0.1 C0.2.1 dX6_placedProperty_126 rfl (lv_at hl 1 rfl) ?_
                  refine x_get (pc := 127) (v := .ref (ad (132 + 0))) C0 hK hw (by decide) ly_M rfl inX6 0 (by decide) wf_X6_10 rfl rfl dX6_placedProperty_127 ?_
                  obtain ⟨q7, hq7, hf⟩ := bd_e hf
                  refine x_backp (pc := 130) hw (x_runV (pc := 130) (As := []) (rest := [.int v1, .ref (ad (132 + 0))]) C0 hK hw hl.1 ⟨Nat.zero_le _, Nat.zero_le _⟩ (kX0_inside l D y ad hI 0 (by decide) u hq7) (jy_B (by decide)) (ly_B (by decide)) rfl rfl wc_X0_inside wm_X6_48 wi_X0_inside ws_X0_inside wn_X0 ⟨rfl, rfl⟩ hd_X0_inside rfl ⟨Nat.le_of_ble_eq_true rfl, Nat.le_of_ble_eq_true rfl⟩ (Nat.le_of_ble_eq_true rfl) dX6_placedProperty_130) (fun H locs hw => ?_)
                  obtain ⟨q8, hq8, hf⟩ := bd_e hf
                  refine x_backp (pc := 133) hw (x_runV (pc := 133) (As := [.int v1, .int q7]) (rest := []) C0 hK hw hl.1 ⟨Nat.zero_le _, Nat.zero_le _⟩ (kX0_above l D y ad hI 0 (by decide) v1 q7 u hq8) (jy_B (by decide)) (ly_B (by decide)) rfl rfl wc_X0_above wm_X6_258 wi_X0_above ws_X0_above wn_X0 ⟨rfl, rfl⟩ hd_X0_above rfl ⟨Nat.le_of_ble_eq_true rfl, Nat.le_of_ble_eq_true rfl⟩ (Nat.le_of_ble_eq_true rfl) dX6_placedProperty_133) (fun H locs hw => ?_)
                  exact x_iret (pc := 136) C0 hK hk hr hw (congrArg (fun z => (z, u)) (Option.some.inj hf)) dX6_placedProperty_136
                · have hf := if_f hf hc14
                  refine lv_tableOut (tgt := 137) (pc := 11) C0.1 C0.2.1 dX6_placedProperty_11 (by have h7 := lv_neT hc7 (a := 7) (by decide); have h8 := lv_neT hc8 (a := 8) (by decide); have h9 := lv_neT hc9 (a := 9) (by decide); have h10 := lv_neT hc10 (a := 10) (by decide); have h11 := lv_neT hc11 (a := 11) (by decide); have h12 := lv_neT hc12 (a := 12) (by decide); have h13 := lv_neT hc13 (a := 13) (by decide); have h14 := lv_neT hc14 (a := 14) (by decide); omega) (by decide) ?_
                  refine lv_aload_n (pc := 137) C0.1 C0.2.1 dX6_placedProperty_137 rfl (lv_at hl 0 rfl) ?_
                  refine x_get (pc := 138) (v := .int (u.1 (12 * 0 + v1.toNatClampNeg) 13)) C0 hK hw (jy_T hT1) (ly_T hT1) rfl inX5 13 (by decide) wf_X6_264 rfl rfl dX6_placedProperty_138 ?_
                  exact x_iret (pc := 141) C0 hK hk hr hw (congrArg (fun z => (z, u)) (Option.some.inj hf)) dX6_placedProperty_141
def wX6_tray : List Cond := .code yX6_tray cX6_tray 3 (some .int) :: lwT
def rX6_tray : Room := { frames := 5, cells := 0, slots := 0, locals := 115 }
set_option maxRecDepth 100000 in
set_option maxHeartbeats 4000000 in
theorem kX6_tray (l : Launch) (D : va_G) (y : Nat → ClassId) (ad : Nat → Nat) (hI : XI ad 168) (v1 : Int32) (v2 : Int32) (u : S) {o : Int32} (hf : fX6_tray v1 v2 u = some o) : Met l yX6_tray wX6_tray rX6_tray (va_Pc [.ref (ad 167), .int v1, .int v2] (XW D y ad LX 168 u)) (XQi D y ad LX 168 (o, u)) 0 0 (XA ad 168) := by
  refine x_met (bytes := cX6_tray) (maxL := 3) (ret := (some .int)) (own := RX6) (by decide) rfl rfl (Nat.le_of_ble_eq_true rfl) (fun p e s m below meth c ls C0 hK hk hr hw hl => ?_)
  have hl : lv_has ls 3 [(0, .ref (ad 167)), (1, .int v1), (2, .int v2)] := hl
  unfold fX6_tray at hf
  refine lv_aload_n (pc := 0) C0.1 C0.2.1 dX6_tray_0 rfl (lv_at hl 0 rfl) ?_
  refine x_get (pc := 1) (v := .ref (ad (132 + 0))) C0 hK hw (by decide) ly_M rfl inX6 0 (by decide) wf_X6_10 rfl rfl dX6_tray_1 ?_
  refine lv_iload_n (pc := 4) C0.1 C0.2.1 dX6_tray_4 rfl (lv_at hl 1 rfl) ?_
  obtain ⟨q1, hq1, hf⟩ := bd_e hf
  refine x_backp (pc := 5) hw (x_runV (pc := 5) (As := [.int v1]) (rest := []) C0 hK hw hl.1 ⟨Nat.zero_le _, Nat.zero_le _⟩ (kX0_has l D y ad hI 0 (by decide) v1 u hq1) (jy_B (by decide)) (ly_B (by decide)) rfl rfl wc_X0_has wm_X6_108 wi_X0_has ws_X0_has wn_X0 ⟨rfl, rfl⟩ hd_X0_has rfl ⟨Nat.le_of_ble_eq_true rfl, Nat.le_of_ble_eq_true rfl⟩ (Nat.le_of_ble_eq_true rfl) dX6_tray_5) (fun H locs hw => ?_)
  refine lv_if_eq (tgt := 21) (pc := 8) C0.1 C0.2.1 dX6_tray_8 (by decide) (fun hc => ?_) (fun hc => ?_)
  · have hf := if_t hf hc
    refine lv_iconst (v := (-1)) (pc := 21) C0.1 C0.2.1 dX6_tray_21 (by decide) ?_
    exact x_iret (pc := 22) C0 hK hk hr hw (congrArg (fun z => (z, u)) (Option.some.inj hf)) dX6_tray_22
  · have hf := if_f hf hc
    refine lv_iload_n (pc := 11) C0.1 C0.2.1 dX6_tray_11 rfl (lv_at hl 2 rfl) ?_
    refine lv_iconst (v := 0) (pc := 12) C0.1 C0.2.1 dX6_tray_12 (by decide) ?_
    refine lv_bipush (v := 15) (pc := 13) C0.1 C0.2.1 dX6_tray_13 (by decide) ?_
    obtain ⟨q2, hq2, hf⟩ := bd_e hf
    refine x_backp (pc := 15) hw (x_runS (pc := 15) (As := [.int v2, .int 0, .int 15]) (rest := []) C0 hK hw hl.1 ⟨Nat.zero_le _, Nat.zero_le _⟩ (kX6_isWithin l D y ad hI v2 0 15 u hq2) rfl wc_X6_isWithin wm_X6_44 wt_X6_isWithin wn_X6 ⟨rfl, rfl⟩ hd_X6_isWithin rfl ⟨Nat.le_of_ble_eq_true rfl, Nat.le_of_ble_eq_true rfl⟩ (Nat.le_of_ble_eq_true rfl) dX6_tray_15) (fun H locs hw => ?_)
    refine lv_if_ne (tgt := 23) (pc := 18) C0.1 C0.2.1 dX6_tray_18 (by decide) (fun hc => ?_) (fun hc => ?_)
    · have hf := if_f hf hc
      refine lv_iload_n (pc := 23) C0.1 C0.2.1 dX6_tray_23 rfl (lv_at hl 2 rfl) ?_
      refine lv_bipush (v := 7) (pc := 24) C0.1 C0.2.1 dX6_tray_24 (by decide) ?_
      refine lv_icmp_ge (tgt := 43) (pc := 26) C0.1 C0.2.1 dX6_tray_26 (by decide) (fun hc => ?_) (fun hc => ?_)
      · have hf := if_t hf hc
        refine lv_aload_n (pc := 43) C0.1 C0.2.1 dX6_tray_43 rfl (lv_at hl 0 rfl) ?_
        refine x_get (pc := 44) (v := .ref (ad (132 + 0))) C0 hK hw (by decide) ly_M rfl inX6 0 (by decide) wf_X6_10 rfl rfl dX6_tray_44 ?_
        refine x_get (pc := 47) (v := .ref (ad (143 + 0))) C0 hK hw (jy_B (by decide)) (ly_B (by decide)) rfl inX0 5 (by decide) wf_X6_98 rfl rfl dX6_tray_47 ?_
        refine lv_iload_n (pc := 50) C0.1 C0.2.1 dX6_tray_50 rfl (lv_at hl 1 rfl) ?_
        obtain ⟨hi, hf⟩ := gd_e hf
        have hT3 : 12 * 0 + v1.toNatClampNeg < 132 := tb (by decide) (inb_lt hi)
        refine x_aldT (pc := 51) (t := 12 * 0 + v1.toNatClampNeg) C0 hK hw (jy_R (by decide)) (ly_R (by decide)) hi rfl dX6_tray_51 ?_
        refine x_get (pc := 52) (v := .int (u.1 (12 * 0 + v1.toNatClampNeg) 5)) C0 hK hw (jy_T hT3) (ly_T hT3) rfl inX5 5 (by decide) wf_X6_112 rfl rfl dX6_tray_52 ?_
        refine lv_if_eq (tgt := 67) (pc := 55) C0.1 C0.2.1 dX6_tray_55 (by decide) (fun hc => ?_) (fun hc => ?_)
        · have hf := if_t hf hc
          refine lv_bipush (v := (-9)) (pc := 67) C0.1 C0.2.1 dX6_tray_67 (by decide) ?_
          exact x_iret (pc := 69) C0 hK hk hr hw (congrArg (fun z => (z, u)) (Option.some.inj hf)) dX6_tray_69
        · have hf := if_f hf hc
          refine lv_aload_n (pc := 58) C0.1 C0.2.1 dX6_tray_58 rfl (lv_at hl 0 rfl) ?_
          refine lv_iload_n (pc := 59) C0.1 C0.2.1 dX6_tray_59 rfl (lv_at hl 1 rfl) ?_
          refine lv_iload_n (pc := 60) C0.1 C0.2.1 dX6_tray_60 rfl (lv_at hl 2 rfl) ?_
          obtain ⟨q4, hq4, hf⟩ := bd_e hf
          refine x_backp (pc := 61) hw (x_runV (pc := 61) (As := [.int v1, .int v2]) (rest := []) C0 hK hw hl.1 ⟨Nat.zero_le _, Nat.zero_le _⟩ (kX6_placedProperty l D y ad hI v1 v2 u hq4) (by decide) ly_M rfl rfl wc_X6_placedProperty wm_X6_160 wi_X6_placedProperty ws_X6_placedProperty wn_X6 ⟨rfl, rfl⟩ hd_X6_placedProperty rfl ⟨Nat.le_of_ble_eq_true rfl, Nat.le_of_ble_eq_true rfl⟩ (Nat.le_of_ble_eq_true rfl) dX6_tray_61) (fun H locs hw => ?_)
          refine lv_goto (tgt := 69) (pc := 64) C0.1 C0.2.1 dX6_tray_64 (by decide) ?_
          exact x_iret (pc := 69) C0 hK hk hr hw (congrArg (fun z => (z, u)) (Option.some.inj hf)) dX6_tray_69
      · have hf := if_f hf hc
        refine lv_aload_n (pc := 29) C0.1 C0.2.1 dX6_tray_29 rfl (lv_at hl 0 rfl) ?_
        refine x_get (pc := 30) (v := .ref (ad (132 + 0))) C0 hK hw (by decide) ly_M rfl inX6 0 (by decide) wf_X6_10 rfl rfl dX6_tray_30 ?_
        refine x_get (pc := 33) (v := .ref (ad (143 + 0))) C0 hK hw (jy_B (by decide)) (ly_B (by decide)) rfl inX0 5 (by decide) wf_X6_98 rfl rfl dX6_tray_33 ?_
        refine lv_iload_n (pc := 36) C0.1 C0.2.1 dX6_tray_36 rfl (lv_at hl 1 rfl) ?_
        obtain ⟨hi, hf⟩ := gd_e hf
        have hT5 : 12 * 0 + v1.toNatClampNeg < 132 := tb (by decide) (inb_lt hi)
        refine x_aldT (pc := 37) (t := 12 * 0 + v1.toNatClampNeg) C0 hK hw (jy_R (by decide)) (ly_R (by decide)) hi rfl dX6_tray_37 ?_
        refine lv_iload_n (pc := 38) C0.1 C0.2.1 dX6_tray_38 rfl (lv_at hl 2 rfl) ?_
        obtain ⟨q6, hq6, hf⟩ := bd_e hf
        refine x_backp (pc := 39) hw (x_runV (pc := 39) (As := [.int v2]) (rest := []) C0 hK hw hl.1 ⟨Nat.zero_le _, Nat.zero_le _⟩ (kX5_property l D y ad hI (12 * 0 + v1.toNatClampNeg) hT5 v2 u hq6) (jy_T hT5) (ly_T hT5) rfl rfl wc_X5_property wm_X6_157 wi_X5_property ws_X5_property wn_X5 ⟨rfl, rfl⟩ hd_X5_property rfl ⟨Nat.le_of_ble_eq_true rfl, Nat.le_of_ble_eq_true rfl⟩ (Nat.le_of_ble_eq_true rfl) dX6_tray_39) (fun H locs hw => ?_)
        exact x_iret (pc := 42) C0 hK hk hr hw (congrArg (fun z => (z, u)) (Option.some.inj hf)) dX6_tray_42
    · have hf := if_t hf hc
      refine lv_iconst (v := (-1)) (pc := 21) C0.1 C0.2.1 dX6_tray_21 (by decide) ?_
      exact x_iret (pc := 22) C0 hK hk hr hw (congrArg (fun z => (z, u)) (Option.some.inj hf)) dX6_tray_22
def wX6_seen : List Cond := .code yX6_seen cX6_seen 5 (some .int) :: lwT
def rX6_seen : Room := { frames := 2, cells := 0, slots := 0, locals := 47 }
set_option maxRecDepth 100000 in
set_option maxHeartbeats 4000000 in
theorem kX6_seen (l : Launch) (D : va_G) (y : Nat → ClassId) (ad : Nat → Nat) (hI : XI ad 168) (v1 : Int32) (v2 : Int32) (v3 : Int32) (u : S) {o : Int32} (hf : fX6_seen v1 v2 v3 u = some o) : Met l yX6_seen wX6_seen rX6_seen (va_Pc [.ref (ad 167), .int v1, .int v2, .int v3] (XW D y ad LX 168 u)) (XQi D y ad LX 168 (o, u)) 0 0 (XA ad 168) := by
  refine x_met (bytes := cX6_seen) (maxL := 5) (ret := (some .int)) (own := RX6) (by decide) rfl rfl (Nat.le_of_ble_eq_true rfl) (fun p e s m below meth c ls C0 hK hk hr hw hl => ?_)
  have hl : lv_has ls 5 [(0, .ref (ad 167)), (1, .int v1), (2, .int v2), (3, .int v3)] := hl
  unfold fX6_seen at hf
  refine lv_iload_n (pc := 0) C0.1 C0.2.1 dX6_seen_0 rfl (lv_at hl 1 rfl) ?_
  refine lv_iconst (v := 0) (pc := 1) C0.1 C0.2.1 dX6_seen_1 (by decide) ?_
  refine lv_aload_n (pc := 2) C0.1 C0.2.1 dX6_seen_2 rfl (lv_at hl 0 rfl) ?_
  refine x_get (pc := 3) (v := .ref (ad (132 + 0))) C0 hK hw (by decide) ly_M rfl inX6 0 (by decide) wf_X6_10 rfl rfl dX6_seen_3 ?_
  refine x_get (pc := 6) (v := .int (u.1 (132 + 0) 0)) C0 hK hw (jy_B (by decide)) (ly_B (by decide)) rfl inX0 0 (by decide) wf_X6_65 rfl rfl dX6_seen_6 ?_
  refine lv_iconst (v := 1) (pc := 9) C0.1 C0.2.1 dX6_seen_9 (by decide) ?_
  refine lv_isub (pc := 10) C0.1 C0.2.1 dX6_seen_10 ?_
  obtain ⟨q1, hq1, hf⟩ := bd_e hf
  refine x_backp (pc := 11) hw (x_runS (pc := 11) (As := [.int v1, .int 0, .int ((u.1 (132 + 0) 0) - 1)]) (rest := []) C0 hK hw hl.1 ⟨Nat.zero_le _, Nat.zero_le _⟩ (kX6_isWithin l D y ad hI v1 0 ((u.1 (132 + 0) 0) - 1) u hq1) rfl wc_X6_isWithin wm_X6_44 wt_X6_isWithin wn_X6 ⟨rfl, rfl⟩ hd_X6_isWithin rfl ⟨Nat.le_of_ble_eq_true rfl, Nat.le_of_ble_eq_true rfl⟩ (Nat.le_of_ble_eq_true rfl) dX6_seen_11) (fun H locs hw => ?_)
  refine lv_if_eq (tgt := 34) (pc := 14) C0.1 C0.2.1 dX6_seen_14 (by decide) (fun hc => ?_) (fun hc => ?_)
  · have hf := if_t hf hc
    refine lv_iconst (v := (-1)) (pc := 34) C0.1 C0.2.1 dX6_seen_34 (by decide) ?_
    exact x_iret (pc := 35) C0 hK hk hr hw (congrArg (fun z => (z, u)) (Option.some.inj hf)) dX6_seen_35
  · have hf := if_f hf hc
    refine lv_iload_n (pc := 17) C0.1 C0.2.1 dX6_seen_17 rfl (lv_at hl 2 rfl) ?_
    refine lv_iconst (v := 0) (pc := 18) C0.1 C0.2.1 dX6_seen_18 (by decide) ?_
    refine lv_aload_n (pc := 19) C0.1 C0.2.1 dX6_seen_19 rfl (lv_at hl 0 rfl) ?_
    refine x_get (pc := 20) (v := .ref (ad (132 + 0))) C0 hK hw (by decide) ly_M rfl inX6 0 (by decide) wf_X6_10 rfl rfl dX6_seen_20 ?_
    refine x_get (pc := 23) (v := .int (u.1 (132 + 0) 1)) C0 hK hw (jy_B (by decide)) (ly_B (by decide)) rfl inX0 1 (by decide) wf_X6_69 rfl rfl dX6_seen_23 ?_
    refine lv_iconst (v := 1) (pc := 26) C0.1 C0.2.1 dX6_seen_26 (by decide) ?_
    refine lv_isub (pc := 27) C0.1 C0.2.1 dX6_seen_27 ?_
    obtain ⟨q2, hq2, hf⟩ := bd_e hf
    refine x_backp (pc := 28) hw (x_runS (pc := 28) (As := [.int v2, .int 0, .int ((u.1 (132 + 0) 1) - 1)]) (rest := []) C0 hK hw hl.1 ⟨Nat.zero_le _, Nat.zero_le _⟩ (kX6_isWithin l D y ad hI v2 0 ((u.1 (132 + 0) 1) - 1) u hq2) rfl wc_X6_isWithin wm_X6_44 wt_X6_isWithin wn_X6 ⟨rfl, rfl⟩ hd_X6_isWithin rfl ⟨Nat.le_of_ble_eq_true rfl, Nat.le_of_ble_eq_true rfl⟩ (Nat.le_of_ble_eq_true rfl) dX6_seen_28) (fun H locs hw => ?_)
    refine lv_if_ne (tgt := 36) (pc := 31) C0.1 C0.2.1 dX6_seen_31 (by decide) (fun hc => ?_) (fun hc => ?_)
    · have hf := if_f hf hc
      refine lv_aload_n (pc := 36) C0.1 C0.2.1 dX6_seen_36 rfl (lv_at hl 0 rfl) ?_
      refine x_get (pc := 37) (v := .ref (ad (132 + 0))) C0 hK hw (by decide) ly_M rfl inX6 0 (by decide) wf_X6_10 rfl rfl dX6_seen_37 ?_
      refine lv_iload_n (pc := 40) C0.1 C0.2.1 dX6_seen_40 rfl (lv_at hl 1 rfl) ?_
      refine lv_iload_n (pc := 41) C0.1 C0.2.1 dX6_seen_41 rfl (lv_at hl 2 rfl) ?_
      obtain ⟨q3, hq3, hf⟩ := bd_e hf
      refine x_backp (pc := 42) hw (x_runV (pc := 42) (As := [.int v1, .int v2]) (rest := []) C0 hK hw hl.1 ⟨Nat.zero_le _, Nat.zero_le _⟩ (kX0_uppermost l D y ad hI 0 (by decide) v1 v2 u hq3) (jy_B (by decide)) (ly_B (by decide)) rfl rfl wc_X0_uppermost wm_X6_164 wi_X0_uppermost ws_X0_uppermost wn_X0 ⟨rfl, rfl⟩ hd_X0_uppermost rfl ⟨Nat.le_of_ble_eq_true rfl, Nat.le_of_ble_eq_true rfl⟩ (Nat.le_of_ble_eq_true rfl) dX6_seen_42) (fun H locs hw => ?_)
      refine lv_istore (pc := 45) (lv' := [(4, .int q3), (0, .ref (ad 167)), (1, .int v1), (2, .int v2), (3, .int v3)]) C0.1 C0.2.1 dX6_seen_45 hl (by decide) rfl (fun ls hl => ?_)
      refine lv_aload_n (pc := 47) C0.1 C0.2.1 dX6_seen_47 rfl (lv_at hl 1 rfl) ?_
      refine x_get (pc := 48) (v := .ref (ad (132 + 0))) C0 hK hw (by decide) ly_M rfl inX6 0 (by decide) wf_X6_10 rfl rfl dX6_seen_48 ?_
      refine lv_iload (pc := 51) C0.1 C0.2.1 dX6_seen_51 (lv_at hl 0 rfl) ?_
      obtain ⟨q4, hq4, hf⟩ := bd_e hf
      refine x_backp (pc := 53) hw (x_runV (pc := 53) (As := [.int q3]) (rest := []) C0 hK hw hl.1 ⟨Nat.zero_le _, Nat.zero_le _⟩ (kX0_has l D y ad hI 0 (by decide) q3 u hq4) (jy_B (by decide)) (ly_B (by decide)) rfl rfl wc_X0_has wm_X6_108 wi_X0_has ws_X0_has wn_X0 ⟨rfl, rfl⟩ hd_X0_has rfl ⟨Nat.le_of_ble_eq_true rfl, Nat.le_of_ble_eq_true rfl⟩ (Nat.le_of_ble_eq_true rfl) dX6_seen_53) (fun H locs hw => ?_)
      refine lv_if_ne (tgt := 70) (pc := 56) C0.1 C0.2.1 dX6_seen_56 (by decide) (fun hc => ?_) (fun hc => ?_)
      · have hf := if_f hf hc
        refine lv_iload_n (pc := 70) C0.1 C0.2.1 dX6_seen_70 rfl (lv_at hl 4 rfl) ?_
        refine lv_if_eq (tgt := 90) (pc := 71) C0.1 C0.2.1 dX6_seen_71 (by decide) (fun hc => ?_) (fun hc => ?_)
        · have hf := if_t hf hc
          refine lv_iload (pc := 90) C0.1 C0.2.1 dX6_seen_90 (lv_at hl 0 rfl) ?_
          exact x_iret (pc := 92) C0 hK hk hr hw (congrArg (fun z => (z, u)) (Option.some.inj hf)) dX6_seen_92
        · have hf := if_f hf hc
          refine lv_aload_n (pc := 74) C0.1 C0.2.1 dX6_seen_74 rfl (lv_at hl 1 rfl) ?_
          refine x_get (pc := 75) (v := .ref (ad (132 + 0))) C0 hK hw (by decide) ly_M rfl inX6 0 (by decide) wf_X6_10 rfl rfl dX6_seen_75 ?_
          refine x_get (pc := 78) (v := .ref (ad (143 + 0))) C0 hK hw (jy_B (by decide)) (ly_B (by decide)) rfl inX0 5 (by decide) wf_X6_98 rfl rfl dX6_seen_78 ?_
          refine lv_iload (pc := 81) C0.1 C0.2.1 dX6_seen_81 (lv_at hl 0 rfl) ?_
          obtain ⟨hi, hf⟩ := gd_e hf
          have hT5 : 12 * 0 + q3.toNatClampNeg < 132 := tb (by decide) (inb_lt hi)
          refine x_aldT (pc := 83) (t := 12 * 0 + q3.toNatClampNeg) C0 hK hw (jy_R (by decide)) (ly_R (by decide)) hi rfl dX6_seen_83 ?_
          refine x_get (pc := 84) (v := .int (u.1 (12 * 0 + q3.toNatClampNeg) 12)) C0 hK hw (jy_T hT5) (ly_T hT5) rfl inX5 12 (by decide) wf_X6_167 rfl rfl dX6_seen_84 ?_
          refine lv_goto (tgt := 92) (pc := 87) C0.1 C0.2.1 dX6_seen_87 (by decide) ?_
          exact x_iret (pc := 92) C0 hK hk hr hw (congrArg (fun z => (z, u)) (Option.some.inj hf)) dX6_seen_92
      · have hf := if_t hf hc
        refine lv_iload_n (pc := 59) C0.1 C0.2.1 dX6_seen_59 rfl (lv_at hl 4 rfl) ?_
        refine lv_if_eq (tgt := 67) (pc := 60) C0.1 C0.2.1 dX6_seen_60 (by decide) (fun hc => ?_) (fun hc => ?_)
        · have hf := if_t hf hc
          refine lv_bipush (v := (-9)) (pc := 67) C0.1 C0.2.1 dX6_seen_67 (by decide) ?_
          exact x_iret (pc := 69) C0 hK hk hr hw (congrArg (fun z => (z, u)) (Option.some.inj hf)) dX6_seen_69
        · have hf := if_f hf hc
          refine lv_iconst (v := 0) (pc := 63) C0.1 C0.2.1 dX6_seen_63 (by decide) ?_
          refine lv_goto (tgt := 69) (pc := 64) C0.1 C0.2.1 dX6_seen_64 (by decide) ?_
          exact x_iret (pc := 69) C0 hK hk hr hw (congrArg (fun z => (z, u)) (Option.some.inj hf)) dX6_seen_69
    · have hf := if_t hf hc
      refine lv_iconst (v := (-1)) (pc := 34) C0.1 C0.2.1 dX6_seen_34 (by decide) ?_
      exact x_iret (pc := 35) C0 hK hk hr hw (congrArg (fun z => (z, u)) (Option.some.inj hf)) dX6_seen_35
def wX6_place : List Cond := .code yX6_place cX6_place 3 (some .int) :: lwT
def rX6_place : Room := { frames := 4, cells := 0, slots := 0, locals := 104 }
set_option maxRecDepth 100000 in
set_option maxHeartbeats 4000000 in
theorem kX6_place (l : Launch) (D : va_G) (y : Nat → ClassId) (ad : Nat → Nat) (hI : XI ad 168) (v1 : Int32) (v2 : Int32) (u : S) {o : Int32 × S} (hf : fX6_place v1 v2 u = some o) : Met l yX6_place wX6_place rX6_place (va_Pc [.ref (ad 167), .int v1, .int v2] (XW D y ad LX 168 u)) (XQi D y ad LX 168 o) 0 0 (XA ad 168) := by
  refine x_met (bytes := cX6_place) (maxL := 3) (ret := (some .int)) (own := RX6) (by decide) rfl rfl (Nat.le_of_ble_eq_true rfl) (fun p e s m below meth c ls C0 hK hk hr hw hl => ?_)
  have hl : lv_has ls 3 [(0, .ref (ad 167)), (1, .int v1), (2, .int v2)] := hl
  unfold fX6_place at hf
  refine lv_aload_n (pc := 0) C0.1 C0.2.1 dX6_place_0 rfl (lv_at hl 0 rfl) ?_
  refine x_get (pc := 1) (v := .ref (ad (132 + 0))) C0 hK hw (by decide) ly_M rfl inX6 0 (by decide) wf_X6_10 rfl rfl dX6_place_1 ?_
  refine lv_iload_n (pc := 4) C0.1 C0.2.1 dX6_place_4 rfl (lv_at hl 1 rfl) ?_
  obtain ⟨q1, hq1, hf⟩ := bd_e hf
  refine x_backp (pc := 5) hw (x_runV (pc := 5) (As := [.int v1]) (rest := []) C0 hK hw hl.1 ⟨Nat.zero_le _, Nat.zero_le _⟩ (kX0_has l D y ad hI 0 (by decide) v1 u hq1) (jy_B (by decide)) (ly_B (by decide)) rfl rfl wc_X0_has wm_X6_108 wi_X0_has ws_X0_has wn_X0 ⟨rfl, rfl⟩ hd_X0_has rfl ⟨Nat.le_of_ble_eq_true rfl, Nat.le_of_ble_eq_true rfl⟩ (Nat.le_of_ble_eq_true rfl) dX6_place_5) (fun H locs hw => ?_)
  refine lv_if_eq (tgt := 20) (pc := 8) C0.1 C0.2.1 dX6_place_8 (by decide) (fun hc => ?_) (fun hc => ?_)
  · have hf := if_t hf hc
    refine lv_iconst (v := (-1)) (pc := 20) C0.1 C0.2.1 dX6_place_20 (by decide) ?_
    exact x_iret (pc := 21) C0 hK hk hr hw (Option.some.inj hf) dX6_place_21
  · have hf := if_f hf hc
    refine lv_iload_n (pc := 11) C0.1 C0.2.1 dX6_place_11 rfl (lv_at hl 2 rfl) ?_
    refine lv_iconst (v := 0) (pc := 12) C0.1 C0.2.1 dX6_place_12 (by decide) ?_
    refine lv_iconst (v := 3) (pc := 13) C0.1 C0.2.1 dX6_place_13 (by decide) ?_
    obtain ⟨q2, hq2, hf⟩ := bd_e hf
    refine x_backp (pc := 14) hw (x_runS (pc := 14) (As := [.int v2, .int 0, .int 3]) (rest := []) C0 hK hw hl.1 ⟨Nat.zero_le _, Nat.zero_le _⟩ (kX6_isWithin l D y ad hI v2 0 3 u hq2) rfl wc_X6_isWithin wm_X6_44 wt_X6_isWithin wn_X6 ⟨rfl, rfl⟩ hd_X6_isWithin rfl ⟨Nat.le_of_ble_eq_true rfl, Nat.le_of_ble_eq_true rfl⟩ (Nat.le_of_ble_eq_true rfl) dX6_place_14) (fun H locs hw => ?_)
    refine lv_if_ne (tgt := 22) (pc := 17) C0.1 C0.2.1 dX6_place_17 (by decide) (fun hc => ?_) (fun hc => ?_)
    · have hf := if_f hf hc
      refine lv_aload_n (pc := 22) C0.1 C0.2.1 dX6_place_22 rfl (lv_at hl 0 rfl) ?_
      refine x_get (pc := 23) (v := .ref (ad (132 + 0))) C0 hK hw (by decide) ly_M rfl inX6 0 (by decide) wf_X6_10 rfl rfl dX6_place_23 ?_
      refine x_get (pc := 26) (v := .ref (ad (143 + 0))) C0 hK hw (jy_B (by decide)) (ly_B (by decide)) rfl inX0 5 (by decide) wf_X6_98 rfl rfl dX6_place_26 ?_
      refine lv_iload_n (pc := 29) C0.1 C0.2.1 dX6_place_29 rfl (lv_at hl 1 rfl) ?_
      obtain ⟨hi, hf⟩ := gd_e hf
      have hT3 : 12 * 0 + v1.toNatClampNeg < 132 := tb (by decide) (inb_lt hi)
      refine x_aldT (pc := 30) (t := 12 * 0 + v1.toNatClampNeg) C0 hK hw (jy_R (by decide)) (ly_R (by decide)) hi rfl dX6_place_30 ?_
      refine x_get (pc := 31) (v := .int (u.1 (12 * 0 + v1.toNatClampNeg) 5)) C0 hK hw (jy_T hT3) (ly_T hT3) rfl inX5 5 (by decide) wf_X6_112 rfl rfl dX6_place_31 ?_
      refine lv_if_eq (tgt := 40) (pc := 34) C0.1 C0.2.1 dX6_place_34 (by decide) (fun hc => ?_) (fun hc => ?_)
      · have hf := if_t hf hc
        refine lv_aload_n (pc := 40) C0.1 C0.2.1 dX6_place_40 rfl (lv_at hl 0 rfl) ?_
        refine x_get (pc := 41) (v := .ref (ad (154 + 0))) C0 hK hw (by decide) ly_M rfl inX6 3 (by decide) wf_X6_33 rfl rfl dX6_place_41 ?_
        refine lv_aload_n (pc := 44) C0.1 C0.2.1 dX6_place_44 rfl (lv_at hl 0 rfl) ?_
        refine x_get (pc := 45) (v := .ref (ad (132 + 0))) C0 hK hw (by decide) ly_M rfl inX6 0 (by decide) wf_X6_10 rfl rfl dX6_place_45 ?_
        obtain ⟨q4, hq4, hf⟩ := bd_e hf
        refine x_backv (pc := 48) hw (x_runV (pc := 48) (As := [.ref (ad (132 + 0))]) (rest := []) C0 hK hw hl.1 ⟨Nat.zero_le _, Nat.zero_le _⟩ (kX1_survey l D y ad hI 0 (by decide) 0 (by decide) u hq4) (jy_F (by decide)) (ly_F (by decide)) rfl rfl wc_X1_survey wm_X6_129 wi_X1_survey ws_X1_survey wn_X1 ⟨rfl, rfl⟩ hd_X1_survey rfl ⟨Nat.le_of_ble_eq_true rfl, Nat.le_of_ble_eq_true rfl⟩ (Nat.le_of_ble_eq_true rfl) dX6_place_48) (fun H locs hw => ?_)
        refine lv_aload_n (pc := 51) C0.1 C0.2.1 dX6_place_51 rfl (lv_at hl 0 rfl) ?_
        refine x_get (pc := 52) (v := .ref (ad (154 + 0))) C0 hK hw (by decide) ly_M rfl inX6 3 (by decide) wf_X6_33 rfl rfl dX6_place_52 ?_
        refine lv_aload_n (pc := 55) C0.1 C0.2.1 dX6_place_55 rfl (lv_at hl 0 rfl) ?_
        refine x_get (pc := 56) (v := .ref (ad (132 + 0))) C0 hK hw (by decide) ly_M rfl inX6 0 (by decide) wf_X6_10 rfl rfl dX6_place_56 ?_
        refine lv_aload_n (pc := 59) C0.1 C0.2.1 dX6_place_59 rfl (lv_at hl 0 rfl) ?_
        refine x_get (pc := 60) (v := .ref (ad (132 + 0))) C0 hK hw (by decide) ly_M rfl inX6 0 (by decide) wf_X6_10 rfl rfl dX6_place_60 ?_
        refine x_get (pc := 63) (v := .ref (ad (143 + 0))) C0 hK hw (jy_B (by decide)) (ly_B (by decide)) rfl inX0 5 (by decide) wf_X6_98 rfl rfl dX6_place_63 ?_
        refine lv_iload_n (pc := 66) C0.1 C0.2.1 dX6_place_66 rfl (lv_at hl 1 rfl) ?_
        obtain ⟨hi, hf⟩ := gd_e hf
        have hT5 : 12 * 0 + v1.toNatClampNeg < 132 := tb (by decide) (inb_lt hi)
        refine x_aldT (pc := 67) (t := 12 * 0 + v1.toNatClampNeg) C0 hK hw (jy_R (by decide)) (ly_R (by decide)) hi rfl dX6_place_67 ?_
        refine lv_iconst (v := 1) (pc := 68) C0.1 C0.2.1 dX6_place_68 (by decide) ?_
        obtain ⟨q6, hq6, hf⟩ := bd_e hf
        refine x_backv (pc := 69) hw (x_runV (pc := 69) (As := [.ref (ad (132 + 0)), .ref (ad (12 * 0 + v1.toNatClampNeg)), .int 1]) (rest := []) C0 hK hw hl.1 ⟨Nat.zero_le _, Nat.zero_le _⟩ (kX1_search l D y ad hI 0 (by decide) 0 (by decide) (12 * 0 + v1.toNatClampNeg) hT5 1 q4 hq6) (jy_F (by decide)) (ly_F (by decide)) rfl rfl wc_X1_search wm_X6_170 wi_X1_search ws_X1_search wn_X1 ⟨rfl, rfl⟩ hd_X1_search rfl ⟨Nat.le_of_ble_eq_true rfl, Nat.le_of_ble_eq_true rfl⟩ (Nat.le_of_ble_eq_true rfl) dX6_place_69) (fun H locs hw => ?_)
        refine lv_aload_n (pc := 72) C0.1 C0.2.1 dX6_place_72 rfl (lv_at hl 0 rfl) ?_
        refine x_get (pc := 73) (v := .ref (ad (154 + 0))) C0 hK hw (by decide) ly_M rfl inX6 3 (by decide) wf_X6_33 rfl rfl dX6_place_73 ?_
        refine x_get (pc := 76) (v := .int (q6.1 (154 + 0) 3)) C0 hK hw (jy_F (by decide)) (ly_F (by decide)) rfl inX1 3 (by decide) wf_X6_174 rfl rfl dX6_place_76 ?_
        refine lv_if_ne (tgt := 85) (pc := 79) C0.1 C0.2.1 dX6_place_79 (by decide) (fun hc => ?_) (fun hc => ?_)
        · have hf := if_f hf hc
          refine lv_iload_n (pc := 85) C0.1 C0.2.1 dX6_place_85 rfl (lv_at hl 2 rfl) ?_
          by_cases hc0 : v2 = 0
          · have hf := if_t hf hc0
            refine lv_tableIn (tgt := 112) (pc := 86) C0.1 C0.2.1 dX6_place_86 (by rw [hc0]; decide) (by rw [hc0]; decide) (by rw [hc0]; rfl) (by decide) ?_
            refine lv_aload_n (pc := 112) C0.1 C0.2.1 dX6_place_112 rfl (lv_at hl 0 rfl) ?_
            refine x_get (pc := 113) (v := .ref (ad (154 + 0))) C0 hK hw (by decide) ly_M rfl inX6 3 (by decide) wf_X6_33 rfl rfl dX6_place_113 ?_
            refine x_get (pc := 116) (v := .int (q6.1 (154 + 0) 4)) C0 hK hw (jy_F (by decide)) (ly_F (by decide)) rfl inX1 4 (by decide) wf_X6_177 rfl rfl dX6_place_116 ?_
            exact x_iret (pc := 119) C0 hK hk hr hw (Option.some.inj hf) dX6_place_119
          · have hf := if_f hf hc0
            by_cases hc1 : v2 = 1
            · have hf := if_t hf hc1
              refine lv_tableIn (tgt := 120) (pc := 86) C0.1 C0.2.1 dX6_place_86 (by rw [hc1]; decide) (by rw [hc1]; decide) (by rw [hc1]; rfl) (by decide) ?_
              refine lv_aload_n (pc := 120) C0.1 C0.2.1 dX6_place_120 rfl (lv_at hl 0 rfl) ?_
              refine x_get (pc := 121) (v := .ref (ad (154 + 0))) C0 hK hw (by decide) ly_M rfl inX6 3 (by decide) wf_X6_33 rfl rfl dX6_place_121 ?_
              refine x_get (pc := 124) (v := .int (q6.1 (154 + 0) 5)) C0 hK hw (jy_F (by decide)) (ly_F (by decide)) rfl inX1 5 (by decide) wf_X6_180 rfl rfl dX6_place_124 ?_
              exact x_iret (pc := 127) C0 hK hk hr hw (Option.some.inj hf) dX6_place_127
            · have hf := if_f hf hc1
              by_cases hc2 : v2 = 2
              · have hf := if_t hf hc2
                refine lv_tableIn (tgt := 128) (pc := 86) C0.1 C0.2.1 dX6_place_86 (by rw [hc2]; decide) (by rw [hc2]; decide) (by rw [hc2]; rfl) (by decide) ?_
                refine lv_aload_n (pc := 128) C0.1 C0.2.1 dX6_place_128 rfl (lv_at hl 0 rfl) ?_
                refine x_get (pc := 129) (v := .ref (ad (154 + 0))) C0 hK hw (by decide) ly_M rfl inX6 3 (by decide) wf_X6_33 rfl rfl dX6_place_129 ?_
                refine x_get (pc := 132) (v := .int (q6.1 (154 + 0) 6)) C0 hK hw (jy_F (by decide)) (ly_F (by decide)) rfl inX1 6 (by decide) wf_X6_183 rfl rfl dX6_place_132 ?_
                refine lv_if_eq (tgt := 142) (pc := 135) C0.1 C0.2.1 dX6_place_135 (by decide) (fun hc => ?_) (fun hc => ?_)
                · have hf := if_t hf hc
                  refine lv_iconst (v := 0) (pc := 142) C0.1 C0.2.1 dX6_place_142 (by decide) ?_
                  exact x_iret (pc := 143) C0 hK hk hr hw (Option.some.inj hf) dX6_place_143
                · have hf := if_f hf hc
                  refine lv_iconst (v := 1) (pc := 138) C0.1 C0.2.1 dX6_place_138 (by decide) ?_
                  refine lv_goto (tgt := 143) (pc := 139) C0.1 C0.2.1 dX6_place_139 (by decide) ?_
                  exact x_iret (pc := 143) C0 hK hk hr hw (Option.some.inj hf) dX6_place_143
              · have hf := if_f hf hc2
                refine lv_tableOut (tgt := 144) (pc := 86) C0.1 C0.2.1 dX6_place_86 (by have h0 := lv_neT hc0 (a := 0) (by decide); have h1 := lv_neT hc1 (a := 1) (by decide); have h2 := lv_neT hc2 (a := 2) (by decide); omega) (by decide) ?_
                refine lv_aload_n (pc := 144) C0.1 C0.2.1 dX6_place_144 rfl (lv_at hl 0 rfl) ?_
                refine x_get (pc := 145) (v := .ref (ad (154 + 0))) C0 hK hw (by decide) ly_M rfl inX6 3 (by decide) wf_X6_33 rfl rfl dX6_place_145 ?_
                refine x_get (pc := 148) (v := .int (q6.1 (154 + 0) 7)) C0 hK hw (jy_F (by decide)) (ly_F (by decide)) rfl inX1 7 (by decide) wf_X6_186 rfl rfl dX6_place_148 ?_
                refine lv_aload_n (pc := 151) C0.1 C0.2.1 dX6_place_151 rfl (lv_at hl 0 rfl) ?_
                refine x_get (pc := 152) (v := .ref (ad (132 + 0))) C0 hK hw (by decide) ly_M rfl inX6 0 (by decide) wf_X6_10 rfl rfl dX6_place_152 ?_
                refine x_get (pc := 155) (v := .ref (ad (143 + 0))) C0 hK hw (jy_B (by decide)) (ly_B (by decide)) rfl inX0 5 (by decide) wf_X6_98 rfl rfl dX6_place_155 ?_
                refine lv_iload_n (pc := 158) C0.1 C0.2.1 dX6_place_158 rfl (lv_at hl 1 rfl) ?_
                obtain ⟨hi, hf⟩ := gd_e hf
                have hT7 : 12 * 0 + v1.toNatClampNeg < 132 := tb (by decide) (inb_lt hi)
                refine x_aldT (pc := 159) (t := 12 * 0 + v1.toNatClampNeg) C0 hK hw (jy_R (by decide)) (ly_R (by decide)) hi rfl dX6_place_159 ?_
                obtain ⟨q8, hq8, hf⟩ := bd_e hf
                refine x_backp (pc := 160) hw (x_runV (pc := 160) (As := []) (rest := [.int (q6.1 (154 + 0) 7)]) C0 hK hw hl.1 ⟨Nat.zero_le _, Nat.zero_le _⟩ (kX5_tall l D y ad hI (12 * 0 + v1.toNatClampNeg) hT7 q6 hq8) (jy_T hT7) (ly_T hT7) rfl rfl wc_X5_tall wm_X6_189 wi_X5_tall ws_X5_tall wn_X5 ⟨rfl, rfl⟩ hd_X5_tall rfl ⟨Nat.le_of_ble_eq_true rfl, Nat.le_of_ble_eq_true rfl⟩ (Nat.le_of_ble_eq_true rfl) dX6_place_160) (fun H locs hw => ?_)
                refine lv_iadd (pc := 163) C0.1 C0.2.1 dX6_place_163 ?_
                exact x_iret (pc := 164) C0 hK hk hr hw (Option.some.inj hf) dX6_place_164
        · have hf := if_t hf hc
          refine lv_bipush (v := (-9)) (pc := 82) C0.1 C0.2.1 dX6_place_82 (by decide) ?_
          exact x_iret (pc := 84) C0 hK hk hr hw (Option.some.inj hf) dX6_place_84
      · have hf := if_f hf hc
        refine lv_bipush (v := (-2)) (pc := 37) C0.1 C0.2.1 dX6_place_37 (by decide) ?_
        exact x_iret (pc := 39) C0 hK hk hr hw (Option.some.inj hf) dX6_place_39
    · have hf := if_t hf hc
      refine lv_iconst (v := (-1)) (pc := 20) C0.1 C0.2.1 dX6_place_20 (by decide) ?_
      exact x_iret (pc := 21) C0 hK hk hr hw (Option.some.inj hf) dX6_place_21
def wX6_places : List Cond := .code yX6_places cX6_places 2 (some .int) :: lwT
def rX6_places : Room := { frames := 4, cells := 0, slots := 0, locals := 104 }
set_option maxRecDepth 100000 in
set_option maxHeartbeats 4000000 in
theorem kX6_places (l : Launch) (D : va_G) (y : Nat → ClassId) (ad : Nat → Nat) (hI : XI ad 168) (v1 : Int32) (u : S) {o : Int32 × S} (hf : fX6_places v1 u = some o) : Met l yX6_places wX6_places rX6_places (va_Pc [.ref (ad 167), .int v1] (XW D y ad LX 168 u)) (XQi D y ad LX 168 o) 0 0 (XA ad 168) := by
  refine x_met (bytes := cX6_places) (maxL := 2) (ret := (some .int)) (own := RX6) (by decide) rfl rfl (Nat.le_of_ble_eq_true rfl) (fun p e s m below meth c ls C0 hK hk hr hw hl => ?_)
  have hl : lv_has ls 2 [(0, .ref (ad 167)), (1, .int v1)] := hl
  unfold fX6_places at hf
  refine lv_aload_n (pc := 0) C0.1 C0.2.1 dX6_places_0 rfl (lv_at hl 0 rfl) ?_
  refine x_get (pc := 1) (v := .ref (ad (132 + 0))) C0 hK hw (by decide) ly_M rfl inX6 0 (by decide) wf_X6_10 rfl rfl dX6_places_1 ?_
  refine lv_iload_n (pc := 4) C0.1 C0.2.1 dX6_places_4 rfl (lv_at hl 1 rfl) ?_
  obtain ⟨q1, hq1, hf⟩ := bd_e hf
  refine x_backp (pc := 5) hw (x_runV (pc := 5) (As := [.int v1]) (rest := []) C0 hK hw hl.1 ⟨Nat.zero_le _, Nat.zero_le _⟩ (kX0_has l D y ad hI 0 (by decide) v1 u hq1) (jy_B (by decide)) (ly_B (by decide)) rfl rfl wc_X0_has wm_X6_108 wi_X0_has ws_X0_has wn_X0 ⟨rfl, rfl⟩ hd_X0_has rfl ⟨Nat.le_of_ble_eq_true rfl, Nat.le_of_ble_eq_true rfl⟩ (Nat.le_of_ble_eq_true rfl) dX6_places_5) (fun H locs hw => ?_)
  refine lv_if_ne (tgt := 13) (pc := 8) C0.1 C0.2.1 dX6_places_8 (by decide) (fun hc => ?_) (fun hc => ?_)
  · have hf := if_f hf hc
    refine lv_aload_n (pc := 13) C0.1 C0.2.1 dX6_places_13 rfl (lv_at hl 0 rfl) ?_
    refine x_get (pc := 14) (v := .ref (ad (132 + 0))) C0 hK hw (by decide) ly_M rfl inX6 0 (by decide) wf_X6_10 rfl rfl dX6_places_14 ?_
    refine x_get (pc := 17) (v := .ref (ad (143 + 0))) C0 hK hw (jy_B (by decide)) (ly_B (by decide)) rfl inX0 5 (by decide) wf_X6_98 rfl rfl dX6_places_17 ?_
    refine lv_iload_n (pc := 20) C0.1 C0.2.1 dX6_places_20 rfl (lv_at hl 1 rfl) ?_
    obtain ⟨hi, hf⟩ := gd_e hf
    have hT2 : 12 * 0 + v1.toNatClampNeg < 132 := tb (by decide) (inb_lt hi)
    refine x_aldT (pc := 21) (t := 12 * 0 + v1.toNatClampNeg) C0 hK hw (jy_R (by decide)) (ly_R (by decide)) hi rfl dX6_places_21 ?_
    refine x_get (pc := 22) (v := .int (u.1 (12 * 0 + v1.toNatClampNeg) 5)) C0 hK hw (jy_T hT2) (ly_T hT2) rfl inX5 5 (by decide) wf_X6_112 rfl rfl dX6_places_22 ?_
    refine lv_if_eq (tgt := 31) (pc := 25) C0.1 C0.2.1 dX6_places_25 (by decide) (fun hc => ?_) (fun hc => ?_)
    · have hf := if_t hf hc
      refine lv_aload_n (pc := 31) C0.1 C0.2.1 dX6_places_31 rfl (lv_at hl 0 rfl) ?_
      refine x_get (pc := 32) (v := .ref (ad (154 + 0))) C0 hK hw (by decide) ly_M rfl inX6 3 (by decide) wf_X6_33 rfl rfl dX6_places_32 ?_
      refine lv_aload_n (pc := 35) C0.1 C0.2.1 dX6_places_35 rfl (lv_at hl 0 rfl) ?_
      refine x_get (pc := 36) (v := .ref (ad (132 + 0))) C0 hK hw (by decide) ly_M rfl inX6 0 (by decide) wf_X6_10 rfl rfl dX6_places_36 ?_
      obtain ⟨q3, hq3, hf⟩ := bd_e hf
      refine x_backv (pc := 39) hw (x_runV (pc := 39) (As := [.ref (ad (132 + 0))]) (rest := []) C0 hK hw hl.1 ⟨Nat.zero_le _, Nat.zero_le _⟩ (kX1_survey l D y ad hI 0 (by decide) 0 (by decide) u hq3) (jy_F (by decide)) (ly_F (by decide)) rfl rfl wc_X1_survey wm_X6_129 wi_X1_survey ws_X1_survey wn_X1 ⟨rfl, rfl⟩ hd_X1_survey rfl ⟨Nat.le_of_ble_eq_true rfl, Nat.le_of_ble_eq_true rfl⟩ (Nat.le_of_ble_eq_true rfl) dX6_places_39) (fun H locs hw => ?_)
      refine lv_aload_n (pc := 42) C0.1 C0.2.1 dX6_places_42 rfl (lv_at hl 0 rfl) ?_
      refine x_get (pc := 43) (v := .ref (ad (154 + 0))) C0 hK hw (by decide) ly_M rfl inX6 3 (by decide) wf_X6_33 rfl rfl dX6_places_43 ?_
      refine lv_aload_n (pc := 46) C0.1 C0.2.1 dX6_places_46 rfl (lv_at hl 0 rfl) ?_
      refine x_get (pc := 47) (v := .ref (ad (132 + 0))) C0 hK hw (by decide) ly_M rfl inX6 0 (by decide) wf_X6_10 rfl rfl dX6_places_47 ?_
      refine lv_aload_n (pc := 50) C0.1 C0.2.1 dX6_places_50 rfl (lv_at hl 0 rfl) ?_
      refine x_get (pc := 51) (v := .ref (ad (132 + 0))) C0 hK hw (by decide) ly_M rfl inX6 0 (by decide) wf_X6_10 rfl rfl dX6_places_51 ?_
      refine x_get (pc := 54) (v := .ref (ad (143 + 0))) C0 hK hw (jy_B (by decide)) (ly_B (by decide)) rfl inX0 5 (by decide) wf_X6_98 rfl rfl dX6_places_54 ?_
      refine lv_iload_n (pc := 57) C0.1 C0.2.1 dX6_places_57 rfl (lv_at hl 1 rfl) ?_
      obtain ⟨hi, hf⟩ := gd_e hf
      have hT4 : 12 * 0 + v1.toNatClampNeg < 132 := tb (by decide) (inb_lt hi)
      refine x_aldT (pc := 58) (t := 12 * 0 + v1.toNatClampNeg) C0 hK hw (jy_R (by decide)) (ly_R (by decide)) hi rfl dX6_places_58 ?_
      refine lv_iconst (v := 0) (pc := 59) C0.1 C0.2.1 dX6_places_59 (by decide) ?_
      obtain ⟨q5, hq5, hf⟩ := bd_e hf
      refine x_backv (pc := 60) hw (x_runV (pc := 60) (As := [.ref (ad (132 + 0)), .ref (ad (12 * 0 + v1.toNatClampNeg)), .int 0]) (rest := []) C0 hK hw hl.1 ⟨Nat.zero_le _, Nat.zero_le _⟩ (kX1_search l D y ad hI 0 (by decide) 0 (by decide) (12 * 0 + v1.toNatClampNeg) hT4 0 q3 hq5) (jy_F (by decide)) (ly_F (by decide)) rfl rfl wc_X1_search wm_X6_170 wi_X1_search ws_X1_search wn_X1 ⟨rfl, rfl⟩ hd_X1_search rfl ⟨Nat.le_of_ble_eq_true rfl, Nat.le_of_ble_eq_true rfl⟩ (Nat.le_of_ble_eq_true rfl) dX6_places_60) (fun H locs hw => ?_)
      refine lv_aload_n (pc := 63) C0.1 C0.2.1 dX6_places_63 rfl (lv_at hl 0 rfl) ?_
      refine x_get (pc := 64) (v := .ref (ad (154 + 0))) C0 hK hw (by decide) ly_M rfl inX6 3 (by decide) wf_X6_33 rfl rfl dX6_places_64 ?_
      refine x_get (pc := 67) (v := .int (q5.1 (154 + 0) 3)) C0 hK hw (jy_F (by decide)) (ly_F (by decide)) rfl inX1 3 (by decide) wf_X6_174 rfl rfl dX6_places_67 ?_
      exact x_iret (pc := 70) C0 hK hk hr hw (Option.some.inj hf) dX6_places_70
    · have hf := if_f hf hc
      refine lv_bipush (v := (-2)) (pc := 28) C0.1 C0.2.1 dX6_places_28 (by decide) ?_
      exact x_iret (pc := 30) C0 hK hk hr hw (Option.some.inj hf) dX6_places_30
  · have hf := if_t hf hc
    refine lv_iconst (v := (-1)) (pc := 11) C0.1 C0.2.1 dX6_places_11 (by decide) ?_
    exact x_iret (pc := 12) C0 hK hk hr hw (Option.some.inj hf) dX6_places_12
def wX6_takeOverPacked : List Cond := .code yX6_takeOverPacked cX6_takeOverPacked 1 (some .int) :: lwT
def rX6_takeOverPacked : Room := { frames := 4, cells := 0, slots := 0, locals := 85 }
set_option maxRecDepth 100000 in
set_option maxHeartbeats 4000000 in
theorem kX6_takeOverPacked (l : Launch) (D : va_G) (y : Nat → ClassId) (ad : Nat → Nat) (hI : XI ad 168)  (u : S) {o : Int32 × S} (hf : fX6_takeOverPacked  u = some o) : Met l yX6_takeOverPacked wX6_takeOverPacked rX6_takeOverPacked (va_Pc [.ref (ad 167)] (XW D y ad LX 168 u)) (XQi D y ad LX 168 o) 0 0 (XA ad 168) := by
  refine x_met (bytes := cX6_takeOverPacked) (maxL := 1) (ret := (some .int)) (own := RX6) (by decide) rfl rfl (Nat.le_of_ble_eq_true rfl) (fun p e s m below meth c ls C0 hK hk hr hw hl => ?_)
  have hl : lv_has ls 1 [(0, .ref (ad 167))] := hl
  unfold fX6_takeOverPacked at hf
  refine lv_aload_n (pc := 0) C0.1 C0.2.1 dX6_takeOverPacked_0 rfl (lv_at hl 0 rfl) ?_
  refine x_get (pc := 1) (v := .ref (ad 158)) C0 hK hw (by decide) ly_M rfl inX6 1 (by decide) wf_X6_19 rfl rfl dX6_takeOverPacked_1 ?_
  refine lv_aload_n (pc := 4) C0.1 C0.2.1 dX6_takeOverPacked_4 rfl (lv_at hl 0 rfl) ?_
  refine x_get (pc := 5) (v := .ref (ad (132 + 0))) C0 hK hw (by decide) ly_M rfl inX6 0 (by decide) wf_X6_10 rfl rfl dX6_takeOverPacked_5 ?_
  obtain ⟨q1, hq1, hf⟩ := bd_e hf
  refine x_backv (pc := 8) hw (x_runV (pc := 8) (As := [.ref (ad (132 + 0))]) (rest := []) C0 hK hw hl.1 ⟨Nat.zero_le _, Nat.zero_le _⟩ (kX2_record l D y ad hI 0 (by decide) u hq1) (by decide) ly_H rfl rfl wc_X2_record wm_X6_58 wi_X2_record ws_X2_record wn_X2 ⟨rfl, rfl⟩ hd_X2_record rfl ⟨Nat.le_of_ble_eq_true rfl, Nat.le_of_ble_eq_true rfl⟩ (Nat.le_of_ble_eq_true rfl) dX6_takeOverPacked_8) (fun H locs hw => ?_)
  refine lv_aload_n (pc := 11) C0.1 C0.2.1 dX6_takeOverPacked_11 rfl (lv_at hl 0 rfl) ?_
  refine x_get (pc := 12) (v := .ref (ad (132 + 0))) C0 hK hw (by decide) ly_M rfl inX6 0 (by decide) wf_X6_10 rfl rfl dX6_takeOverPacked_12 ?_
  refine lv_aload_n (pc := 15) C0.1 C0.2.1 dX6_takeOverPacked_15 rfl (lv_at hl 0 rfl) ?_
  refine x_get (pc := 16) (v := .ref (ad 162)) C0 hK hw (by decide) ly_M rfl inX6 4 (by decide) wf_X6_40 rfl rfl dX6_takeOverPacked_16 ?_
  refine x_get (pc := 19) (v := .ref (ad (132 + 9))) C0 hK hw (by decide) ly_P rfl inX3 2 (by decide) wf_X6_265 rfl rfl dX6_takeOverPacked_19 ?_
  obtain ⟨q2, hq2, hf⟩ := bd_e hf
  refine x_backv (pc := 22) hw (x_runV (pc := 22) (As := [.ref (ad (132 + 9))]) (rest := []) C0 hK hw hl.1 ⟨Nat.zero_le _, Nat.zero_le _⟩ (kX0_copyTrays l D y ad hI 0 (by decide) 9 (by decide) q1 hq2) (jy_B (by decide)) (ly_B (by decide)) rfl rfl wc_X0_copyTrays wm_X6_89 wi_X0_copyTrays ws_X0_copyTrays wn_X0 ⟨rfl, rfl⟩ hd_X0_copyTrays rfl ⟨Nat.le_of_ble_eq_true rfl, Nat.le_of_ble_eq_true rfl⟩ (Nat.le_of_ble_eq_true rfl) dX6_takeOverPacked_22) (fun H locs hw => ?_)
  refine lv_aload_n (pc := 25) C0.1 C0.2.1 dX6_takeOverPacked_25 rfl (lv_at hl 0 rfl) ?_
  refine x_get (pc := 26) (v := .ref (ad 162)) C0 hK hw (by decide) ly_M rfl inX6 4 (by decide) wf_X6_40 rfl rfl dX6_takeOverPacked_26 ?_
  refine x_get (pc := 29) (v := .ref (ad (163 + 1))) C0 hK hw (by decide) ly_P rfl inX3 1 (by decide) wf_X6_201 rfl rfl dX6_takeOverPacked_29 ?_
  refine lv_iconst (v := 0) (pc := 32) C0.1 C0.2.1 dX6_takeOverPacked_32 (by decide) ?_
  obtain ⟨hi, hf⟩ := gd_e hf
  refine x_iald (pc := 33) C0 hK hw (jy_O (by decide)) (ly_O (by decide)) hi dX6_takeOverPacked_33 ?_
  exact x_iret (pc := 34) C0 hK hk hr hw (Option.some.inj hf) dX6_takeOverPacked_34
def wX6_pack : List Cond := .code yX6_pack cX6_pack 1 (some .int) :: lwT
def rX6_pack : Room := { frames := 6, cells := 0, slots := 0, locals := 151 }
set_option maxRecDepth 100000 in
set_option maxHeartbeats 4000000 in
theorem kX6_pack (l : Launch) (D : va_G) (y : Nat → ClassId) (ad : Nat → Nat) (hI : XI ad 168)  (u : S) {o : Int32 × S} (hf : fX6_pack  u = some o) : Met l yX6_pack wX6_pack rX6_pack (va_Pc [.ref (ad 167)] (XW D y ad LX 168 u)) (XQi D y ad LX 168 o) 0 0 (XA ad 168) := by
  refine x_met (bytes := cX6_pack) (maxL := 1) (ret := (some .int)) (own := RX6) (by decide) rfl rfl (Nat.le_of_ble_eq_true rfl) (fun p e s m below meth c ls C0 hK hk hr hw hl => ?_)
  have hl : lv_has ls 1 [(0, .ref (ad 167))] := hl
  unfold fX6_pack at hf
  refine lv_aload_n (pc := 0) C0.1 C0.2.1 dX6_pack_0 rfl (lv_at hl 0 rfl) ?_
  refine x_get (pc := 1) (v := .ref (ad 162)) C0 hK hw (by decide) ly_M rfl inX6 4 (by decide) wf_X6_40 rfl rfl dX6_pack_1 ?_
  refine lv_aload_n (pc := 4) C0.1 C0.2.1 dX6_pack_4 rfl (lv_at hl 0 rfl) ?_
  refine x_get (pc := 5) (v := .ref (ad (132 + 0))) C0 hK hw (by decide) ly_M rfl inX6 0 (by decide) wf_X6_10 rfl rfl dX6_pack_5 ?_
  obtain ⟨q1, hq1, hf⟩ := bd_e hf
  refine x_backv (pc := 8) hw (x_runV (pc := 8) (As := [.ref (ad (132 + 0))]) (rest := []) C0 hK hw hl.1 ⟨Nat.zero_le _, Nat.zero_le _⟩ (kX3_packUsually l D y ad hI 0 (by decide) u hq1) (by decide) ly_P rfl rfl wc_X3_packUsually wm_X6_192 wi_X3_packUsually ws_X3_packUsually wn_X3 ⟨rfl, rfl⟩ hd_X3_packUsually rfl ⟨Nat.le_of_ble_eq_true rfl, Nat.le_of_ble_eq_true rfl⟩ (Nat.le_of_ble_eq_true rfl) dX6_pack_8) (fun H locs hw => ?_)
  refine lv_aload_n (pc := 11) C0.1 C0.2.1 dX6_pack_11 rfl (lv_at hl 0 rfl) ?_
  obtain ⟨q2, hq2, hf⟩ := bd_e hf
  refine x_back (pc := 12) hw (x_runV (pc := 12) (As := []) (rest := []) C0 hK hw hl.1 ⟨Nat.zero_le _, Nat.zero_le _⟩ (kX6_takeOverPacked l D y ad hI  q1 hq2) (by decide) ly_M rfl rfl wc_X6_takeOverPacked wm_X6_195 wi_X6_takeOverPacked ws_X6_takeOverPacked wn_X6 ⟨rfl, rfl⟩ hd_X6_takeOverPacked rfl ⟨Nat.le_of_ble_eq_true rfl, Nat.le_of_ble_eq_true rfl⟩ (Nat.le_of_ble_eq_true rfl) dX6_pack_12) (fun H locs hw => ?_)
  exact x_iret (pc := 15) C0 hK hk hr hw (Option.some.inj hf) dX6_pack_15
def wX6_ifPacked : List Cond := .code yX6_ifPacked cX6_ifPacked 4 (some .int) :: lwT
def rX6_ifPacked : Room := { frames := 6, cells := 0, slots := 0, locals := 151 }
set_option maxRecDepth 100000 in
set_option maxHeartbeats 4000000 in
theorem kX6_ifPacked (l : Launch) (D : va_G) (y : Nat → ClassId) (ad : Nat → Nat) (hI : XI ad 168) (v1 : Int32) (v2 : Int32) (u : S) {o : Int32 × S} (hf : fX6_ifPacked v1 v2 u = some o) : Met l yX6_ifPacked wX6_ifPacked rX6_ifPacked (va_Pc [.ref (ad 167), .int v1, .int v2] (XW D y ad LX 168 u)) (XQi D y ad LX 168 o) 0 0 (XA ad 168) := by
  refine x_met (bytes := cX6_ifPacked) (maxL := 4) (ret := (some .int)) (own := RX6) (by decide) rfl rfl (Nat.le_of_ble_eq_true rfl) (fun p e s m below meth c ls C0 hK hk hr hw hl => ?_)
  have hl : lv_has ls 4 [(0, .ref (ad 167)), (1, .int v1), (2, .int v2)] := hl
  unfold fX6_ifPacked at hf
  refine lv_iload_n (pc := 0) C0.1 C0.2.1 dX6_ifPacked_0 rfl (lv_at hl 2 rfl) ?_
  refine lv_iconst (v := 0) (pc := 1) C0.1 C0.2.1 dX6_ifPacked_1 (by decide) ?_
  refine lv_iconst (v := 3) (pc := 2) C0.1 C0.2.1 dX6_ifPacked_2 (by decide) ?_
  obtain ⟨q1, hq1, hf⟩ := bd_e hf
  refine x_backp (pc := 3) hw (x_runS (pc := 3) (As := [.int v2, .int 0, .int 3]) (rest := []) C0 hK hw hl.1 ⟨Nat.zero_le _, Nat.zero_le _⟩ (kX6_isWithin l D y ad hI v2 0 3 u hq1) rfl wc_X6_isWithin wm_X6_44 wt_X6_isWithin wn_X6 ⟨rfl, rfl⟩ hd_X6_isWithin rfl ⟨Nat.le_of_ble_eq_true rfl, Nat.le_of_ble_eq_true rfl⟩ (Nat.le_of_ble_eq_true rfl) dX6_ifPacked_3) (fun H locs hw => ?_)
  refine lv_if_ne (tgt := 17) (pc := 6) C0.1 C0.2.1 dX6_ifPacked_6 (by decide) (fun hc => ?_) (fun hc => ?_)
  · have hf := if_f hf hc
    refine lv_iload_n (pc := 17) C0.1 C0.2.1 dX6_ifPacked_17 rfl (lv_at hl 1 rfl) ?_
    refine lv_if_eq (tgt := 35) (pc := 18) C0.1 C0.2.1 dX6_ifPacked_18 (by decide) (fun hc => ?_) (fun hc => ?_)
    · have hf := if_t hf hc
      refine lv_iload_n (pc := 35) C0.1 C0.2.1 dX6_ifPacked_35 rfl (lv_at hl 1 rfl) ?_
      refine lv_if_eq (tgt := 53) (pc := 36) C0.1 C0.2.1 dX6_ifPacked_36 (by decide) (fun hc => ?_) (fun hc => ?_)
      · have hf := if_t hf hc
        refine lv_aload_n (pc := 53) C0.1 C0.2.1 dX6_ifPacked_53 rfl (lv_at hl 0 rfl) ?_
        refine x_get (pc := 54) (v := .ref (ad 162)) C0 hK hw (by decide) ly_M rfl inX6 4 (by decide) wf_X6_40 rfl rfl dX6_ifPacked_54 ?_
        refine lv_aload_n (pc := 57) C0.1 C0.2.1 dX6_ifPacked_57 rfl (lv_at hl 0 rfl) ?_
        refine x_get (pc := 58) (v := .ref (ad (132 + 0))) C0 hK hw (by decide) ly_M rfl inX6 0 (by decide) wf_X6_10 rfl rfl dX6_ifPacked_58 ?_
        obtain ⟨q2, hq2, hf⟩ := bd_e hf
        refine x_backv (pc := 61) hw (x_runV (pc := 61) (As := [.ref (ad (132 + 0))]) (rest := []) C0 hK hw hl.1 ⟨Nat.zero_le _, Nat.zero_le _⟩ (kX3_packUsually l D y ad hI 0 (by decide) u hq2) (by decide) ly_P rfl rfl wc_X3_packUsually wm_X6_192 wi_X3_packUsually ws_X3_packUsually wn_X3 ⟨rfl, rfl⟩ hd_X3_packUsually rfl ⟨Nat.le_of_ble_eq_true rfl, Nat.le_of_ble_eq_true rfl⟩ (Nat.le_of_ble_eq_true rfl) dX6_ifPacked_61) (fun H locs hw => ?_)
        refine lv_iload_n (pc := 64) C0.1 C0.2.1 dX6_ifPacked_64 rfl (lv_at hl 2 rfl) ?_
        refine lv_iconst (v := 4) (pc := 65) C0.1 C0.2.1 dX6_ifPacked_65 (by decide) ?_
        refine lv_icmp_ge (tgt := 79) (pc := 66) C0.1 C0.2.1 dX6_ifPacked_66 (by decide) (fun hc => ?_) (fun hc => ?_)
        · have hf := if_t hf hc
          refine lv_iload_n (pc := 79) C0.1 C0.2.1 dX6_ifPacked_79 rfl (lv_at hl 2 rfl) ?_
          refine lv_bipush (v := 10) (pc := 80) C0.1 C0.2.1 dX6_ifPacked_80 (by decide) ?_
          refine lv_isub (pc := 82) C0.1 C0.2.1 dX6_ifPacked_82 ?_
          refine lv_istore_n (pc := 83) (lv' := [(3, .int (v2 - 10)), (0, .ref (ad 167)), (1, .int v1), (2, .int v2)]) C0.1 C0.2.1 dX6_ifPacked_83 rfl hl (by decide) rfl (fun ls hl => ?_)
          refine lv_aload_n (pc := 84) C0.1 C0.2.1 dX6_ifPacked_84 rfl (lv_at hl 1 rfl) ?_
          refine x_get (pc := 85) (v := .ref (ad (132 + 0))) C0 hK hw (by decide) ly_M rfl inX6 0 (by decide) wf_X6_10 rfl rfl dX6_ifPacked_85 ?_
          refine lv_iload_n (pc := 88) C0.1 C0.2.1 dX6_ifPacked_88 rfl (lv_at hl 0 rfl) ?_
          obtain ⟨q3, hq3, hf⟩ := bd_e hf
          refine x_backp (pc := 89) hw (x_runV (pc := 89) (As := [.int (v2 - 10)]) (rest := []) C0 hK hw hl.1 ⟨Nat.zero_le _, Nat.zero_le _⟩ (kX0_has l D y ad hI 0 (by decide) (v2 - 10) q2 hq3) (jy_B (by decide)) (ly_B (by decide)) rfl rfl wc_X0_has wm_X6_108 wi_X0_has ws_X0_has wn_X0 ⟨rfl, rfl⟩ hd_X0_has rfl ⟨Nat.le_of_ble_eq_true rfl, Nat.le_of_ble_eq_true rfl⟩ (Nat.le_of_ble_eq_true rfl) dX6_ifPacked_89) (fun H locs hw => ?_)
          refine lv_if_eq (tgt := 107) (pc := 92) C0.1 C0.2.1 dX6_ifPacked_92 (by decide) (fun hc => ?_) (fun hc => ?_)
          · have hf := if_t hf hc
            refine lv_bipush (v := (-9)) (pc := 107) C0.1 C0.2.1 dX6_ifPacked_107 (by decide) ?_
            exact x_iret (pc := 109) C0 hK hk hr hw (Option.some.inj hf) dX6_ifPacked_109
          · have hf := if_f hf hc
            refine lv_aload_n (pc := 95) C0.1 C0.2.1 dX6_ifPacked_95 rfl (lv_at hl 1 rfl) ?_
            refine x_get (pc := 96) (v := .ref (ad 162)) C0 hK hw (by decide) ly_M rfl inX6 4 (by decide) wf_X6_40 rfl rfl dX6_ifPacked_96 ?_
            refine x_get (pc := 99) (v := .ref (ad (163 + 0))) C0 hK hw (by decide) ly_P rfl inX3 0 (by decide) wf_X6_205 rfl rfl dX6_ifPacked_99 ?_
            refine lv_iload_n (pc := 102) C0.1 C0.2.1 dX6_ifPacked_102 rfl (lv_at hl 0 rfl) ?_
            obtain ⟨hi, hf⟩ := gd_e hf
            refine x_iald (pc := 103) C0 hK hw (jy_O (by decide)) (ly_O (by decide)) hi dX6_ifPacked_103 ?_
            refine lv_goto (tgt := 109) (pc := 104) C0.1 C0.2.1 dX6_ifPacked_104 (by decide) ?_
            exact x_iret (pc := 109) C0 hK hk hr hw (Option.some.inj hf) dX6_ifPacked_109
        · have hf := if_f hf hc
          refine lv_aload_n (pc := 69) C0.1 C0.2.1 dX6_ifPacked_69 rfl (lv_at hl 0 rfl) ?_
          refine x_get (pc := 70) (v := .ref (ad 162)) C0 hK hw (by decide) ly_M rfl inX6 4 (by decide) wf_X6_40 rfl rfl dX6_ifPacked_70 ?_
          refine x_get (pc := 73) (v := .ref (ad (163 + 1))) C0 hK hw (by decide) ly_P rfl inX3 1 (by decide) wf_X6_201 rfl rfl dX6_ifPacked_73 ?_
          refine lv_iload_n (pc := 76) C0.1 C0.2.1 dX6_ifPacked_76 rfl (lv_at hl 2 rfl) ?_
          obtain ⟨hi, hf⟩ := gd_e hf
          refine x_iald (pc := 77) C0 hK hw (jy_O (by decide)) (ly_O (by decide)) hi dX6_ifPacked_77 ?_
          exact x_iret (pc := 78) C0 hK hk hr hw (Option.some.inj hf) dX6_ifPacked_78
      · have hf := if_f hf hc
        refine lv_aload_n (pc := 39) C0.1 C0.2.1 dX6_ifPacked_39 rfl (lv_at hl 0 rfl) ?_
        refine x_get (pc := 40) (v := .ref (ad 162)) C0 hK hw (by decide) ly_M rfl inX6 4 (by decide) wf_X6_40 rfl rfl dX6_ifPacked_40 ?_
        refine lv_aload_n (pc := 43) C0.1 C0.2.1 dX6_ifPacked_43 rfl (lv_at hl 0 rfl) ?_
        refine x_get (pc := 44) (v := .ref (ad (132 + 0))) C0 hK hw (by decide) ly_M rfl inX6 0 (by decide) wf_X6_10 rfl rfl dX6_ifPacked_44 ?_
        obtain ⟨q4, hq4, hf⟩ := bd_e hf
        refine x_backv (pc := 47) hw (x_runV (pc := 47) (As := [.ref (ad (132 + 0))]) (rest := []) C0 hK hw hl.1 ⟨Nat.zero_le _, Nat.zero_le _⟩ (kX3_packByBest l D y ad hI 0 (by decide) u hq4) (by decide) ly_P rfl rfl wc_X3_packByBest wm_X6_198 wi_X3_packByBest ws_X3_packByBest wn_X3 ⟨rfl, rfl⟩ hd_X3_packByBest rfl ⟨Nat.le_of_ble_eq_true rfl, Nat.le_of_ble_eq_true rfl⟩ (Nat.le_of_ble_eq_true rfl) dX6_ifPacked_47) (fun H locs hw => ?_)
        refine lv_goto (tgt := 64) (pc := 50) C0.1 C0.2.1 dX6_ifPacked_50 (by decide) ?_
        refine lv_iload_n (pc := 64) C0.1 C0.2.1 dX6_ifPacked_64 rfl (lv_at hl 2 rfl) ?_
        refine lv_iconst (v := 4) (pc := 65) C0.1 C0.2.1 dX6_ifPacked_65 (by decide) ?_
        refine lv_icmp_ge (tgt := 79) (pc := 66) C0.1 C0.2.1 dX6_ifPacked_66 (by decide) (fun hc => ?_) (fun hc => ?_)
        · have hf := if_t hf hc
          refine lv_iload_n (pc := 79) C0.1 C0.2.1 dX6_ifPacked_79 rfl (lv_at hl 2 rfl) ?_
          refine lv_bipush (v := 10) (pc := 80) C0.1 C0.2.1 dX6_ifPacked_80 (by decide) ?_
          refine lv_isub (pc := 82) C0.1 C0.2.1 dX6_ifPacked_82 ?_
          refine lv_istore_n (pc := 83) (lv' := [(3, .int (v2 - 10)), (0, .ref (ad 167)), (1, .int v1), (2, .int v2)]) C0.1 C0.2.1 dX6_ifPacked_83 rfl hl (by decide) rfl (fun ls hl => ?_)
          refine lv_aload_n (pc := 84) C0.1 C0.2.1 dX6_ifPacked_84 rfl (lv_at hl 1 rfl) ?_
          refine x_get (pc := 85) (v := .ref (ad (132 + 0))) C0 hK hw (by decide) ly_M rfl inX6 0 (by decide) wf_X6_10 rfl rfl dX6_ifPacked_85 ?_
          refine lv_iload_n (pc := 88) C0.1 C0.2.1 dX6_ifPacked_88 rfl (lv_at hl 0 rfl) ?_
          obtain ⟨q5, hq5, hf⟩ := bd_e hf
          refine x_backp (pc := 89) hw (x_runV (pc := 89) (As := [.int (v2 - 10)]) (rest := []) C0 hK hw hl.1 ⟨Nat.zero_le _, Nat.zero_le _⟩ (kX0_has l D y ad hI 0 (by decide) (v2 - 10) q4 hq5) (jy_B (by decide)) (ly_B (by decide)) rfl rfl wc_X0_has wm_X6_108 wi_X0_has ws_X0_has wn_X0 ⟨rfl, rfl⟩ hd_X0_has rfl ⟨Nat.le_of_ble_eq_true rfl, Nat.le_of_ble_eq_true rfl⟩ (Nat.le_of_ble_eq_true rfl) dX6_ifPacked_89) (fun H locs hw => ?_)
          refine lv_if_eq (tgt := 107) (pc := 92) C0.1 C0.2.1 dX6_ifPacked_92 (by decide) (fun hc => ?_) (fun hc => ?_)
          · have hf := if_t hf hc
            refine lv_bipush (v := (-9)) (pc := 107) C0.1 C0.2.1 dX6_ifPacked_107 (by decide) ?_
            exact x_iret (pc := 109) C0 hK hk hr hw (Option.some.inj hf) dX6_ifPacked_109
          · have hf := if_f hf hc
            refine lv_aload_n (pc := 95) C0.1 C0.2.1 dX6_ifPacked_95 rfl (lv_at hl 1 rfl) ?_
            refine x_get (pc := 96) (v := .ref (ad 162)) C0 hK hw (by decide) ly_M rfl inX6 4 (by decide) wf_X6_40 rfl rfl dX6_ifPacked_96 ?_
            refine x_get (pc := 99) (v := .ref (ad (163 + 0))) C0 hK hw (by decide) ly_P rfl inX3 0 (by decide) wf_X6_205 rfl rfl dX6_ifPacked_99 ?_
            refine lv_iload_n (pc := 102) C0.1 C0.2.1 dX6_ifPacked_102 rfl (lv_at hl 0 rfl) ?_
            obtain ⟨hi, hf⟩ := gd_e hf
            refine x_iald (pc := 103) C0 hK hw (jy_O (by decide)) (ly_O (by decide)) hi dX6_ifPacked_103 ?_
            refine lv_goto (tgt := 109) (pc := 104) C0.1 C0.2.1 dX6_ifPacked_104 (by decide) ?_
            exact x_iret (pc := 109) C0 hK hk hr hw (Option.some.inj hf) dX6_ifPacked_109
        · have hf := if_f hf hc
          refine lv_aload_n (pc := 69) C0.1 C0.2.1 dX6_ifPacked_69 rfl (lv_at hl 0 rfl) ?_
          refine x_get (pc := 70) (v := .ref (ad 162)) C0 hK hw (by decide) ly_M rfl inX6 4 (by decide) wf_X6_40 rfl rfl dX6_ifPacked_70 ?_
          refine x_get (pc := 73) (v := .ref (ad (163 + 1))) C0 hK hw (by decide) ly_P rfl inX3 1 (by decide) wf_X6_201 rfl rfl dX6_ifPacked_73 ?_
          refine lv_iload_n (pc := 76) C0.1 C0.2.1 dX6_ifPacked_76 rfl (lv_at hl 2 rfl) ?_
          obtain ⟨hi, hf⟩ := gd_e hf
          refine x_iald (pc := 77) C0 hK hw (jy_O (by decide)) (ly_O (by decide)) hi dX6_ifPacked_77 ?_
          exact x_iret (pc := 78) C0 hK hk hr hw (Option.some.inj hf) dX6_ifPacked_78
    · have hf := if_f hf hc
      refine lv_aload_n (pc := 21) C0.1 C0.2.1 dX6_ifPacked_21 rfl (lv_at hl 0 rfl) ?_
      refine x_get (pc := 22) (v := .ref (ad (132 + 0))) C0 hK hw (by decide) ly_M rfl inX6 0 (by decide) wf_X6_10 rfl rfl dX6_ifPacked_22 ?_
      refine x_get (pc := 25) (v := .int (u.1 (132 + 0) 4)) C0 hK hw (jy_B (by decide)) (ly_B (by decide)) rfl inX0 4 (by decide) wf_X6_95 rfl rfl dX6_ifPacked_25 ?_
      refine lv_iconst (v := 5) (pc := 28) C0.1 C0.2.1 dX6_ifPacked_28 (by decide) ?_
      refine lv_icmp_le (tgt := 35) (pc := 29) C0.1 C0.2.1 dX6_ifPacked_29 (by decide) (fun hc => ?_) (fun hc => ?_)
      · have hf := if_t hf hc
        refine lv_iload_n (pc := 35) C0.1 C0.2.1 dX6_ifPacked_35 rfl (lv_at hl 1 rfl) ?_
        refine lv_if_eq (tgt := 53) (pc := 36) C0.1 C0.2.1 dX6_ifPacked_36 (by decide) (fun hc => ?_) (fun hc => ?_)
        · have hf := if_t hf hc
          refine lv_aload_n (pc := 53) C0.1 C0.2.1 dX6_ifPacked_53 rfl (lv_at hl 0 rfl) ?_
          refine x_get (pc := 54) (v := .ref (ad 162)) C0 hK hw (by decide) ly_M rfl inX6 4 (by decide) wf_X6_40 rfl rfl dX6_ifPacked_54 ?_
          refine lv_aload_n (pc := 57) C0.1 C0.2.1 dX6_ifPacked_57 rfl (lv_at hl 0 rfl) ?_
          refine x_get (pc := 58) (v := .ref (ad (132 + 0))) C0 hK hw (by decide) ly_M rfl inX6 0 (by decide) wf_X6_10 rfl rfl dX6_ifPacked_58 ?_
          obtain ⟨q6, hq6, hf⟩ := bd_e hf
          refine x_backv (pc := 61) hw (x_runV (pc := 61) (As := [.ref (ad (132 + 0))]) (rest := []) C0 hK hw hl.1 ⟨Nat.zero_le _, Nat.zero_le _⟩ (kX3_packUsually l D y ad hI 0 (by decide) u hq6) (by decide) ly_P rfl rfl wc_X3_packUsually wm_X6_192 wi_X3_packUsually ws_X3_packUsually wn_X3 ⟨rfl, rfl⟩ hd_X3_packUsually rfl ⟨Nat.le_of_ble_eq_true rfl, Nat.le_of_ble_eq_true rfl⟩ (Nat.le_of_ble_eq_true rfl) dX6_ifPacked_61) (fun H locs hw => ?_)
          refine lv_iload_n (pc := 64) C0.1 C0.2.1 dX6_ifPacked_64 rfl (lv_at hl 2 rfl) ?_
          refine lv_iconst (v := 4) (pc := 65) C0.1 C0.2.1 dX6_ifPacked_65 (by decide) ?_
          refine lv_icmp_ge (tgt := 79) (pc := 66) C0.1 C0.2.1 dX6_ifPacked_66 (by decide) (fun hc => ?_) (fun hc => ?_)
          · have hf := if_t hf hc
            refine lv_iload_n (pc := 79) C0.1 C0.2.1 dX6_ifPacked_79 rfl (lv_at hl 2 rfl) ?_
            refine lv_bipush (v := 10) (pc := 80) C0.1 C0.2.1 dX6_ifPacked_80 (by decide) ?_
            refine lv_isub (pc := 82) C0.1 C0.2.1 dX6_ifPacked_82 ?_
            refine lv_istore_n (pc := 83) (lv' := [(3, .int (v2 - 10)), (0, .ref (ad 167)), (1, .int v1), (2, .int v2)]) C0.1 C0.2.1 dX6_ifPacked_83 rfl hl (by decide) rfl (fun ls hl => ?_)
            refine lv_aload_n (pc := 84) C0.1 C0.2.1 dX6_ifPacked_84 rfl (lv_at hl 1 rfl) ?_
            refine x_get (pc := 85) (v := .ref (ad (132 + 0))) C0 hK hw (by decide) ly_M rfl inX6 0 (by decide) wf_X6_10 rfl rfl dX6_ifPacked_85 ?_
            refine lv_iload_n (pc := 88) C0.1 C0.2.1 dX6_ifPacked_88 rfl (lv_at hl 0 rfl) ?_
            obtain ⟨q7, hq7, hf⟩ := bd_e hf
            refine x_backp (pc := 89) hw (x_runV (pc := 89) (As := [.int (v2 - 10)]) (rest := []) C0 hK hw hl.1 ⟨Nat.zero_le _, Nat.zero_le _⟩ (kX0_has l D y ad hI 0 (by decide) (v2 - 10) q6 hq7) (jy_B (by decide)) (ly_B (by decide)) rfl rfl wc_X0_has wm_X6_108 wi_X0_has ws_X0_has wn_X0 ⟨rfl, rfl⟩ hd_X0_has rfl ⟨Nat.le_of_ble_eq_true rfl, Nat.le_of_ble_eq_true rfl⟩ (Nat.le_of_ble_eq_true rfl) dX6_ifPacked_89) (fun H locs hw => ?_)
            refine lv_if_eq (tgt := 107) (pc := 92) C0.1 C0.2.1 dX6_ifPacked_92 (by decide) (fun hc => ?_) (fun hc => ?_)
            · have hf := if_t hf hc
              refine lv_bipush (v := (-9)) (pc := 107) C0.1 C0.2.1 dX6_ifPacked_107 (by decide) ?_
              exact x_iret (pc := 109) C0 hK hk hr hw (Option.some.inj hf) dX6_ifPacked_109
            · have hf := if_f hf hc
              refine lv_aload_n (pc := 95) C0.1 C0.2.1 dX6_ifPacked_95 rfl (lv_at hl 1 rfl) ?_
              refine x_get (pc := 96) (v := .ref (ad 162)) C0 hK hw (by decide) ly_M rfl inX6 4 (by decide) wf_X6_40 rfl rfl dX6_ifPacked_96 ?_
              refine x_get (pc := 99) (v := .ref (ad (163 + 0))) C0 hK hw (by decide) ly_P rfl inX3 0 (by decide) wf_X6_205 rfl rfl dX6_ifPacked_99 ?_
              refine lv_iload_n (pc := 102) C0.1 C0.2.1 dX6_ifPacked_102 rfl (lv_at hl 0 rfl) ?_
              obtain ⟨hi, hf⟩ := gd_e hf
              refine x_iald (pc := 103) C0 hK hw (jy_O (by decide)) (ly_O (by decide)) hi dX6_ifPacked_103 ?_
              refine lv_goto (tgt := 109) (pc := 104) C0.1 C0.2.1 dX6_ifPacked_104 (by decide) ?_
              exact x_iret (pc := 109) C0 hK hk hr hw (Option.some.inj hf) dX6_ifPacked_109
          · have hf := if_f hf hc
            refine lv_aload_n (pc := 69) C0.1 C0.2.1 dX6_ifPacked_69 rfl (lv_at hl 0 rfl) ?_
            refine x_get (pc := 70) (v := .ref (ad 162)) C0 hK hw (by decide) ly_M rfl inX6 4 (by decide) wf_X6_40 rfl rfl dX6_ifPacked_70 ?_
            refine x_get (pc := 73) (v := .ref (ad (163 + 1))) C0 hK hw (by decide) ly_P rfl inX3 1 (by decide) wf_X6_201 rfl rfl dX6_ifPacked_73 ?_
            refine lv_iload_n (pc := 76) C0.1 C0.2.1 dX6_ifPacked_76 rfl (lv_at hl 2 rfl) ?_
            obtain ⟨hi, hf⟩ := gd_e hf
            refine x_iald (pc := 77) C0 hK hw (jy_O (by decide)) (ly_O (by decide)) hi dX6_ifPacked_77 ?_
            exact x_iret (pc := 78) C0 hK hk hr hw (Option.some.inj hf) dX6_ifPacked_78
        · have hf := if_f hf hc
          refine lv_aload_n (pc := 39) C0.1 C0.2.1 dX6_ifPacked_39 rfl (lv_at hl 0 rfl) ?_
          refine x_get (pc := 40) (v := .ref (ad 162)) C0 hK hw (by decide) ly_M rfl inX6 4 (by decide) wf_X6_40 rfl rfl dX6_ifPacked_40 ?_
          refine lv_aload_n (pc := 43) C0.1 C0.2.1 dX6_ifPacked_43 rfl (lv_at hl 0 rfl) ?_
          refine x_get (pc := 44) (v := .ref (ad (132 + 0))) C0 hK hw (by decide) ly_M rfl inX6 0 (by decide) wf_X6_10 rfl rfl dX6_ifPacked_44 ?_
          obtain ⟨q8, hq8, hf⟩ := bd_e hf
          refine x_backv (pc := 47) hw (x_runV (pc := 47) (As := [.ref (ad (132 + 0))]) (rest := []) C0 hK hw hl.1 ⟨Nat.zero_le _, Nat.zero_le _⟩ (kX3_packByBest l D y ad hI 0 (by decide) u hq8) (by decide) ly_P rfl rfl wc_X3_packByBest wm_X6_198 wi_X3_packByBest ws_X3_packByBest wn_X3 ⟨rfl, rfl⟩ hd_X3_packByBest rfl ⟨Nat.le_of_ble_eq_true rfl, Nat.le_of_ble_eq_true rfl⟩ (Nat.le_of_ble_eq_true rfl) dX6_ifPacked_47) (fun H locs hw => ?_)
          refine lv_goto (tgt := 64) (pc := 50) C0.1 C0.2.1 dX6_ifPacked_50 (by decide) ?_
          refine lv_iload_n (pc := 64) C0.1 C0.2.1 dX6_ifPacked_64 rfl (lv_at hl 2 rfl) ?_
          refine lv_iconst (v := 4) (pc := 65) C0.1 C0.2.1 dX6_ifPacked_65 (by decide) ?_
          refine lv_icmp_ge (tgt := 79) (pc := 66) C0.1 C0.2.1 dX6_ifPacked_66 (by decide) (fun hc => ?_) (fun hc => ?_)
          · have hf := if_t hf hc
            refine lv_iload_n (pc := 79) C0.1 C0.2.1 dX6_ifPacked_79 rfl (lv_at hl 2 rfl) ?_
            refine lv_bipush (v := 10) (pc := 80) C0.1 C0.2.1 dX6_ifPacked_80 (by decide) ?_
            refine lv_isub (pc := 82) C0.1 C0.2.1 dX6_ifPacked_82 ?_
            refine lv_istore_n (pc := 83) (lv' := [(3, .int (v2 - 10)), (0, .ref (ad 167)), (1, .int v1), (2, .int v2)]) C0.1 C0.2.1 dX6_ifPacked_83 rfl hl (by decide) rfl (fun ls hl => ?_)
            refine lv_aload_n (pc := 84) C0.1 C0.2.1 dX6_ifPacked_84 rfl (lv_at hl 1 rfl) ?_
            refine x_get (pc := 85) (v := .ref (ad (132 + 0))) C0 hK hw (by decide) ly_M rfl inX6 0 (by decide) wf_X6_10 rfl rfl dX6_ifPacked_85 ?_
            refine lv_iload_n (pc := 88) C0.1 C0.2.1 dX6_ifPacked_88 rfl (lv_at hl 0 rfl) ?_
            obtain ⟨q9, hq9, hf⟩ := bd_e hf
            refine x_backp (pc := 89) hw (x_runV (pc := 89) (As := [.int (v2 - 10)]) (rest := []) C0 hK hw hl.1 ⟨Nat.zero_le _, Nat.zero_le _⟩ (kX0_has l D y ad hI 0 (by decide) (v2 - 10) q8 hq9) (jy_B (by decide)) (ly_B (by decide)) rfl rfl wc_X0_has wm_X6_108 wi_X0_has ws_X0_has wn_X0 ⟨rfl, rfl⟩ hd_X0_has rfl ⟨Nat.le_of_ble_eq_true rfl, Nat.le_of_ble_eq_true rfl⟩ (Nat.le_of_ble_eq_true rfl) dX6_ifPacked_89) (fun H locs hw => ?_)
            refine lv_if_eq (tgt := 107) (pc := 92) C0.1 C0.2.1 dX6_ifPacked_92 (by decide) (fun hc => ?_) (fun hc => ?_)
            · have hf := if_t hf hc
              refine lv_bipush (v := (-9)) (pc := 107) C0.1 C0.2.1 dX6_ifPacked_107 (by decide) ?_
              exact x_iret (pc := 109) C0 hK hk hr hw (Option.some.inj hf) dX6_ifPacked_109
            · have hf := if_f hf hc
              refine lv_aload_n (pc := 95) C0.1 C0.2.1 dX6_ifPacked_95 rfl (lv_at hl 1 rfl) ?_
              refine x_get (pc := 96) (v := .ref (ad 162)) C0 hK hw (by decide) ly_M rfl inX6 4 (by decide) wf_X6_40 rfl rfl dX6_ifPacked_96 ?_
              refine x_get (pc := 99) (v := .ref (ad (163 + 0))) C0 hK hw (by decide) ly_P rfl inX3 0 (by decide) wf_X6_205 rfl rfl dX6_ifPacked_99 ?_
              refine lv_iload_n (pc := 102) C0.1 C0.2.1 dX6_ifPacked_102 rfl (lv_at hl 0 rfl) ?_
              obtain ⟨hi, hf⟩ := gd_e hf
              refine x_iald (pc := 103) C0 hK hw (jy_O (by decide)) (ly_O (by decide)) hi dX6_ifPacked_103 ?_
              refine lv_goto (tgt := 109) (pc := 104) C0.1 C0.2.1 dX6_ifPacked_104 (by decide) ?_
              exact x_iret (pc := 109) C0 hK hk hr hw (Option.some.inj hf) dX6_ifPacked_109
          · have hf := if_f hf hc
            refine lv_aload_n (pc := 69) C0.1 C0.2.1 dX6_ifPacked_69 rfl (lv_at hl 0 rfl) ?_
            refine x_get (pc := 70) (v := .ref (ad 162)) C0 hK hw (by decide) ly_M rfl inX6 4 (by decide) wf_X6_40 rfl rfl dX6_ifPacked_70 ?_
            refine x_get (pc := 73) (v := .ref (ad (163 + 1))) C0 hK hw (by decide) ly_P rfl inX3 1 (by decide) wf_X6_201 rfl rfl dX6_ifPacked_73 ?_
            refine lv_iload_n (pc := 76) C0.1 C0.2.1 dX6_ifPacked_76 rfl (lv_at hl 2 rfl) ?_
            obtain ⟨hi, hf⟩ := gd_e hf
            refine x_iald (pc := 77) C0 hK hw (jy_O (by decide)) (ly_O (by decide)) hi dX6_ifPacked_77 ?_
            exact x_iret (pc := 78) C0 hK hk hr hw (Option.some.inj hf) dX6_ifPacked_78
      · have hf := if_f hf hc
        refine lv_bipush (v := (-2)) (pc := 32) C0.1 C0.2.1 dX6_ifPacked_32 (by decide) ?_
        exact x_iret (pc := 34) C0 hK hk hr hw (Option.some.inj hf) dX6_ifPacked_34
  · have hf := if_t hf hc
    refine lv_iload_n (pc := 9) C0.1 C0.2.1 dX6_ifPacked_9 rfl (lv_at hl 2 rfl) ?_
    refine lv_bipush (v := 10) (pc := 10) C0.1 C0.2.1 dX6_ifPacked_10 (by decide) ?_
    refine lv_icmp_ge (tgt := 17) (pc := 12) C0.1 C0.2.1 dX6_ifPacked_12 (by decide) (fun hc => ?_) (fun hc => ?_)
    · have hf := if_t hf hc
      refine lv_iload_n (pc := 17) C0.1 C0.2.1 dX6_ifPacked_17 rfl (lv_at hl 1 rfl) ?_
      refine lv_if_eq (tgt := 35) (pc := 18) C0.1 C0.2.1 dX6_ifPacked_18 (by decide) (fun hc => ?_) (fun hc => ?_)
      · have hf := if_t hf hc
        refine lv_iload_n (pc := 35) C0.1 C0.2.1 dX6_ifPacked_35 rfl (lv_at hl 1 rfl) ?_
        refine lv_if_eq (tgt := 53) (pc := 36) C0.1 C0.2.1 dX6_ifPacked_36 (by decide) (fun hc => ?_) (fun hc => ?_)
        · have hf := if_t hf hc
          refine lv_aload_n (pc := 53) C0.1 C0.2.1 dX6_ifPacked_53 rfl (lv_at hl 0 rfl) ?_
          refine x_get (pc := 54) (v := .ref (ad 162)) C0 hK hw (by decide) ly_M rfl inX6 4 (by decide) wf_X6_40 rfl rfl dX6_ifPacked_54 ?_
          refine lv_aload_n (pc := 57) C0.1 C0.2.1 dX6_ifPacked_57 rfl (lv_at hl 0 rfl) ?_
          refine x_get (pc := 58) (v := .ref (ad (132 + 0))) C0 hK hw (by decide) ly_M rfl inX6 0 (by decide) wf_X6_10 rfl rfl dX6_ifPacked_58 ?_
          obtain ⟨q10, hq10, hf⟩ := bd_e hf
          refine x_backv (pc := 61) hw (x_runV (pc := 61) (As := [.ref (ad (132 + 0))]) (rest := []) C0 hK hw hl.1 ⟨Nat.zero_le _, Nat.zero_le _⟩ (kX3_packUsually l D y ad hI 0 (by decide) u hq10) (by decide) ly_P rfl rfl wc_X3_packUsually wm_X6_192 wi_X3_packUsually ws_X3_packUsually wn_X3 ⟨rfl, rfl⟩ hd_X3_packUsually rfl ⟨Nat.le_of_ble_eq_true rfl, Nat.le_of_ble_eq_true rfl⟩ (Nat.le_of_ble_eq_true rfl) dX6_ifPacked_61) (fun H locs hw => ?_)
          refine lv_iload_n (pc := 64) C0.1 C0.2.1 dX6_ifPacked_64 rfl (lv_at hl 2 rfl) ?_
          refine lv_iconst (v := 4) (pc := 65) C0.1 C0.2.1 dX6_ifPacked_65 (by decide) ?_
          refine lv_icmp_ge (tgt := 79) (pc := 66) C0.1 C0.2.1 dX6_ifPacked_66 (by decide) (fun hc => ?_) (fun hc => ?_)
          · have hf := if_t hf hc
            refine lv_iload_n (pc := 79) C0.1 C0.2.1 dX6_ifPacked_79 rfl (lv_at hl 2 rfl) ?_
            refine lv_bipush (v := 10) (pc := 80) C0.1 C0.2.1 dX6_ifPacked_80 (by decide) ?_
            refine lv_isub (pc := 82) C0.1 C0.2.1 dX6_ifPacked_82 ?_
            refine lv_istore_n (pc := 83) (lv' := [(3, .int (v2 - 10)), (0, .ref (ad 167)), (1, .int v1), (2, .int v2)]) C0.1 C0.2.1 dX6_ifPacked_83 rfl hl (by decide) rfl (fun ls hl => ?_)
            refine lv_aload_n (pc := 84) C0.1 C0.2.1 dX6_ifPacked_84 rfl (lv_at hl 1 rfl) ?_
            refine x_get (pc := 85) (v := .ref (ad (132 + 0))) C0 hK hw (by decide) ly_M rfl inX6 0 (by decide) wf_X6_10 rfl rfl dX6_ifPacked_85 ?_
            refine lv_iload_n (pc := 88) C0.1 C0.2.1 dX6_ifPacked_88 rfl (lv_at hl 0 rfl) ?_
            obtain ⟨q11, hq11, hf⟩ := bd_e hf
            refine x_backp (pc := 89) hw (x_runV (pc := 89) (As := [.int (v2 - 10)]) (rest := []) C0 hK hw hl.1 ⟨Nat.zero_le _, Nat.zero_le _⟩ (kX0_has l D y ad hI 0 (by decide) (v2 - 10) q10 hq11) (jy_B (by decide)) (ly_B (by decide)) rfl rfl wc_X0_has wm_X6_108 wi_X0_has ws_X0_has wn_X0 ⟨rfl, rfl⟩ hd_X0_has rfl ⟨Nat.le_of_ble_eq_true rfl, Nat.le_of_ble_eq_true rfl⟩ (Nat.le_of_ble_eq_true rfl) dX6_ifPacked_89) (fun H locs hw => ?_)
            refine lv_if_eq (tgt := 107) (pc := 92) C0.1 C0.2.1 dX6_ifPacked_92 (by decide) (fun hc => ?_) (fun hc => ?_)
            · have hf := if_t hf hc
              refine lv_bipush (v := (-9)) (pc := 107) C0.1 C0.2.1 dX6_ifPacked_107 (by decide) ?_
              exact x_iret (pc := 109) C0 hK hk hr hw (Option.some.inj hf) dX6_ifPacked_109
            · have hf := if_f hf hc
              refine lv_aload_n (pc := 95) C0.1 C0.2.1 dX6_ifPacked_95 rfl (lv_at hl 1 rfl) ?_
              refine x_get (pc := 96) (v := .ref (ad 162)) C0 hK hw (by decide) ly_M rfl inX6 4 (by decide) wf_X6_40 rfl rfl dX6_ifPacked_96 ?_
              refine x_get (pc := 99) (v := .ref (ad (163 + 0))) C0 hK hw (by decide) ly_P rfl inX3 0 (by decide) wf_X6_205 rfl rfl dX6_ifPacked_99 ?_
              refine lv_iload_n (pc := 102) C0.1 C0.2.1 dX6_ifPacked_102 rfl (lv_at hl 0 rfl) ?_
              obtain ⟨hi, hf⟩ := gd_e hf
              refine x_iald (pc := 103) C0 hK hw (jy_O (by decide)) (ly_O (by decide)) hi dX6_ifPacked_103 ?_
              refine lv_goto (tgt := 109) (pc := 104) C0.1 C0.2.1 dX6_ifPacked_104 (by decide) ?_
              exact x_iret (pc := 109) C0 hK hk hr hw (Option.some.inj hf) dX6_ifPacked_109
          · have hf := if_f hf hc
            refine lv_aload_n (pc := 69) C0.1 C0.2.1 dX6_ifPacked_69 rfl (lv_at hl 0 rfl) ?_
            refine x_get (pc := 70) (v := .ref (ad 162)) C0 hK hw (by decide) ly_M rfl inX6 4 (by decide) wf_X6_40 rfl rfl dX6_ifPacked_70 ?_
            refine x_get (pc := 73) (v := .ref (ad (163 + 1))) C0 hK hw (by decide) ly_P rfl inX3 1 (by decide) wf_X6_201 rfl rfl dX6_ifPacked_73 ?_
            refine lv_iload_n (pc := 76) C0.1 C0.2.1 dX6_ifPacked_76 rfl (lv_at hl 2 rfl) ?_
            obtain ⟨hi, hf⟩ := gd_e hf
            refine x_iald (pc := 77) C0 hK hw (jy_O (by decide)) (ly_O (by decide)) hi dX6_ifPacked_77 ?_
            exact x_iret (pc := 78) C0 hK hk hr hw (Option.some.inj hf) dX6_ifPacked_78
        · have hf := if_f hf hc
          refine lv_aload_n (pc := 39) C0.1 C0.2.1 dX6_ifPacked_39 rfl (lv_at hl 0 rfl) ?_
          refine x_get (pc := 40) (v := .ref (ad 162)) C0 hK hw (by decide) ly_M rfl inX6 4 (by decide) wf_X6_40 rfl rfl dX6_ifPacked_40 ?_
          refine lv_aload_n (pc := 43) C0.1 C0.2.1 dX6_ifPacked_43 rfl (lv_at hl 0 rfl) ?_
          refine x_get (pc := 44) (v := .ref (ad (132 + 0))) C0 hK hw (by decide) ly_M rfl inX6 0 (by decide) wf_X6_10 rfl rfl dX6_ifPacked_44 ?_
          obtain ⟨q12, hq12, hf⟩ := bd_e hf
          refine x_backv (pc := 47) hw (x_runV (pc := 47) (As := [.ref (ad (132 + 0))]) (rest := []) C0 hK hw hl.1 ⟨Nat.zero_le _, Nat.zero_le _⟩ (kX3_packByBest l D y ad hI 0 (by decide) u hq12) (by decide) ly_P rfl rfl wc_X3_packByBest wm_X6_198 wi_X3_packByBest ws_X3_packByBest wn_X3 ⟨rfl, rfl⟩ hd_X3_packByBest rfl ⟨Nat.le_of_ble_eq_true rfl, Nat.le_of_ble_eq_true rfl⟩ (Nat.le_of_ble_eq_true rfl) dX6_ifPacked_47) (fun H locs hw => ?_)
          refine lv_goto (tgt := 64) (pc := 50) C0.1 C0.2.1 dX6_ifPacked_50 (by decide) ?_
          refine lv_iload_n (pc := 64) C0.1 C0.2.1 dX6_ifPacked_64 rfl (lv_at hl 2 rfl) ?_
          refine lv_iconst (v := 4) (pc := 65) C0.1 C0.2.1 dX6_ifPacked_65 (by decide) ?_
          refine lv_icmp_ge (tgt := 79) (pc := 66) C0.1 C0.2.1 dX6_ifPacked_66 (by decide) (fun hc => ?_) (fun hc => ?_)
          · have hf := if_t hf hc
            refine lv_iload_n (pc := 79) C0.1 C0.2.1 dX6_ifPacked_79 rfl (lv_at hl 2 rfl) ?_
            refine lv_bipush (v := 10) (pc := 80) C0.1 C0.2.1 dX6_ifPacked_80 (by decide) ?_
            refine lv_isub (pc := 82) C0.1 C0.2.1 dX6_ifPacked_82 ?_
            refine lv_istore_n (pc := 83) (lv' := [(3, .int (v2 - 10)), (0, .ref (ad 167)), (1, .int v1), (2, .int v2)]) C0.1 C0.2.1 dX6_ifPacked_83 rfl hl (by decide) rfl (fun ls hl => ?_)
            refine lv_aload_n (pc := 84) C0.1 C0.2.1 dX6_ifPacked_84 rfl (lv_at hl 1 rfl) ?_
            refine x_get (pc := 85) (v := .ref (ad (132 + 0))) C0 hK hw (by decide) ly_M rfl inX6 0 (by decide) wf_X6_10 rfl rfl dX6_ifPacked_85 ?_
            refine lv_iload_n (pc := 88) C0.1 C0.2.1 dX6_ifPacked_88 rfl (lv_at hl 0 rfl) ?_
            obtain ⟨q13, hq13, hf⟩ := bd_e hf
            refine x_backp (pc := 89) hw (x_runV (pc := 89) (As := [.int (v2 - 10)]) (rest := []) C0 hK hw hl.1 ⟨Nat.zero_le _, Nat.zero_le _⟩ (kX0_has l D y ad hI 0 (by decide) (v2 - 10) q12 hq13) (jy_B (by decide)) (ly_B (by decide)) rfl rfl wc_X0_has wm_X6_108 wi_X0_has ws_X0_has wn_X0 ⟨rfl, rfl⟩ hd_X0_has rfl ⟨Nat.le_of_ble_eq_true rfl, Nat.le_of_ble_eq_true rfl⟩ (Nat.le_of_ble_eq_true rfl) dX6_ifPacked_89) (fun H locs hw => ?_)
            refine lv_if_eq (tgt := 107) (pc := 92) C0.1 C0.2.1 dX6_ifPacked_92 (by decide) (fun hc => ?_) (fun hc => ?_)
            · have hf := if_t hf hc
              refine lv_bipush (v := (-9)) (pc := 107) C0.1 C0.2.1 dX6_ifPacked_107 (by decide) ?_
              exact x_iret (pc := 109) C0 hK hk hr hw (Option.some.inj hf) dX6_ifPacked_109
            · have hf := if_f hf hc
              refine lv_aload_n (pc := 95) C0.1 C0.2.1 dX6_ifPacked_95 rfl (lv_at hl 1 rfl) ?_
              refine x_get (pc := 96) (v := .ref (ad 162)) C0 hK hw (by decide) ly_M rfl inX6 4 (by decide) wf_X6_40 rfl rfl dX6_ifPacked_96 ?_
              refine x_get (pc := 99) (v := .ref (ad (163 + 0))) C0 hK hw (by decide) ly_P rfl inX3 0 (by decide) wf_X6_205 rfl rfl dX6_ifPacked_99 ?_
              refine lv_iload_n (pc := 102) C0.1 C0.2.1 dX6_ifPacked_102 rfl (lv_at hl 0 rfl) ?_
              obtain ⟨hi, hf⟩ := gd_e hf
              refine x_iald (pc := 103) C0 hK hw (jy_O (by decide)) (ly_O (by decide)) hi dX6_ifPacked_103 ?_
              refine lv_goto (tgt := 109) (pc := 104) C0.1 C0.2.1 dX6_ifPacked_104 (by decide) ?_
              exact x_iret (pc := 109) C0 hK hk hr hw (Option.some.inj hf) dX6_ifPacked_109
          · have hf := if_f hf hc
            refine lv_aload_n (pc := 69) C0.1 C0.2.1 dX6_ifPacked_69 rfl (lv_at hl 0 rfl) ?_
            refine x_get (pc := 70) (v := .ref (ad 162)) C0 hK hw (by decide) ly_M rfl inX6 4 (by decide) wf_X6_40 rfl rfl dX6_ifPacked_70 ?_
            refine x_get (pc := 73) (v := .ref (ad (163 + 1))) C0 hK hw (by decide) ly_P rfl inX3 1 (by decide) wf_X6_201 rfl rfl dX6_ifPacked_73 ?_
            refine lv_iload_n (pc := 76) C0.1 C0.2.1 dX6_ifPacked_76 rfl (lv_at hl 2 rfl) ?_
            obtain ⟨hi, hf⟩ := gd_e hf
            refine x_iald (pc := 77) C0 hK hw (jy_O (by decide)) (ly_O (by decide)) hi dX6_ifPacked_77 ?_
            exact x_iret (pc := 78) C0 hK hk hr hw (Option.some.inj hf) dX6_ifPacked_78
      · have hf := if_f hf hc
        refine lv_aload_n (pc := 21) C0.1 C0.2.1 dX6_ifPacked_21 rfl (lv_at hl 0 rfl) ?_
        refine x_get (pc := 22) (v := .ref (ad (132 + 0))) C0 hK hw (by decide) ly_M rfl inX6 0 (by decide) wf_X6_10 rfl rfl dX6_ifPacked_22 ?_
        refine x_get (pc := 25) (v := .int (u.1 (132 + 0) 4)) C0 hK hw (jy_B (by decide)) (ly_B (by decide)) rfl inX0 4 (by decide) wf_X6_95 rfl rfl dX6_ifPacked_25 ?_
        refine lv_iconst (v := 5) (pc := 28) C0.1 C0.2.1 dX6_ifPacked_28 (by decide) ?_
        refine lv_icmp_le (tgt := 35) (pc := 29) C0.1 C0.2.1 dX6_ifPacked_29 (by decide) (fun hc => ?_) (fun hc => ?_)
        · have hf := if_t hf hc
          refine lv_iload_n (pc := 35) C0.1 C0.2.1 dX6_ifPacked_35 rfl (lv_at hl 1 rfl) ?_
          refine lv_if_eq (tgt := 53) (pc := 36) C0.1 C0.2.1 dX6_ifPacked_36 (by decide) (fun hc => ?_) (fun hc => ?_)
          · have hf := if_t hf hc
            refine lv_aload_n (pc := 53) C0.1 C0.2.1 dX6_ifPacked_53 rfl (lv_at hl 0 rfl) ?_
            refine x_get (pc := 54) (v := .ref (ad 162)) C0 hK hw (by decide) ly_M rfl inX6 4 (by decide) wf_X6_40 rfl rfl dX6_ifPacked_54 ?_
            refine lv_aload_n (pc := 57) C0.1 C0.2.1 dX6_ifPacked_57 rfl (lv_at hl 0 rfl) ?_
            refine x_get (pc := 58) (v := .ref (ad (132 + 0))) C0 hK hw (by decide) ly_M rfl inX6 0 (by decide) wf_X6_10 rfl rfl dX6_ifPacked_58 ?_
            obtain ⟨q14, hq14, hf⟩ := bd_e hf
            refine x_backv (pc := 61) hw (x_runV (pc := 61) (As := [.ref (ad (132 + 0))]) (rest := []) C0 hK hw hl.1 ⟨Nat.zero_le _, Nat.zero_le _⟩ (kX3_packUsually l D y ad hI 0 (by decide) u hq14) (by decide) ly_P rfl rfl wc_X3_packUsually wm_X6_192 wi_X3_packUsually ws_X3_packUsually wn_X3 ⟨rfl, rfl⟩ hd_X3_packUsually rfl ⟨Nat.le_of_ble_eq_true rfl, Nat.le_of_ble_eq_true rfl⟩ (Nat.le_of_ble_eq_true rfl) dX6_ifPacked_61) (fun H locs hw => ?_)
            refine lv_iload_n (pc := 64) C0.1 C0.2.1 dX6_ifPacked_64 rfl (lv_at hl 2 rfl) ?_
            refine lv_iconst (v := 4) (pc := 65) C0.1 C0.2.1 dX6_ifPacked_65 (by decide) ?_
            refine lv_icmp_ge (tgt := 79) (pc := 66) C0.1 C0.2.1 dX6_ifPacked_66 (by decide) (fun hc => ?_) (fun hc => ?_)
            · have hf := if_t hf hc
              refine lv_iload_n (pc := 79) C0.1 C0.2.1 dX6_ifPacked_79 rfl (lv_at hl 2 rfl) ?_
              refine lv_bipush (v := 10) (pc := 80) C0.1 C0.2.1 dX6_ifPacked_80 (by decide) ?_
              refine lv_isub (pc := 82) C0.1 C0.2.1 dX6_ifPacked_82 ?_
              refine lv_istore_n (pc := 83) (lv' := [(3, .int (v2 - 10)), (0, .ref (ad 167)), (1, .int v1), (2, .int v2)]) C0.1 C0.2.1 dX6_ifPacked_83 rfl hl (by decide) rfl (fun ls hl => ?_)
              refine lv_aload_n (pc := 84) C0.1 C0.2.1 dX6_ifPacked_84 rfl (lv_at hl 1 rfl) ?_
              refine x_get (pc := 85) (v := .ref (ad (132 + 0))) C0 hK hw (by decide) ly_M rfl inX6 0 (by decide) wf_X6_10 rfl rfl dX6_ifPacked_85 ?_
              refine lv_iload_n (pc := 88) C0.1 C0.2.1 dX6_ifPacked_88 rfl (lv_at hl 0 rfl) ?_
              obtain ⟨q15, hq15, hf⟩ := bd_e hf
              refine x_backp (pc := 89) hw (x_runV (pc := 89) (As := [.int (v2 - 10)]) (rest := []) C0 hK hw hl.1 ⟨Nat.zero_le _, Nat.zero_le _⟩ (kX0_has l D y ad hI 0 (by decide) (v2 - 10) q14 hq15) (jy_B (by decide)) (ly_B (by decide)) rfl rfl wc_X0_has wm_X6_108 wi_X0_has ws_X0_has wn_X0 ⟨rfl, rfl⟩ hd_X0_has rfl ⟨Nat.le_of_ble_eq_true rfl, Nat.le_of_ble_eq_true rfl⟩ (Nat.le_of_ble_eq_true rfl) dX6_ifPacked_89) (fun H locs hw => ?_)
              refine lv_if_eq (tgt := 107) (pc := 92) C0.1 C0.2.1 dX6_ifPacked_92 (by decide) (fun hc => ?_) (fun hc => ?_)
              · have hf := if_t hf hc
                refine lv_bipush (v := (-9)) (pc := 107) C0.1 C0.2.1 dX6_ifPacked_107 (by decide) ?_
                exact x_iret (pc := 109) C0 hK hk hr hw (Option.some.inj hf) dX6_ifPacked_109
              · have hf := if_f hf hc
                refine lv_aload_n (pc := 95) C0.1 C0.2.1 dX6_ifPacked_95 rfl (lv_at hl 1 rfl) ?_
                refine x_get (pc := 96) (v := .ref (ad 162)) C0 hK hw (by decide) ly_M rfl inX6 4 (by decide) wf_X6_40 rfl rfl dX6_ifPacked_96 ?_
                refine x_get (pc := 99) (v := .ref (ad (163 + 0))) C0 hK hw (by decide) ly_P rfl inX3 0 (by decide) wf_X6_205 rfl rfl dX6_ifPacked_99 ?_
                refine lv_iload_n (pc := 102) C0.1 C0.2.1 dX6_ifPacked_102 rfl (lv_at hl 0 rfl) ?_
                obtain ⟨hi, hf⟩ := gd_e hf
                refine x_iald (pc := 103) C0 hK hw (jy_O (by decide)) (ly_O (by decide)) hi dX6_ifPacked_103 ?_
                refine lv_goto (tgt := 109) (pc := 104) C0.1 C0.2.1 dX6_ifPacked_104 (by decide) ?_
                exact x_iret (pc := 109) C0 hK hk hr hw (Option.some.inj hf) dX6_ifPacked_109
            · have hf := if_f hf hc
              refine lv_aload_n (pc := 69) C0.1 C0.2.1 dX6_ifPacked_69 rfl (lv_at hl 0 rfl) ?_
              refine x_get (pc := 70) (v := .ref (ad 162)) C0 hK hw (by decide) ly_M rfl inX6 4 (by decide) wf_X6_40 rfl rfl dX6_ifPacked_70 ?_
              refine x_get (pc := 73) (v := .ref (ad (163 + 1))) C0 hK hw (by decide) ly_P rfl inX3 1 (by decide) wf_X6_201 rfl rfl dX6_ifPacked_73 ?_
              refine lv_iload_n (pc := 76) C0.1 C0.2.1 dX6_ifPacked_76 rfl (lv_at hl 2 rfl) ?_
              obtain ⟨hi, hf⟩ := gd_e hf
              refine x_iald (pc := 77) C0 hK hw (jy_O (by decide)) (ly_O (by decide)) hi dX6_ifPacked_77 ?_
              exact x_iret (pc := 78) C0 hK hk hr hw (Option.some.inj hf) dX6_ifPacked_78
          · have hf := if_f hf hc
            refine lv_aload_n (pc := 39) C0.1 C0.2.1 dX6_ifPacked_39 rfl (lv_at hl 0 rfl) ?_
            refine x_get (pc := 40) (v := .ref (ad 162)) C0 hK hw (by decide) ly_M rfl inX6 4 (by decide) wf_X6_40 rfl rfl dX6_ifPacked_40 ?_
            refine lv_aload_n (pc := 43) C0.1 C0.2.1 dX6_ifPacked_43 rfl (lv_at hl 0 rfl) ?_
            refine x_get (pc := 44) (v := .ref (ad (132 + 0))) C0 hK hw (by decide) ly_M rfl inX6 0 (by decide) wf_X6_10 rfl rfl dX6_ifPacked_44 ?_
            obtain ⟨q16, hq16, hf⟩ := bd_e hf
            refine x_backv (pc := 47) hw (x_runV (pc := 47) (As := [.ref (ad (132 + 0))]) (rest := []) C0 hK hw hl.1 ⟨Nat.zero_le _, Nat.zero_le _⟩ (kX3_packByBest l D y ad hI 0 (by decide) u hq16) (by decide) ly_P rfl rfl wc_X3_packByBest wm_X6_198 wi_X3_packByBest ws_X3_packByBest wn_X3 ⟨rfl, rfl⟩ hd_X3_packByBest rfl ⟨Nat.le_of_ble_eq_true rfl, Nat.le_of_ble_eq_true rfl⟩ (Nat.le_of_ble_eq_true rfl) dX6_ifPacked_47) (fun H locs hw => ?_)
            refine lv_goto (tgt := 64) (pc := 50) C0.1 C0.2.1 dX6_ifPacked_50 (by decide) ?_
            refine lv_iload_n (pc := 64) C0.1 C0.2.1 dX6_ifPacked_64 rfl (lv_at hl 2 rfl) ?_
            refine lv_iconst (v := 4) (pc := 65) C0.1 C0.2.1 dX6_ifPacked_65 (by decide) ?_
            refine lv_icmp_ge (tgt := 79) (pc := 66) C0.1 C0.2.1 dX6_ifPacked_66 (by decide) (fun hc => ?_) (fun hc => ?_)
            · have hf := if_t hf hc
              refine lv_iload_n (pc := 79) C0.1 C0.2.1 dX6_ifPacked_79 rfl (lv_at hl 2 rfl) ?_
              refine lv_bipush (v := 10) (pc := 80) C0.1 C0.2.1 dX6_ifPacked_80 (by decide) ?_
              refine lv_isub (pc := 82) C0.1 C0.2.1 dX6_ifPacked_82 ?_
              refine lv_istore_n (pc := 83) (lv' := [(3, .int (v2 - 10)), (0, .ref (ad 167)), (1, .int v1), (2, .int v2)]) C0.1 C0.2.1 dX6_ifPacked_83 rfl hl (by decide) rfl (fun ls hl => ?_)
              refine lv_aload_n (pc := 84) C0.1 C0.2.1 dX6_ifPacked_84 rfl (lv_at hl 1 rfl) ?_
              refine x_get (pc := 85) (v := .ref (ad (132 + 0))) C0 hK hw (by decide) ly_M rfl inX6 0 (by decide) wf_X6_10 rfl rfl dX6_ifPacked_85 ?_
              refine lv_iload_n (pc := 88) C0.1 C0.2.1 dX6_ifPacked_88 rfl (lv_at hl 0 rfl) ?_
              obtain ⟨q17, hq17, hf⟩ := bd_e hf
              refine x_backp (pc := 89) hw (x_runV (pc := 89) (As := [.int (v2 - 10)]) (rest := []) C0 hK hw hl.1 ⟨Nat.zero_le _, Nat.zero_le _⟩ (kX0_has l D y ad hI 0 (by decide) (v2 - 10) q16 hq17) (jy_B (by decide)) (ly_B (by decide)) rfl rfl wc_X0_has wm_X6_108 wi_X0_has ws_X0_has wn_X0 ⟨rfl, rfl⟩ hd_X0_has rfl ⟨Nat.le_of_ble_eq_true rfl, Nat.le_of_ble_eq_true rfl⟩ (Nat.le_of_ble_eq_true rfl) dX6_ifPacked_89) (fun H locs hw => ?_)
              refine lv_if_eq (tgt := 107) (pc := 92) C0.1 C0.2.1 dX6_ifPacked_92 (by decide) (fun hc => ?_) (fun hc => ?_)
              · have hf := if_t hf hc
                refine lv_bipush (v := (-9)) (pc := 107) C0.1 C0.2.1 dX6_ifPacked_107 (by decide) ?_
                exact x_iret (pc := 109) C0 hK hk hr hw (Option.some.inj hf) dX6_ifPacked_109
              · have hf := if_f hf hc
                refine lv_aload_n (pc := 95) C0.1 C0.2.1 dX6_ifPacked_95 rfl (lv_at hl 1 rfl) ?_
                refine x_get (pc := 96) (v := .ref (ad 162)) C0 hK hw (by decide) ly_M rfl inX6 4 (by decide) wf_X6_40 rfl rfl dX6_ifPacked_96 ?_
                refine x_get (pc := 99) (v := .ref (ad (163 + 0))) C0 hK hw (by decide) ly_P rfl inX3 0 (by decide) wf_X6_205 rfl rfl dX6_ifPacked_99 ?_
                refine lv_iload_n (pc := 102) C0.1 C0.2.1 dX6_ifPacked_102 rfl (lv_at hl 0 rfl) ?_
                obtain ⟨hi, hf⟩ := gd_e hf
                refine x_iald (pc := 103) C0 hK hw (jy_O (by decide)) (ly_O (by decide)) hi dX6_ifPacked_103 ?_
                refine lv_goto (tgt := 109) (pc := 104) C0.1 C0.2.1 dX6_ifPacked_104 (by decide) ?_
                exact x_iret (pc := 109) C0 hK hk hr hw (Option.some.inj hf) dX6_ifPacked_109
            · have hf := if_f hf hc
              refine lv_aload_n (pc := 69) C0.1 C0.2.1 dX6_ifPacked_69 rfl (lv_at hl 0 rfl) ?_
              refine x_get (pc := 70) (v := .ref (ad 162)) C0 hK hw (by decide) ly_M rfl inX6 4 (by decide) wf_X6_40 rfl rfl dX6_ifPacked_70 ?_
              refine x_get (pc := 73) (v := .ref (ad (163 + 1))) C0 hK hw (by decide) ly_P rfl inX3 1 (by decide) wf_X6_201 rfl rfl dX6_ifPacked_73 ?_
              refine lv_iload_n (pc := 76) C0.1 C0.2.1 dX6_ifPacked_76 rfl (lv_at hl 2 rfl) ?_
              obtain ⟨hi, hf⟩ := gd_e hf
              refine x_iald (pc := 77) C0 hK hw (jy_O (by decide)) (ly_O (by decide)) hi dX6_ifPacked_77 ?_
              exact x_iret (pc := 78) C0 hK hk hr hw (Option.some.inj hf) dX6_ifPacked_78
        · have hf := if_f hf hc
          refine lv_bipush (v := (-2)) (pc := 32) C0.1 C0.2.1 dX6_ifPacked_32 (by decide) ?_
          exact x_iret (pc := 34) C0 hK hk hr hw (Option.some.inj hf) dX6_ifPacked_34
    · have hf := if_f hf hc
      refine lv_iconst (v := (-1)) (pc := 15) C0.1 C0.2.1 dX6_ifPacked_15 (by decide) ?_
      exact x_iret (pc := 16) C0 hK hk hr hw (Option.some.inj hf) dX6_ifPacked_16
def wX6_undo : List Cond := .code yX6_undo cX6_undo 1 (some .int) :: lwT
def rX6_undo : Room := { frames := 4, cells := 0, slots := 0, locals := 85 }
set_option maxRecDepth 100000 in
set_option maxHeartbeats 4000000 in
theorem kX6_undo (l : Launch) (D : va_G) (y : Nat → ClassId) (ad : Nat → Nat) (hI : XI ad 168)  (u : S) {o : Int32 × S} (hf : fX6_undo  u = some o) : Met l yX6_undo wX6_undo rX6_undo (va_Pc [.ref (ad 167)] (XW D y ad LX 168 u)) (XQi D y ad LX 168 o) 0 0 (XA ad 168) := by
  refine x_met (bytes := cX6_undo) (maxL := 1) (ret := (some .int)) (own := RX6) (by decide) rfl rfl (Nat.le_of_ble_eq_true rfl) (fun p e s m below meth c ls C0 hK hk hr hw hl => ?_)
  have hl : lv_has ls 1 [(0, .ref (ad 167))] := hl
  unfold fX6_undo at hf
  refine lv_aload_n (pc := 0) C0.1 C0.2.1 dX6_undo_0 rfl (lv_at hl 0 rfl) ?_
  refine x_get (pc := 1) (v := .ref (ad 158)) C0 hK hw (by decide) ly_M rfl inX6 1 (by decide) wf_X6_19 rfl rfl dX6_undo_1 ?_
  refine x_get (pc := 4) (v := .int (u.1 158 0)) C0 hK hw (by decide) ly_H rfl inX2 0 (by decide) wf_X6_211 rfl rfl dX6_undo_4 ?_
  refine lv_if_ne (tgt := 13) (pc := 7) C0.1 C0.2.1 dX6_undo_7 (by decide) (fun hc => ?_) (fun hc => ?_)
  · have hf := if_f hf hc
    refine lv_aload_n (pc := 13) C0.1 C0.2.1 dX6_undo_13 rfl (lv_at hl 0 rfl) ?_
    refine x_get (pc := 14) (v := .ref (ad 158)) C0 hK hw (by decide) ly_M rfl inX6 1 (by decide) wf_X6_19 rfl rfl dX6_undo_14 ?_
    refine lv_aload_n (pc := 17) C0.1 C0.2.1 dX6_undo_17 rfl (lv_at hl 0 rfl) ?_
    refine x_get (pc := 18) (v := .ref (ad (132 + 0))) C0 hK hw (by decide) ly_M rfl inX6 0 (by decide) wf_X6_10 rfl rfl dX6_undo_18 ?_
    obtain ⟨q1, hq1, hf⟩ := bd_e hf
    refine x_backv (pc := 21) hw (x_runV (pc := 21) (As := [.ref (ad (132 + 0))]) (rest := []) C0 hK hw hl.1 ⟨Nat.zero_le _, Nat.zero_le _⟩ (kX2_restore l D y ad hI 0 (by decide) u hq1) (by decide) ly_H rfl rfl wc_X2_restore wm_X6_214 wi_X2_restore ws_X2_restore wn_X2 ⟨rfl, rfl⟩ hd_X2_restore rfl ⟨Nat.le_of_ble_eq_true rfl, Nat.le_of_ble_eq_true rfl⟩ (Nat.le_of_ble_eq_true rfl) dX6_undo_21) (fun H locs hw => ?_)
    refine lv_aload_n (pc := 24) C0.1 C0.2.1 dX6_undo_24 rfl (lv_at hl 0 rfl) ?_
    refine x_get (pc := 25) (v := .ref (ad 158)) C0 hK hw (by decide) ly_M rfl inX6 1 (by decide) wf_X6_19 rfl rfl dX6_undo_25 ?_
    refine x_get (pc := 28) (v := .int (q1.1 158 0)) C0 hK hw (by decide) ly_H rfl inX2 0 (by decide) wf_X6_211 rfl rfl dX6_undo_28 ?_
    exact x_iret (pc := 31) C0 hK hk hr hw (Option.some.inj hf) dX6_undo_31
  · have hf := if_t hf hc
    refine lv_bipush (v := (-2)) (pc := 10) C0.1 C0.2.1 dX6_undo_10 (by decide) ?_
    exact x_iret (pc := 12) C0 hK hk hr hw (Option.some.inj hf) dX6_undo_12
def wX6_count : List Cond := .code yX6_count cX6_count 2 (some .int) :: lwT
def rX6_count : Room := { frames := 4, cells := 0, slots := 0, locals := 94 }
set_option maxRecDepth 100000 in
set_option maxHeartbeats 4000000 in
theorem kX6_count (l : Launch) (D : va_G) (y : Nat → ClassId) (ad : Nat → Nat) (hI : XI ad 168) (v1 : Int32) (u : S) {o : Int32} (hf : fX6_count v1 u = some o) : Met l yX6_count wX6_count rX6_count (va_Pc [.ref (ad 167), .int v1] (XW D y ad LX 168 u)) (XQi D y ad LX 168 (o, u)) 0 0 (XA ad 168) := by
  refine x_met (bytes := cX6_count) (maxL := 2) (ret := (some .int)) (own := RX6) (by decide) rfl rfl (Nat.le_of_ble_eq_true rfl) (fun p e s m below meth c ls C0 hK hk hr hw hl => ?_)
  have hl : lv_has ls 2 [(0, .ref (ad 167)), (1, .int v1)] := hl
  unfold fX6_count at hf
  refine lv_iload_n (pc := 0) C0.1 C0.2.1 dX6_count_0 rfl (lv_at hl 1 rfl) ?_
  by_cases hc0 : v1 = 0
  · have hf := if_t hf hc0
    refine lv_tableIn (tgt := 68) (pc := 1) C0.1 C0.2.1 dX6_count_1 (by rw [hc0]; decide) (by rw [hc0]; decide) (by rw [hc0]; rfl) (by decide) ?_
    refine lv_aload_n (pc := 68) C0.1 C0.2.1 dX6_count_68 rfl (lv_at hl 0 rfl) ?_
    refine x_get (pc := 69) (v := .ref (ad (132 + 0))) C0 hK hw (by decide) ly_M rfl inX6 0 (by decide) wf_X6_10 rfl rfl dX6_count_69 ?_
    refine x_get (pc := 72) (v := .int (u.1 (132 + 0) 0)) C0 hK hw (jy_B (by decide)) (ly_B (by decide)) rfl inX0 0 (by decide) wf_X6_65 rfl rfl dX6_count_72 ?_
    exact x_iret (pc := 75) C0 hK hk hr hw (congrArg (fun z => (z, u)) (Option.some.inj hf)) dX6_count_75
  · have hf := if_f hf hc0
    by_cases hc1 : v1 = 1
    · have hf := if_t hf hc1
      refine lv_tableIn (tgt := 76) (pc := 1) C0.1 C0.2.1 dX6_count_1 (by rw [hc1]; decide) (by rw [hc1]; decide) (by rw [hc1]; rfl) (by decide) ?_
      refine lv_aload_n (pc := 76) C0.1 C0.2.1 dX6_count_76 rfl (lv_at hl 0 rfl) ?_
      refine x_get (pc := 77) (v := .ref (ad (132 + 0))) C0 hK hw (by decide) ly_M rfl inX6 0 (by decide) wf_X6_10 rfl rfl dX6_count_77 ?_
      refine x_get (pc := 80) (v := .int (u.1 (132 + 0) 1)) C0 hK hw (jy_B (by decide)) (ly_B (by decide)) rfl inX0 1 (by decide) wf_X6_69 rfl rfl dX6_count_80 ?_
      exact x_iret (pc := 83) C0 hK hk hr hw (congrArg (fun z => (z, u)) (Option.some.inj hf)) dX6_count_83
    · have hf := if_f hf hc1
      by_cases hc2 : v1 = 2
      · have hf := if_t hf hc2
        refine lv_tableIn (tgt := 84) (pc := 1) C0.1 C0.2.1 dX6_count_1 (by rw [hc2]; decide) (by rw [hc2]; decide) (by rw [hc2]; rfl) (by decide) ?_
        refine lv_aload_n (pc := 84) C0.1 C0.2.1 dX6_count_84 rfl (lv_at hl 0 rfl) ?_
        refine x_get (pc := 85) (v := .ref (ad (132 + 0))) C0 hK hw (by decide) ly_M rfl inX6 0 (by decide) wf_X6_10 rfl rfl dX6_count_85 ?_
        refine x_get (pc := 88) (v := .int (u.1 (132 + 0) 2)) C0 hK hw (jy_B (by decide)) (ly_B (by decide)) rfl inX0 2 (by decide) wf_X6_72 rfl rfl dX6_count_88 ?_
        exact x_iret (pc := 91) C0 hK hk hr hw (congrArg (fun z => (z, u)) (Option.some.inj hf)) dX6_count_91
      · have hf := if_f hf hc2
        by_cases hc3 : v1 = 3
        · have hf := if_t hf hc3
          refine lv_tableIn (tgt := 92) (pc := 1) C0.1 C0.2.1 dX6_count_1 (by rw [hc3]; decide) (by rw [hc3]; decide) (by rw [hc3]; rfl) (by decide) ?_
          refine lv_aload_n (pc := 92) C0.1 C0.2.1 dX6_count_92 rfl (lv_at hl 0 rfl) ?_
          refine x_get (pc := 93) (v := .ref (ad (132 + 0))) C0 hK hw (by decide) ly_M rfl inX6 0 (by decide) wf_X6_10 rfl rfl dX6_count_93 ?_
          refine x_get (pc := 96) (v := .int (u.1 (132 + 0) 3)) C0 hK hw (jy_B (by decide)) (ly_B (by decide)) rfl inX0 3 (by decide) wf_X6_75 rfl rfl dX6_count_96 ?_
          exact x_iret (pc := 99) C0 hK hk hr hw (congrArg (fun z => (z, u)) (Option.some.inj hf)) dX6_count_99
        · have hf := if_f hf hc3
          by_cases hc4 : v1 = 4
          · have hf := if_t hf hc4
            refine lv_tableIn (tgt := 100) (pc := 1) C0.1 C0.2.1 dX6_count_1 (by rw [hc4]; decide) (by rw [hc4]; decide) (by rw [hc4]; rfl) (by decide) ?_
            refine lv_aload_n (pc := 100) C0.1 C0.2.1 dX6_count_100 rfl (lv_at hl 0 rfl) ?_
            refine x_get (pc := 101) (v := .ref (ad (132 + 0))) C0 hK hw (by decide) ly_M rfl inX6 0 (by decide) wf_X6_10 rfl rfl dX6_count_101 ?_
            refine x_get (pc := 104) (v := .int (u.1 (132 + 0) 4)) C0 hK hw (jy_B (by decide)) (ly_B (by decide)) rfl inX0 4 (by decide) wf_X6_95 rfl rfl dX6_count_104 ?_
            exact x_iret (pc := 107) C0 hK hk hr hw (congrArg (fun z => (z, u)) (Option.some.inj hf)) dX6_count_107
          · have hf := if_f hf hc4
            by_cases hc5 : v1 = 5
            · have hf := if_t hf hc5
              refine lv_tableIn (tgt := 108) (pc := 1) C0.1 C0.2.1 dX6_count_1 (by rw [hc5]; decide) (by rw [hc5]; decide) (by rw [hc5]; rfl) (by decide) ?_
              refine lv_aload_n (pc := 108) C0.1 C0.2.1 dX6_count_108 rfl (lv_at hl 0 rfl) ?_
              refine x_get (pc := 109) (v := .ref (ad (132 + 0))) C0 hK hw (by decide) ly_M rfl inX6 0 (by decide) wf_X6_10 rfl rfl dX6_count_109 ?_
              obtain ⟨q1, hq1, hf⟩ := bd_e hf
              refine x_backp (pc := 112) hw (x_runV (pc := 112) (As := []) (rest := []) C0 hK hw hl.1 ⟨Nat.zero_le _, Nat.zero_le _⟩ (kX0_inside l D y ad hI 0 (by decide) u hq1) (jy_B (by decide)) (ly_B (by decide)) rfl rfl wc_X0_inside wm_X6_48 wi_X0_inside ws_X0_inside wn_X0 ⟨rfl, rfl⟩ hd_X0_inside rfl ⟨Nat.le_of_ble_eq_true rfl, Nat.le_of_ble_eq_true rfl⟩ (Nat.le_of_ble_eq_true rfl) dX6_count_112) (fun H locs hw => ?_)
              obtain ⟨q2, hq2, hf⟩ := bd_e hf
              refine x_backp (pc := 115) hw (x_runS (pc := 115) (As := [.int q1]) (rest := []) C0 hK hw hl.1 ⟨Nat.zero_le _, Nat.zero_le _⟩ (kJ6_bitCount_0f7a4 l D y ad hI q1 u hq2) rfl wc_J6_bitCount_0f7a4 wm_X6_52 wt_J6_bitCount_0f7a4 wn_J6 ⟨rfl, rfl⟩ hd_J6_bitCount_0f7a4 rfl ⟨Nat.le_of_ble_eq_true rfl, Nat.le_of_ble_eq_true rfl⟩ (Nat.le_of_ble_eq_true rfl) dX6_count_115) (fun H locs hw => ?_)
              exact x_iret (pc := 118) C0 hK hk hr hw (congrArg (fun z => (z, u)) (Option.some.inj hf)) dX6_count_118
            · have hf := if_f hf hc5
              by_cases hc6 : v1 = 6
              · have hf := if_t hf hc6
                refine lv_tableIn (tgt := 119) (pc := 1) C0.1 C0.2.1 dX6_count_1 (by rw [hc6]; decide) (by rw [hc6]; decide) (by rw [hc6]; rfl) (by decide) ?_
                refine lv_aload_n (pc := 119) C0.1 C0.2.1 dX6_count_119 rfl (lv_at hl 0 rfl) ?_
                refine x_get (pc := 120) (v := .ref (ad (132 + 0))) C0 hK hw (by decide) ly_M rfl inX6 0 (by decide) wf_X6_10 rfl rfl dX6_count_120 ?_
                obtain ⟨q3, hq3, hf⟩ := bd_e hf
                refine x_backp (pc := 123) hw (x_runV (pc := 123) (As := []) (rest := []) C0 hK hw hl.1 ⟨Nat.zero_le _, Nat.zero_le _⟩ (kX0_freeTrays l D y ad hI 0 (by decide) u hq3) (jy_B (by decide)) (ly_B (by decide)) rfl rfl wc_X0_freeTrays wm_X6_217 wi_X0_freeTrays ws_X0_freeTrays wn_X0 ⟨rfl, rfl⟩ hd_X0_freeTrays rfl ⟨Nat.le_of_ble_eq_true rfl, Nat.le_of_ble_eq_true rfl⟩ (Nat.le_of_ble_eq_true rfl) dX6_count_123) (fun H locs hw => ?_)
                exact x_iret (pc := 126) C0 hK hk hr hw (congrArg (fun z => (z, u)) (Option.some.inj hf)) dX6_count_126
              · have hf := if_f hf hc6
                by_cases hc7 : v1 = 7
                · have hf := if_t hf hc7
                  refine lv_tableIn (tgt := 127) (pc := 1) C0.1 C0.2.1 dX6_count_1 (by rw [hc7]; decide) (by rw [hc7]; decide) (by rw [hc7]; rfl) (by decide) ?_
                  refine lv_aload_n (pc := 127) C0.1 C0.2.1 dX6_count_127 rfl (lv_at hl 0 rfl) ?_
                  refine x_get (pc := 128) (v := .ref (ad (132 + 0))) C0 hK hw (by decide) ly_M rfl inX6 0 (by decide) wf_X6_10 rfl rfl dX6_count_128 ?_
                  obtain ⟨q4, hq4, hf⟩ := bd_e hf
                  refine x_backp (pc := 131) hw (x_runV (pc := 131) (As := []) (rest := []) C0 hK hw hl.1 ⟨Nat.zero_le _, Nat.zero_le _⟩ (kX0_filledHeight l D y ad hI 0 (by decide) u hq4) (jy_B (by decide)) (ly_B (by decide)) rfl rfl wc_X0_filledHeight wm_X6_220 wi_X0_filledHeight ws_X0_filledHeight wn_X0 ⟨rfl, rfl⟩ hd_X0_filledHeight rfl ⟨Nat.le_of_ble_eq_true rfl, Nat.le_of_ble_eq_true rfl⟩ (Nat.le_of_ble_eq_true rfl) dX6_count_131) (fun H locs hw => ?_)
                  exact x_iret (pc := 134) C0 hK hk hr hw (congrArg (fun z => (z, u)) (Option.some.inj hf)) dX6_count_134
                · have hf := if_f hf hc7
                  by_cases hc8 : v1 = 8
                  · have hf := if_t hf hc8
                    refine lv_tableIn (tgt := 135) (pc := 1) C0.1 C0.2.1 dX6_count_1 (by rw [hc8]; decide) (by rw [hc8]; decide) (by rw [hc8]; rfl) (by decide) ?_
                    refine lv_aload_n (pc := 135) C0.1 C0.2.1 dX6_count_135 rfl (lv_at hl 0 rfl) ?_
                    refine x_get (pc := 136) (v := .ref (ad (132 + 0))) C0 hK hw (by decide) ly_M rfl inX6 0 (by decide) wf_X6_10 rfl rfl dX6_count_136 ?_
                    obtain ⟨q5, hq5, hf⟩ := bd_e hf
                    refine x_backp (pc := 139) hw (x_runV (pc := 139) (As := []) (rest := []) C0 hK hw hl.1 ⟨Nat.zero_le _, Nat.zero_le _⟩ (kX0_air l D y ad hI 0 (by decide) u hq5) (jy_B (by decide)) (ly_B (by decide)) rfl rfl wc_X0_air wm_X6_223 wi_X0_air ws_X0_air wn_X0 ⟨rfl, rfl⟩ hd_X0_air rfl ⟨Nat.le_of_ble_eq_true rfl, Nat.le_of_ble_eq_true rfl⟩ (Nat.le_of_ble_eq_true rfl) dX6_count_139) (fun H locs hw => ?_)
                    exact x_iret (pc := 142) C0 hK hk hr hw (congrArg (fun z => (z, u)) (Option.some.inj hf)) dX6_count_142
                  · have hf := if_f hf hc8
                    by_cases hc9 : v1 = 9
                    · have hf := if_t hf hc9
                      refine lv_tableIn (tgt := 143) (pc := 1) C0.1 C0.2.1 dX6_count_1 (by rw [hc9]; decide) (by rw [hc9]; decide) (by rw [hc9]; rfl) (by decide) ?_
                      refine lv_aload_n (pc := 143) C0.1 C0.2.1 dX6_count_143 rfl (lv_at hl 0 rfl) ?_
                      refine x_get (pc := 144) (v := .ref (ad (132 + 0))) C0 hK hw (by decide) ly_M rfl inX6 0 (by decide) wf_X6_10 rfl rfl dX6_count_144 ?_
                      obtain ⟨q6, hq6, hf⟩ := bd_e hf
                      refine x_backp (pc := 147) hw (x_runV (pc := 147) (As := []) (rest := []) C0 hK hw hl.1 ⟨Nat.zero_le _, Nat.zero_le _⟩ (kX0_faults l D y ad hI 0 (by decide) u hq6) (jy_B (by decide)) (ly_B (by decide)) rfl rfl wc_X0_faults wm_X6_226 wi_X0_faults ws_X0_faults wn_X0 ⟨rfl, rfl⟩ hd_X0_faults rfl ⟨Nat.le_of_ble_eq_true rfl, Nat.le_of_ble_eq_true rfl⟩ (Nat.le_of_ble_eq_true rfl) dX6_count_147) (fun H locs hw => ?_)
                      exact x_iret (pc := 150) C0 hK hk hr hw (congrArg (fun z => (z, u)) (Option.some.inj hf)) dX6_count_150
                    · have hf := if_f hf hc9
                      by_cases hc10 : v1 = 10
                      · have hf := if_t hf hc10
                        refine lv_tableIn (tgt := 151) (pc := 1) C0.1 C0.2.1 dX6_count_1 (by rw [hc10]; decide) (by rw [hc10]; decide) (by rw [hc10]; rfl) (by decide) ?_
                        refine lv_aload_n (pc := 151) C0.1 C0.2.1 dX6_count_151 rfl (lv_at hl 0 rfl) ?_
                        refine x_get (pc := 152) (v := .ref (ad (132 + 0))) C0 hK hw (by decide) ly_M rfl inX6 0 (by decide) wf_X6_10 rfl rfl dX6_count_152 ?_
                        obtain ⟨q7, hq7, hf⟩ := bd_e hf
                        refine x_backp (pc := 155) hw (x_runV (pc := 155) (As := []) (rest := []) C0 hK hw hl.1 ⟨Nat.zero_le _, Nat.zero_le _⟩ (kX0_lifts l D y ad hI 0 (by decide) u hq7) (jy_B (by decide)) (ly_B (by decide)) rfl rfl wc_X0_lifts wm_X6_229 wi_X0_lifts ws_X0_lifts wn_X0 ⟨rfl, rfl⟩ hd_X0_lifts rfl ⟨Nat.le_of_ble_eq_true rfl, Nat.le_of_ble_eq_true rfl⟩ (Nat.le_of_ble_eq_true rfl) dX6_count_155) (fun H locs hw => ?_)
                        exact x_iret (pc := 158) C0 hK hk hr hw (congrArg (fun z => (z, u)) (Option.some.inj hf)) dX6_count_158
                      · have hf := if_f hf hc10
                        by_cases hc11 : v1 = 11
                        · have hf := if_t hf hc11
                          refine lv_tableIn (tgt := 159) (pc := 1) C0.1 C0.2.1 dX6_count_1 (by rw [hc11]; decide) (by rw [hc11]; decide) (by rw [hc11]; rfl) (by decide) ?_
                          refine lv_aload_n (pc := 159) C0.1 C0.2.1 dX6_count_159 rfl (lv_at hl 0 rfl) ?_
                          refine x_get (pc := 160) (v := .ref (ad 160)) C0 hK hw (by decide) ly_M rfl inX6 2 (by decide) wf_X6_26 rfl rfl dX6_count_160 ?_
                          refine x_get (pc := 163) (v := .int (u.1 160 0)) C0 hK hw (by decide) ly_X rfl inX4 0 (by decide) wf_X6_78 rfl rfl dX6_count_163 ?_
                          exact x_iret (pc := 166) C0 hK hk hr hw (congrArg (fun z => (z, u)) (Option.some.inj hf)) dX6_count_166
                        · have hf := if_f hf hc11
                          by_cases hc12 : v1 = 12
                          · have hf := if_t hf hc12
                            refine lv_tableIn (tgt := 167) (pc := 1) C0.1 C0.2.1 dX6_count_1 (by rw [hc12]; decide) (by rw [hc12]; decide) (by rw [hc12]; rfl) (by decide) ?_
                            refine lv_aload_n (pc := 167) C0.1 C0.2.1 dX6_count_167 rfl (lv_at hl 0 rfl) ?_
                            refine x_get (pc := 168) (v := .ref (ad 158)) C0 hK hw (by decide) ly_M rfl inX6 1 (by decide) wf_X6_19 rfl rfl dX6_count_168 ?_
                            refine x_get (pc := 171) (v := .int (u.1 158 0)) C0 hK hw (by decide) ly_H rfl inX2 0 (by decide) wf_X6_211 rfl rfl dX6_count_171 ?_
                            exact x_iret (pc := 174) C0 hK hk hr hw (congrArg (fun z => (z, u)) (Option.some.inj hf)) dX6_count_174
                          · have hf := if_f hf hc12
                            refine lv_tableOut (tgt := 175) (pc := 1) C0.1 C0.2.1 dX6_count_1 (by have h0 := lv_neT hc0 (a := 0) (by decide); have h1 := lv_neT hc1 (a := 1) (by decide); have h2 := lv_neT hc2 (a := 2) (by decide); have h3 := lv_neT hc3 (a := 3) (by decide); have h4 := lv_neT hc4 (a := 4) (by decide); have h5 := lv_neT hc5 (a := 5) (by decide); have h6 := lv_neT hc6 (a := 6) (by decide); have h7 := lv_neT hc7 (a := 7) (by decide); have h8 := lv_neT hc8 (a := 8) (by decide); have h9 := lv_neT hc9 (a := 9) (by decide); have h10 := lv_neT hc10 (a := 10) (by decide); have h11 := lv_neT hc11 (a := 11) (by decide); have h12 := lv_neT hc12 (a := 12) (by decide); omega) (by decide) ?_
                            refine lv_iconst (v := (-1)) (pc := 175) C0.1 C0.2.1 dX6_count_175 (by decide) ?_
                            exact x_iret (pc := 176) C0 hK hk hr hw (congrArg (fun z => (z, u)) (Option.some.inj hf)) dX6_count_176
