def wX5_copyFrom : List Cond := .code yX5_copyFrom cX5_copyFrom 2 none :: lwT
def rX5_copyFrom : Room := { frames := 0, cells := 0, slots := 0, locals := 0 }
set_option maxRecDepth 100000 in
set_option maxHeartbeats 4000000 in
theorem kX5_copyFrom (l : Launch) (D : va_G) (y : Nat → ClassId) (ad : Nat → Nat) (hI : XI ad 168) (v0 : Nat) (hv0 : v0 < 132) (v1 : Nat) (hv1 : v1 < 132) (u : S) {o : S} (hf : fX5_copyFrom v0 v1 u = some o) : Met l yX5_copyFrom wX5_copyFrom rX5_copyFrom (va_Pc [.ref (ad v0), .ref (ad v1)] (XW D y ad LX 168 u)) (XQv D y ad LX 168 o) 0 0 (XA ad 168) := by
  refine x_met (bytes := cX5_copyFrom) (maxL := 2) (ret := none) (own := RX5) (by decide) rfl rfl (Nat.le_of_ble_eq_true rfl) (fun p e s m below meth c ls C0 hK hk hr hw hl => ?_)
  have hl : lv_has ls 2 [(0, .ref (ad v0)), (1, .ref (ad v1))] := hl
  unfold fX5_copyFrom at hf
  refine lv_aload_n (pc := 0) C0.1 C0.2.1 dX5_copyFrom_0 rfl (lv_at hl 0 rfl) ?_
  refine lv_aload_n (pc := 1) C0.1 C0.2.1 dX5_copyFrom_1 rfl (lv_at hl 1 rfl) ?_
  refine x_get (pc := 2) (v := .int (u.1 v1 0)) C0 hK hw (jy_T hv1) (ly_T hv1) rfl inX5 0 (by decide) wf_X5_7 rfl rfl dX5_copyFrom_2 ?_
  obtain ⟨u1, hu, hf⟩ := nm_f hf
  refine x_put (pc := 5) hI C0 hK hw (jy_T hv0) (ly_T hv0) rfl inX5 tyX5_ok nmX5 0 (by decide) wf_X5_7 rfl rfl rfl hu rfl rfl dX5_copyFrom_5 (fun H locs hw => ?_)
  refine lv_aload_n (pc := 8) C0.1 C0.2.1 dX5_copyFrom_8 rfl (lv_at hl 0 rfl) ?_
  refine lv_aload_n (pc := 9) C0.1 C0.2.1 dX5_copyFrom_9 rfl (lv_at hl 1 rfl) ?_
  refine x_get (pc := 10) (v := .int (u1.1 v1 1)) C0 hK hw (jy_T hv1) (ly_T hv1) rfl inX5 1 (by decide) wf_X5_13 rfl rfl dX5_copyFrom_10 ?_
  obtain ⟨u2, hu, hf⟩ := nm_f hf
  refine x_put (pc := 13) hI C0 hK hw (jy_T hv0) (ly_T hv0) rfl inX5 tyX5_ok nmX5 1 (by decide) wf_X5_13 rfl rfl rfl hu rfl rfl dX5_copyFrom_13 (fun H locs hw => ?_)
  refine lv_aload_n (pc := 16) C0.1 C0.2.1 dX5_copyFrom_16 rfl (lv_at hl 0 rfl) ?_
  refine lv_aload_n (pc := 17) C0.1 C0.2.1 dX5_copyFrom_17 rfl (lv_at hl 1 rfl) ?_
  refine x_get (pc := 18) (v := .int (u2.1 v1 2)) C0 hK hw (jy_T hv1) (ly_T hv1) rfl inX5 2 (by decide) wf_X5_16 rfl rfl dX5_copyFrom_18 ?_
  obtain ⟨u3, hu, hf⟩ := nm_f hf
  refine x_put (pc := 21) hI C0 hK hw (jy_T hv0) (ly_T hv0) rfl inX5 tyX5_ok nmX5 2 (by decide) wf_X5_16 rfl rfl rfl hu rfl rfl dX5_copyFrom_21 (fun H locs hw => ?_)
  refine lv_aload_n (pc := 24) C0.1 C0.2.1 dX5_copyFrom_24 rfl (lv_at hl 0 rfl) ?_
  refine lv_aload_n (pc := 25) C0.1 C0.2.1 dX5_copyFrom_25 rfl (lv_at hl 1 rfl) ?_
  refine x_get (pc := 26) (v := .int (u3.1 v1 3)) C0 hK hw (jy_T hv1) (ly_T hv1) rfl inX5 3 (by decide) wf_X5_19 rfl rfl dX5_copyFrom_26 ?_
  obtain ⟨u4, hu, hf⟩ := nm_f hf
  refine x_put (pc := 29) hI C0 hK hw (jy_T hv0) (ly_T hv0) rfl inX5 tyX5_ok nmX5 3 (by decide) wf_X5_19 rfl rfl rfl hu rfl rfl dX5_copyFrom_29 (fun H locs hw => ?_)
  refine lv_aload_n (pc := 32) C0.1 C0.2.1 dX5_copyFrom_32 rfl (lv_at hl 0 rfl) ?_
  refine lv_aload_n (pc := 33) C0.1 C0.2.1 dX5_copyFrom_33 rfl (lv_at hl 1 rfl) ?_
  refine x_get (pc := 34) (v := .int (u4.1 v1 4)) C0 hK hw (jy_T hv1) (ly_T hv1) rfl inX5 4 (by decide) wf_X5_22 rfl rfl dX5_copyFrom_34 ?_
  obtain ⟨u5, hu, hf⟩ := nm_f hf
  refine x_put (pc := 37) hI C0 hK hw (jy_T hv0) (ly_T hv0) rfl inX5 tyX5_ok nmX5 4 (by decide) wf_X5_22 rfl rfl rfl hu rfl rfl dX5_copyFrom_37 (fun H locs hw => ?_)
  refine lv_aload_n (pc := 40) C0.1 C0.2.1 dX5_copyFrom_40 rfl (lv_at hl 0 rfl) ?_
  refine lv_aload_n (pc := 41) C0.1 C0.2.1 dX5_copyFrom_41 rfl (lv_at hl 1 rfl) ?_
  refine x_get (pc := 42) (v := .int (u5.1 v1 5)) C0 hK hw (jy_T hv1) (ly_T hv1) rfl inX5 5 (by decide) wf_X5_28 rfl rfl dX5_copyFrom_42 ?_
  obtain ⟨hz, hf⟩ := gd_e hf
  obtain ⟨u6, hu, hf⟩ := nm_f hf
  refine x_put (pc := 45) hI C0 hK hw (jy_T hv0) (ly_T hv0) rfl inX5 tyX5_ok nmX5 5 (by decide) wf_X5_28 rfl rfl rfl hu (isb_narrow hz) (isb_fits hz) dX5_copyFrom_45 (fun H locs hw => ?_)
  refine lv_aload_n (pc := 48) C0.1 C0.2.1 dX5_copyFrom_48 rfl (lv_at hl 0 rfl) ?_
  refine lv_aload_n (pc := 49) C0.1 C0.2.1 dX5_copyFrom_49 rfl (lv_at hl 1 rfl) ?_
  refine x_get (pc := 50) (v := .int (u6.1 v1 6)) C0 hK hw (jy_T hv1) (ly_T hv1) rfl inX5 6 (by decide) wf_X5_32 rfl rfl dX5_copyFrom_50 ?_
  obtain ⟨hz, hf⟩ := gd_e hf
  obtain ⟨u7, hu, hf⟩ := nm_f hf
  refine x_put (pc := 53) hI C0 hK hw (jy_T hv0) (ly_T hv0) rfl inX5 tyX5_ok nmX5 6 (by decide) wf_X5_32 rfl rfl rfl hu (isb_narrow hz) (isb_fits hz) dX5_copyFrom_53 (fun H locs hw => ?_)
  refine lv_aload_n (pc := 56) C0.1 C0.2.1 dX5_copyFrom_56 rfl (lv_at hl 0 rfl) ?_
  refine lv_aload_n (pc := 57) C0.1 C0.2.1 dX5_copyFrom_57 rfl (lv_at hl 1 rfl) ?_
  refine x_get (pc := 58) (v := .int (u7.1 v1 7)) C0 hK hw (jy_T hv1) (ly_T hv1) rfl inX5 7 (by decide) wf_X5_35 rfl rfl dX5_copyFrom_58 ?_
  obtain ⟨u8, hu, hf⟩ := nm_f hf
  refine x_put (pc := 61) hI C0 hK hw (jy_T hv0) (ly_T hv0) rfl inX5 tyX5_ok nmX5 7 (by decide) wf_X5_35 rfl rfl rfl hu rfl rfl dX5_copyFrom_61 (fun H locs hw => ?_)
  refine lv_aload_n (pc := 64) C0.1 C0.2.1 dX5_copyFrom_64 rfl (lv_at hl 0 rfl) ?_
  refine lv_aload_n (pc := 65) C0.1 C0.2.1 dX5_copyFrom_65 rfl (lv_at hl 1 rfl) ?_
  refine x_get (pc := 66) (v := .int (u8.1 v1 8)) C0 hK hw (jy_T hv1) (ly_T hv1) rfl inX5 8 (by decide) wf_X5_38 rfl rfl dX5_copyFrom_66 ?_
  obtain ⟨u9, hu, hf⟩ := nm_f hf
  refine x_put (pc := 69) hI C0 hK hw (jy_T hv0) (ly_T hv0) rfl inX5 tyX5_ok nmX5 8 (by decide) wf_X5_38 rfl rfl rfl hu rfl rfl dX5_copyFrom_69 (fun H locs hw => ?_)
  refine lv_aload_n (pc := 72) C0.1 C0.2.1 dX5_copyFrom_72 rfl (lv_at hl 0 rfl) ?_
  refine lv_aload_n (pc := 73) C0.1 C0.2.1 dX5_copyFrom_73 rfl (lv_at hl 1 rfl) ?_
  refine x_get (pc := 74) (v := .int (u9.1 v1 9)) C0 hK hw (jy_T hv1) (ly_T hv1) rfl inX5 9 (by decide) wf_X5_41 rfl rfl dX5_copyFrom_74 ?_
  obtain ⟨u10, hu, hf⟩ := nm_f hf
  refine x_put (pc := 77) hI C0 hK hw (jy_T hv0) (ly_T hv0) rfl inX5 tyX5_ok nmX5 9 (by decide) wf_X5_41 rfl rfl rfl hu rfl rfl dX5_copyFrom_77 (fun H locs hw => ?_)
  refine lv_aload_n (pc := 80) C0.1 C0.2.1 dX5_copyFrom_80 rfl (lv_at hl 0 rfl) ?_
  refine lv_aload_n (pc := 81) C0.1 C0.2.1 dX5_copyFrom_81 rfl (lv_at hl 1 rfl) ?_
  refine x_get (pc := 82) (v := .int (u10.1 v1 10)) C0 hK hw (jy_T hv1) (ly_T hv1) rfl inX5 10 (by decide) wf_X5_44 rfl rfl dX5_copyFrom_82 ?_
  obtain ⟨u11, hu, hf⟩ := nm_f hf
  refine x_put (pc := 85) hI C0 hK hw (jy_T hv0) (ly_T hv0) rfl inX5 tyX5_ok nmX5 10 (by decide) wf_X5_44 rfl rfl rfl hu rfl rfl dX5_copyFrom_85 (fun H locs hw => ?_)
  refine lv_aload_n (pc := 88) C0.1 C0.2.1 dX5_copyFrom_88 rfl (lv_at hl 0 rfl) ?_
  refine lv_aload_n (pc := 89) C0.1 C0.2.1 dX5_copyFrom_89 rfl (lv_at hl 1 rfl) ?_
  refine x_get (pc := 90) (v := .int (u11.1 v1 11)) C0 hK hw (jy_T hv1) (ly_T hv1) rfl inX5 11 (by decide) wf_X5_47 rfl rfl dX5_copyFrom_90 ?_
  obtain ⟨u12, hu, hf⟩ := nm_f hf
  refine x_put (pc := 93) hI C0 hK hw (jy_T hv0) (ly_T hv0) rfl inX5 tyX5_ok nmX5 11 (by decide) wf_X5_47 rfl rfl rfl hu rfl rfl dX5_copyFrom_93 (fun H locs hw => ?_)
  refine lv_aload_n (pc := 96) C0.1 C0.2.1 dX5_copyFrom_96 rfl (lv_at hl 0 rfl) ?_
  refine lv_aload_n (pc := 97) C0.1 C0.2.1 dX5_copyFrom_97 rfl (lv_at hl 1 rfl) ?_
  refine x_get (pc := 98) (v := .int (u12.1 v1 12)) C0 hK hw (jy_T hv1) (ly_T hv1) rfl inX5 12 (by decide) wf_X5_50 rfl rfl dX5_copyFrom_98 ?_
  obtain ⟨u13, hu, hf⟩ := nm_f hf
  refine x_put (pc := 101) hI C0 hK hw (jy_T hv0) (ly_T hv0) rfl inX5 tyX5_ok nmX5 12 (by decide) wf_X5_50 rfl rfl rfl hu rfl rfl dX5_copyFrom_101 (fun H locs hw => ?_)
  refine lv_aload_n (pc := 104) C0.1 C0.2.1 dX5_copyFrom_104 rfl (lv_at hl 0 rfl) ?_
  refine lv_aload_n (pc := 105) C0.1 C0.2.1 dX5_copyFrom_105 rfl (lv_at hl 1 rfl) ?_
  refine x_get (pc := 106) (v := .int (u13.1 v1 13)) C0 hK hw (jy_T hv1) (ly_T hv1) rfl inX5 13 (by decide) wf_X5_53 rfl rfl dX5_copyFrom_106 ?_
  obtain ⟨u14, hu, hf⟩ := nm_f hf
  refine x_put (pc := 109) hI C0 hK hw (jy_T hv0) (ly_T hv0) rfl inX5 tyX5_ok nmX5 13 (by decide) wf_X5_53 rfl rfl rfl hu rfl rfl dX5_copyFrom_109 (fun H locs hw => ?_)
  exact x_vret (pc := 112) C0 hK hk hr hw (Option.some.inj hf) dX5_copyFrom_112
def wX5_leave : List Cond := .code yX5_leave cX5_leave 1 none :: lwT
def rX5_leave : Room := { frames := 0, cells := 0, slots := 0, locals := 0 }
set_option maxRecDepth 100000 in
set_option maxHeartbeats 4000000 in
theorem kX5_leave (l : Launch) (D : va_G) (y : Nat → ClassId) (ad : Nat → Nat) (hI : XI ad 168) (v0 : Nat) (hv0 : v0 < 132) (u : S) {o : S} (hf : fX5_leave v0 u = some o) : Met l yX5_leave wX5_leave rX5_leave (va_Pc [.ref (ad v0)] (XW D y ad LX 168 u)) (XQv D y ad LX 168 o) 0 0 (XA ad 168) := by
  refine x_met (bytes := cX5_leave) (maxL := 1) (ret := none) (own := RX5) (by decide) rfl rfl (Nat.le_of_ble_eq_true rfl) (fun p e s m below meth c ls C0 hK hk hr hw hl => ?_)
  have hl : lv_has ls 1 [(0, .ref (ad v0))] := hl
  unfold fX5_leave at hf
  refine lv_aload_n (pc := 0) C0.1 C0.2.1 dX5_leave_0 rfl (lv_at hl 0 rfl) ?_
  refine lv_iconst (v := 0) (pc := 1) C0.1 C0.2.1 dX5_leave_1 (by decide) ?_
  obtain ⟨u1, hu, hf⟩ := nm_f hf
  refine x_put (pc := 2) hI C0 hK hw (jy_T hv0) (ly_T hv0) rfl inX5 tyX5_ok nmX5 5 (by decide) wf_X5_28 rfl rfl rfl hu (isb_narrow rfl) (isb_fits rfl) dX5_leave_2 (fun H locs hw => ?_)
  refine lv_aload_n (pc := 5) C0.1 C0.2.1 dX5_leave_5 rfl (lv_at hl 0 rfl) ?_
  refine lv_iconst (v := 0) (pc := 6) C0.1 C0.2.1 dX5_leave_6 (by decide) ?_
  obtain ⟨u2, hu, hf⟩ := nm_f hf
  refine x_put (pc := 7) hI C0 hK hw (jy_T hv0) (ly_T hv0) rfl inX5 tyX5_ok nmX5 6 (by decide) wf_X5_32 rfl rfl rfl hu (isb_narrow rfl) (isb_fits rfl) dX5_leave_7 (fun H locs hw => ?_)
  exact x_vret (pc := 10) C0 hK hk hr hw (Option.some.inj hf) dX5_leave_10
def wX5_alongX : List Cond := .code yX5_alongX cX5_alongX 2 (some .int) :: lwT
def rX5_alongX : Room := { frames := 0, cells := 0, slots := 0, locals := 0 }
set_option maxRecDepth 100000 in
set_option maxHeartbeats 4000000 in
theorem kX5_alongX (l : Launch) (D : va_G) (y : Nat → ClassId) (ad : Nat → Nat) (hI : XI ad 168) (v0 : Nat) (hv0 : v0 < 132) (v1 : Int32) (u : S) {o : Int32} (hf : fX5_alongX v0 v1 u = some o) : Met l yX5_alongX wX5_alongX rX5_alongX (va_Pc [.ref (ad v0), .int v1] (XW D y ad LX 168 u)) (XQi D y ad LX 168 (o, u)) 0 0 (XA ad 168) := by
  refine x_met (bytes := cX5_alongX) (maxL := 2) (ret := (some .int)) (own := RX5) (by decide) rfl rfl (Nat.le_of_ble_eq_true rfl) (fun p e s m below meth c ls C0 hK hk hr hw hl => ?_)
  have hl : lv_has ls 2 [(0, .ref (ad v0)), (1, .int v1)] := hl
  unfold fX5_alongX at hf
  refine lv_iload_n (pc := 0) C0.1 C0.2.1 dX5_alongX_0 rfl (lv_at hl 1 rfl) ?_
  refine lv_if_eq (tgt := 11) (pc := 1) C0.1 C0.2.1 dX5_alongX_1 (by decide) (fun hc => ?_) (fun hc => ?_)
  · have hf := if_t hf hc
    refine lv_aload_n (pc := 11) C0.1 C0.2.1 dX5_alongX_11 rfl (lv_at hl 0 rfl) ?_
    refine x_get (pc := 12) (v := .int (u.1 v0 0)) C0 hK hw (jy_T hv0) (ly_T hv0) rfl inX5 0 (by decide) wf_X5_7 rfl rfl dX5_alongX_12 ?_
    exact x_iret (pc := 15) C0 hK hk hr hw (congrArg (fun z => (z, u)) (Option.some.inj hf)) dX5_alongX_15
  · have hf := if_f hf hc
    refine lv_aload_n (pc := 4) C0.1 C0.2.1 dX5_alongX_4 rfl (lv_at hl 0 rfl) ?_
    refine x_get (pc := 5) (v := .int (u.1 v0 1)) C0 hK hw (jy_T hv0) (ly_T hv0) rfl inX5 1 (by decide) wf_X5_13 rfl rfl dX5_alongX_5 ?_
    refine lv_goto (tgt := 15) (pc := 8) C0.1 C0.2.1 dX5_alongX_8 (by decide) ?_
    exact x_iret (pc := 15) C0 hK hk hr hw (congrArg (fun z => (z, u)) (Option.some.inj hf)) dX5_alongX_15
def wX5_alongY : List Cond := .code yX5_alongY cX5_alongY 2 (some .int) :: lwT
def rX5_alongY : Room := { frames := 0, cells := 0, slots := 0, locals := 0 }
set_option maxRecDepth 100000 in
set_option maxHeartbeats 4000000 in
theorem kX5_alongY (l : Launch) (D : va_G) (y : Nat → ClassId) (ad : Nat → Nat) (hI : XI ad 168) (v0 : Nat) (hv0 : v0 < 132) (v1 : Int32) (u : S) {o : Int32} (hf : fX5_alongY v0 v1 u = some o) : Met l yX5_alongY wX5_alongY rX5_alongY (va_Pc [.ref (ad v0), .int v1] (XW D y ad LX 168 u)) (XQi D y ad LX 168 (o, u)) 0 0 (XA ad 168) := by
  refine x_met (bytes := cX5_alongY) (maxL := 2) (ret := (some .int)) (own := RX5) (by decide) rfl rfl (Nat.le_of_ble_eq_true rfl) (fun p e s m below meth c ls C0 hK hk hr hw hl => ?_)
  have hl : lv_has ls 2 [(0, .ref (ad v0)), (1, .int v1)] := hl
  unfold fX5_alongY at hf
  refine lv_iload_n (pc := 0) C0.1 C0.2.1 dX5_alongY_0 rfl (lv_at hl 1 rfl) ?_
  refine lv_if_eq (tgt := 11) (pc := 1) C0.1 C0.2.1 dX5_alongY_1 (by decide) (fun hc => ?_) (fun hc => ?_)
  · have hf := if_t hf hc
    refine lv_aload_n (pc := 11) C0.1 C0.2.1 dX5_alongY_11 rfl (lv_at hl 0 rfl) ?_
    refine x_get (pc := 12) (v := .int (u.1 v0 1)) C0 hK hw (jy_T hv0) (ly_T hv0) rfl inX5 1 (by decide) wf_X5_13 rfl rfl dX5_alongY_12 ?_
    exact x_iret (pc := 15) C0 hK hk hr hw (congrArg (fun z => (z, u)) (Option.some.inj hf)) dX5_alongY_15
  · have hf := if_f hf hc
    refine lv_aload_n (pc := 4) C0.1 C0.2.1 dX5_alongY_4 rfl (lv_at hl 0 rfl) ?_
    refine x_get (pc := 5) (v := .int (u.1 v0 0)) C0 hK hw (jy_T hv0) (ly_T hv0) rfl inX5 0 (by decide) wf_X5_7 rfl rfl dX5_alongY_5 ?_
    refine lv_goto (tgt := 15) (pc := 8) C0.1 C0.2.1 dX5_alongY_8 (by decide) ?_
    exact x_iret (pc := 15) C0 hK hk hr hw (congrArg (fun z => (z, u)) (Option.some.inj hf)) dX5_alongY_15
def wX5_tall : List Cond := .code yX5_tall cX5_tall 1 (some .int) :: lwT
def rX5_tall : Room := { frames := 0, cells := 0, slots := 0, locals := 0 }
set_option maxRecDepth 100000 in
set_option maxHeartbeats 4000000 in
theorem kX5_tall (l : Launch) (D : va_G) (y : Nat → ClassId) (ad : Nat → Nat) (hI : XI ad 168) (v0 : Nat) (hv0 : v0 < 132) (u : S) {o : Int32} (hf : fX5_tall v0 u = some o) : Met l yX5_tall wX5_tall rX5_tall (va_Pc [.ref (ad v0)] (XW D y ad LX 168 u)) (XQi D y ad LX 168 (o, u)) 0 0 (XA ad 168) := by
  refine x_met (bytes := cX5_tall) (maxL := 1) (ret := (some .int)) (own := RX5) (by decide) rfl rfl (Nat.le_of_ble_eq_true rfl) (fun p e s m below meth c ls C0 hK hk hr hw hl => ?_)
  have hl : lv_has ls 1 [(0, .ref (ad v0))] := hl
  unfold fX5_tall at hf
  refine lv_aload_n (pc := 0) C0.1 C0.2.1 dX5_tall_0 rfl (lv_at hl 0 rfl) ?_
  refine x_get (pc := 1) (v := .int (u.1 v0 2)) C0 hK hw (jy_T hv0) (ly_T hv0) rfl inX5 2 (by decide) wf_X5_16 rfl rfl dX5_tall_1 ?_
  refine lv_aload_n (pc := 4) C0.1 C0.2.1 dX5_tall_4 rfl (lv_at hl 0 rfl) ?_
  refine x_get (pc := 5) (v := .int (u.1 v0 4)) C0 hK hw (jy_T hv0) (ly_T hv0) rfl inX5 4 (by decide) wf_X5_22 rfl rfl dX5_tall_5 ?_
  refine lv_iadd (pc := 8) C0.1 C0.2.1 dX5_tall_8 ?_
  exact x_iret (pc := 9) C0 hK hk hr hw (congrArg (fun z => (z, u)) (Option.some.inj hf)) dX5_tall_9
def wX5_covers : List Cond := .code yX5_covers cX5_covers 3 (some .boolean) :: lwT
def rX5_covers : Room := { frames := 0, cells := 0, slots := 0, locals := 0 }
set_option maxRecDepth 100000 in
set_option maxHeartbeats 4000000 in
theorem kX5_covers (l : Launch) (D : va_G) (y : Nat → ClassId) (ad : Nat → Nat) (hI : XI ad 168) (v0 : Nat) (hv0 : v0 < 132) (v1 : Int32) (v2 : Int32) (u : S) {o : Int32} (hf : fX5_covers v0 v1 v2 u = some o) : Met l yX5_covers wX5_covers rX5_covers (va_Pc [.ref (ad v0), .int v1, .int v2] (XW D y ad LX 168 u)) (XQi D y ad LX 168 (o, u)) 0 0 (XA ad 168) := by
  refine x_met (bytes := cX5_covers) (maxL := 3) (ret := (some .boolean)) (own := RX5) (by decide) rfl rfl (Nat.le_of_ble_eq_true rfl) (fun p e s m below meth c ls C0 hK hk hr hw hl => ?_)
  have hl : lv_has ls 3 [(0, .ref (ad v0)), (1, .int v1), (2, .int v2)] := hl
  unfold fX5_covers at hf
  refine lv_aload_n (pc := 0) C0.1 C0.2.1 dX5_covers_0 rfl (lv_at hl 0 rfl) ?_
  refine x_get (pc := 1) (v := .int (u.1 v0 5)) C0 hK hw (jy_T hv0) (ly_T hv0) rfl inX5 5 (by decide) wf_X5_28 rfl rfl dX5_covers_1 ?_
  refine lv_if_eq (tgt := 43) (pc := 4) C0.1 C0.2.1 dX5_covers_4 (by decide) (fun hc => ?_) (fun hc => ?_)
  · have hf := if_t hf hc
    refine lv_iconst (v := 0) (pc := 43) C0.1 C0.2.1 dX5_covers_43 (by decide) ?_
    exact x_zret (pc := 44) C0 hK hk hr hw rfl (congrArg (fun z => (z, u)) (Option.some.inj hf)) dX5_covers_44
  · have hf := if_f hf hc
    refine lv_iload_n (pc := 7) C0.1 C0.2.1 dX5_covers_7 rfl (lv_at hl 1 rfl) ?_
    refine lv_aload_n (pc := 8) C0.1 C0.2.1 dX5_covers_8 rfl (lv_at hl 0 rfl) ?_
    refine x_get (pc := 9) (v := .int (u.1 v0 7)) C0 hK hw (jy_T hv0) (ly_T hv0) rfl inX5 7 (by decide) wf_X5_35 rfl rfl dX5_covers_9 ?_
    refine lv_icmp_lt (tgt := 43) (pc := 12) C0.1 C0.2.1 dX5_covers_12 (by decide) (fun hc => ?_) (fun hc => ?_)
    · have hf := if_t hf hc
      refine lv_iconst (v := 0) (pc := 43) C0.1 C0.2.1 dX5_covers_43 (by decide) ?_
      exact x_zret (pc := 44) C0 hK hk hr hw rfl (congrArg (fun z => (z, u)) (Option.some.inj hf)) dX5_covers_44
    · have hf := if_f hf hc
      refine lv_iload_n (pc := 15) C0.1 C0.2.1 dX5_covers_15 rfl (lv_at hl 1 rfl) ?_
      refine lv_aload_n (pc := 16) C0.1 C0.2.1 dX5_covers_16 rfl (lv_at hl 0 rfl) ?_
      refine x_get (pc := 17) (v := .int (u.1 v0 9)) C0 hK hw (jy_T hv0) (ly_T hv0) rfl inX5 9 (by decide) wf_X5_41 rfl rfl dX5_covers_17 ?_
      refine lv_icmp_ge (tgt := 43) (pc := 20) C0.1 C0.2.1 dX5_covers_20 (by decide) (fun hc => ?_) (fun hc => ?_)
      · have hf := if_t hf hc
        refine lv_iconst (v := 0) (pc := 43) C0.1 C0.2.1 dX5_covers_43 (by decide) ?_
        exact x_zret (pc := 44) C0 hK hk hr hw rfl (congrArg (fun z => (z, u)) (Option.some.inj hf)) dX5_covers_44
      · have hf := if_f hf hc
        refine lv_iload_n (pc := 23) C0.1 C0.2.1 dX5_covers_23 rfl (lv_at hl 2 rfl) ?_
        refine lv_aload_n (pc := 24) C0.1 C0.2.1 dX5_covers_24 rfl (lv_at hl 0 rfl) ?_
        refine x_get (pc := 25) (v := .int (u.1 v0 8)) C0 hK hw (jy_T hv0) (ly_T hv0) rfl inX5 8 (by decide) wf_X5_38 rfl rfl dX5_covers_25 ?_
        refine lv_icmp_lt (tgt := 43) (pc := 28) C0.1 C0.2.1 dX5_covers_28 (by decide) (fun hc => ?_) (fun hc => ?_)
        · have hf := if_t hf hc
          refine lv_iconst (v := 0) (pc := 43) C0.1 C0.2.1 dX5_covers_43 (by decide) ?_
          exact x_zret (pc := 44) C0 hK hk hr hw rfl (congrArg (fun z => (z, u)) (Option.some.inj hf)) dX5_covers_44
        · have hf := if_f hf hc
          refine lv_iload_n (pc := 31) C0.1 C0.2.1 dX5_covers_31 rfl (lv_at hl 2 rfl) ?_
          refine lv_aload_n (pc := 32) C0.1 C0.2.1 dX5_covers_32 rfl (lv_at hl 0 rfl) ?_
          refine x_get (pc := 33) (v := .int (u.1 v0 10)) C0 hK hw (jy_T hv0) (ly_T hv0) rfl inX5 10 (by decide) wf_X5_44 rfl rfl dX5_covers_33 ?_
          refine lv_icmp_ge (tgt := 43) (pc := 36) C0.1 C0.2.1 dX5_covers_36 (by decide) (fun hc => ?_) (fun hc => ?_)
          · have hf := if_t hf hc
            refine lv_iconst (v := 0) (pc := 43) C0.1 C0.2.1 dX5_covers_43 (by decide) ?_
            exact x_zret (pc := 44) C0 hK hk hr hw rfl (congrArg (fun z => (z, u)) (Option.some.inj hf)) dX5_covers_44
          · have hf := if_f hf hc
            refine lv_iconst (v := 1) (pc := 39) C0.1 C0.2.1 dX5_covers_39 (by decide) ?_
            refine lv_goto (tgt := 44) (pc := 40) C0.1 C0.2.1 dX5_covers_40 (by decide) ?_
            exact x_zret (pc := 44) C0 hK hk hr hw rfl (congrArg (fun z => (z, u)) (Option.some.inj hf)) dX5_covers_44
def wX5_liesOn : List Cond := .code yX5_liesOn cX5_liesOn 2 (some .boolean) :: lwT
def rX5_liesOn : Room := { frames := 0, cells := 0, slots := 0, locals := 0 }
set_option maxRecDepth 100000 in
set_option maxHeartbeats 4000000 in
theorem kX5_liesOn (l : Launch) (D : va_G) (y : Nat → ClassId) (ad : Nat → Nat) (hI : XI ad 168) (v0 : Nat) (hv0 : v0 < 132) (v1 : Nat) (hv1 : v1 < 132) (u : S) {o : Int32} (hf : fX5_liesOn v0 v1 u = some o) : Met l yX5_liesOn wX5_liesOn rX5_liesOn (va_Pc [.ref (ad v0), .ref (ad v1)] (XW D y ad LX 168 u)) (XQi D y ad LX 168 (o, u)) 0 0 (XA ad 168) := by
  refine x_met (bytes := cX5_liesOn) (maxL := 2) (ret := (some .boolean)) (own := RX5) (by decide) rfl rfl (Nat.le_of_ble_eq_true rfl) (fun p e s m below meth c ls C0 hK hk hr hw hl => ?_)
  have hl : lv_has ls 2 [(0, .ref (ad v0)), (1, .ref (ad v1))] := hl
  unfold fX5_liesOn at hf
  refine lv_aload_n (pc := 0) C0.1 C0.2.1 dX5_liesOn_0 rfl (lv_at hl 0 rfl) ?_
  refine x_get (pc := 1) (v := .int (u.1 v0 5)) C0 hK hw (jy_T hv0) (ly_T hv0) rfl inX5 5 (by decide) wf_X5_28 rfl rfl dX5_liesOn_1 ?_
  refine lv_if_eq (tgt := 73) (pc := 4) C0.1 C0.2.1 dX5_liesOn_4 (by decide) (fun hc => ?_) (fun hc => ?_)
  · have hf := if_t hf hc
    refine lv_iconst (v := 0) (pc := 73) C0.1 C0.2.1 dX5_liesOn_73 (by decide) ?_
    exact x_zret (pc := 74) C0 hK hk hr hw rfl (congrArg (fun z => (z, u)) (Option.some.inj hf)) dX5_liesOn_74
  · have hf := if_f hf hc
    refine lv_aload_n (pc := 7) C0.1 C0.2.1 dX5_liesOn_7 rfl (lv_at hl 1 rfl) ?_
    refine x_get (pc := 8) (v := .int (u.1 v1 5)) C0 hK hw (jy_T hv1) (ly_T hv1) rfl inX5 5 (by decide) wf_X5_28 rfl rfl dX5_liesOn_8 ?_
    refine lv_if_eq (tgt := 73) (pc := 11) C0.1 C0.2.1 dX5_liesOn_11 (by decide) (fun hc => ?_) (fun hc => ?_)
    · have hf := if_t hf hc
      refine lv_iconst (v := 0) (pc := 73) C0.1 C0.2.1 dX5_liesOn_73 (by decide) ?_
      exact x_zret (pc := 74) C0 hK hk hr hw rfl (congrArg (fun z => (z, u)) (Option.some.inj hf)) dX5_liesOn_74
    · have hf := if_f hf hc
      refine lv_aload_n (pc := 14) C0.1 C0.2.1 dX5_liesOn_14 rfl (lv_at hl 0 rfl) ?_
      refine x_get (pc := 15) (v := .int (u.1 v0 11)) C0 hK hw (jy_T hv0) (ly_T hv0) rfl inX5 11 (by decide) wf_X5_47 rfl rfl dX5_liesOn_15 ?_
      refine lv_aload_n (pc := 18) C0.1 C0.2.1 dX5_liesOn_18 rfl (lv_at hl 1 rfl) ?_
      refine x_get (pc := 19) (v := .int (u.1 v1 12)) C0 hK hw (jy_T hv1) (ly_T hv1) rfl inX5 12 (by decide) wf_X5_50 rfl rfl dX5_liesOn_19 ?_
      refine lv_icmp_lt (tgt := 73) (pc := 22) C0.1 C0.2.1 dX5_liesOn_22 (by decide) (fun hc => ?_) (fun hc => ?_)
      · have hf := if_t hf hc
        refine lv_iconst (v := 0) (pc := 73) C0.1 C0.2.1 dX5_liesOn_73 (by decide) ?_
        exact x_zret (pc := 74) C0 hK hk hr hw rfl (congrArg (fun z => (z, u)) (Option.some.inj hf)) dX5_liesOn_74
      · have hf := if_f hf hc
        refine lv_aload_n (pc := 25) C0.1 C0.2.1 dX5_liesOn_25 rfl (lv_at hl 0 rfl) ?_
        refine x_get (pc := 26) (v := .int (u.1 v0 7)) C0 hK hw (jy_T hv0) (ly_T hv0) rfl inX5 7 (by decide) wf_X5_35 rfl rfl dX5_liesOn_26 ?_
        refine lv_aload_n (pc := 29) C0.1 C0.2.1 dX5_liesOn_29 rfl (lv_at hl 1 rfl) ?_
        refine x_get (pc := 30) (v := .int (u.1 v1 9)) C0 hK hw (jy_T hv1) (ly_T hv1) rfl inX5 9 (by decide) wf_X5_41 rfl rfl dX5_liesOn_30 ?_
        refine lv_icmp_ge (tgt := 73) (pc := 33) C0.1 C0.2.1 dX5_liesOn_33 (by decide) (fun hc => ?_) (fun hc => ?_)
        · have hf := if_t hf hc
          refine lv_iconst (v := 0) (pc := 73) C0.1 C0.2.1 dX5_liesOn_73 (by decide) ?_
          exact x_zret (pc := 74) C0 hK hk hr hw rfl (congrArg (fun z => (z, u)) (Option.some.inj hf)) dX5_liesOn_74
        · have hf := if_f hf hc
          refine lv_aload_n (pc := 36) C0.1 C0.2.1 dX5_liesOn_36 rfl (lv_at hl 1 rfl) ?_
          refine x_get (pc := 37) (v := .int (u.1 v1 7)) C0 hK hw (jy_T hv1) (ly_T hv1) rfl inX5 7 (by decide) wf_X5_35 rfl rfl dX5_liesOn_37 ?_
          refine lv_aload_n (pc := 40) C0.1 C0.2.1 dX5_liesOn_40 rfl (lv_at hl 0 rfl) ?_
          refine x_get (pc := 41) (v := .int (u.1 v0 9)) C0 hK hw (jy_T hv0) (ly_T hv0) rfl inX5 9 (by decide) wf_X5_41 rfl rfl dX5_liesOn_41 ?_
          refine lv_icmp_ge (tgt := 73) (pc := 44) C0.1 C0.2.1 dX5_liesOn_44 (by decide) (fun hc => ?_) (fun hc => ?_)
          · have hf := if_t hf hc
            refine lv_iconst (v := 0) (pc := 73) C0.1 C0.2.1 dX5_liesOn_73 (by decide) ?_
            exact x_zret (pc := 74) C0 hK hk hr hw rfl (congrArg (fun z => (z, u)) (Option.some.inj hf)) dX5_liesOn_74
          · have hf := if_f hf hc
            refine lv_aload_n (pc := 47) C0.1 C0.2.1 dX5_liesOn_47 rfl (lv_at hl 0 rfl) ?_
            refine x_get (pc := 48) (v := .int (u.1 v0 8)) C0 hK hw (jy_T hv0) (ly_T hv0) rfl inX5 8 (by decide) wf_X5_38 rfl rfl dX5_liesOn_48 ?_
            refine lv_aload_n (pc := 51) C0.1 C0.2.1 dX5_liesOn_51 rfl (lv_at hl 1 rfl) ?_
            refine x_get (pc := 52) (v := .int (u.1 v1 10)) C0 hK hw (jy_T hv1) (ly_T hv1) rfl inX5 10 (by decide) wf_X5_44 rfl rfl dX5_liesOn_52 ?_
            refine lv_icmp_ge (tgt := 73) (pc := 55) C0.1 C0.2.1 dX5_liesOn_55 (by decide) (fun hc => ?_) (fun hc => ?_)
            · have hf := if_t hf hc
              refine lv_iconst (v := 0) (pc := 73) C0.1 C0.2.1 dX5_liesOn_73 (by decide) ?_
              exact x_zret (pc := 74) C0 hK hk hr hw rfl (congrArg (fun z => (z, u)) (Option.some.inj hf)) dX5_liesOn_74
            · have hf := if_f hf hc
              refine lv_aload_n (pc := 58) C0.1 C0.2.1 dX5_liesOn_58 rfl (lv_at hl 1 rfl) ?_
              refine x_get (pc := 59) (v := .int (u.1 v1 8)) C0 hK hw (jy_T hv1) (ly_T hv1) rfl inX5 8 (by decide) wf_X5_38 rfl rfl dX5_liesOn_59 ?_
              refine lv_aload_n (pc := 62) C0.1 C0.2.1 dX5_liesOn_62 rfl (lv_at hl 0 rfl) ?_
              refine x_get (pc := 63) (v := .int (u.1 v0 10)) C0 hK hw (jy_T hv0) (ly_T hv0) rfl inX5 10 (by decide) wf_X5_44 rfl rfl dX5_liesOn_63 ?_
              refine lv_icmp_ge (tgt := 73) (pc := 66) C0.1 C0.2.1 dX5_liesOn_66 (by decide) (fun hc => ?_) (fun hc => ?_)
              · have hf := if_t hf hc
                refine lv_iconst (v := 0) (pc := 73) C0.1 C0.2.1 dX5_liesOn_73 (by decide) ?_
                exact x_zret (pc := 74) C0 hK hk hr hw rfl (congrArg (fun z => (z, u)) (Option.some.inj hf)) dX5_liesOn_74
              · have hf := if_f hf hc
                refine lv_iconst (v := 1) (pc := 69) C0.1 C0.2.1 dX5_liesOn_69 (by decide) ?_
                refine lv_goto (tgt := 74) (pc := 70) C0.1 C0.2.1 dX5_liesOn_70 (by decide) ?_
                exact x_zret (pc := 74) C0 hK hk hr hw rfl (congrArg (fun z => (z, u)) (Option.some.inj hf)) dX5_liesOn_74
def wX5_area : List Cond := .code yX5_area cX5_area 1 (some .int) :: lwT
def rX5_area : Room := { frames := 0, cells := 0, slots := 0, locals := 0 }
set_option maxRecDepth 100000 in
set_option maxHeartbeats 4000000 in
theorem kX5_area (l : Launch) (D : va_G) (y : Nat → ClassId) (ad : Nat → Nat) (hI : XI ad 168) (v0 : Nat) (hv0 : v0 < 132) (u : S) {o : Int32} (hf : fX5_area v0 u = some o) : Met l yX5_area wX5_area rX5_area (va_Pc [.ref (ad v0)] (XW D y ad LX 168 u)) (XQi D y ad LX 168 (o, u)) 0 0 (XA ad 168) := by
  refine x_met (bytes := cX5_area) (maxL := 1) (ret := (some .int)) (own := RX5) (by decide) rfl rfl (Nat.le_of_ble_eq_true rfl) (fun p e s m below meth c ls C0 hK hk hr hw hl => ?_)
  have hl : lv_has ls 1 [(0, .ref (ad v0))] := hl
  unfold fX5_area at hf
  refine lv_aload_n (pc := 0) C0.1 C0.2.1 dX5_area_0 rfl (lv_at hl 0 rfl) ?_
  refine x_get (pc := 1) (v := .int (u.1 v0 0)) C0 hK hw (jy_T hv0) (ly_T hv0) rfl inX5 0 (by decide) wf_X5_7 rfl rfl dX5_area_1 ?_
  refine lv_aload_n (pc := 4) C0.1 C0.2.1 dX5_area_4 rfl (lv_at hl 0 rfl) ?_
  refine x_get (pc := 5) (v := .int (u.1 v0 1)) C0 hK hw (jy_T hv0) (ly_T hv0) rfl inX5 1 (by decide) wf_X5_13 rfl rfl dX5_area_5 ?_
  refine lv_imul (pc := 8) C0.1 C0.2.1 dX5_area_8 ?_
  exact x_iret (pc := 9) C0 hK hk hr hw (congrArg (fun z => (z, u)) (Option.some.inj hf)) dX5_area_9
def wX5_lie : List Cond := .code yX5_lie cX5_lie 6 none :: lwT
def rX5_lie : Room := { frames := 1, cells := 0, slots := 0, locals := 21 }
set_option maxRecDepth 100000 in
set_option maxHeartbeats 4000000 in
theorem kX5_lie (l : Launch) (D : va_G) (y : Nat → ClassId) (ad : Nat → Nat) (hI : XI ad 168) (v0 : Nat) (hv0 : v0 < 132) (v1 : Int32) (v2 : Int32) (v3 : Int32) (v4 : Int32) (v5 : Int32) (u : S) {o : S} (hf : fX5_lie v0 v1 v2 v3 v4 v5 u = some o) : Met l yX5_lie wX5_lie rX5_lie (va_Pc [.ref (ad v0), .int v1, .int v2, .int v3, .int v4, .int v5] (XW D y ad LX 168 u)) (XQv D y ad LX 168 o) 0 0 (XA ad 168) := by
  refine x_met (bytes := cX5_lie) (maxL := 6) (ret := none) (own := RX5) (by decide) rfl rfl (Nat.le_of_ble_eq_true rfl) (fun p e s m below meth c ls C0 hK hk hr hw hl => ?_)
  have hl : lv_has ls 6 [(0, .ref (ad v0)), (1, .int v1), (2, .int v2), (3, .int v3), (4, .int v4), (5, .int v5)] := hl
  unfold fX5_lie at hf
  refine lv_aload_n (pc := 0) C0.1 C0.2.1 dX5_lie_0 rfl (lv_at hl 0 rfl) ?_
  refine lv_iconst (v := 1) (pc := 1) C0.1 C0.2.1 dX5_lie_1 (by decide) ?_
  obtain ⟨u1, hu, hf⟩ := nm_f hf
  refine x_put (pc := 2) hI C0 hK hw (jy_T hv0) (ly_T hv0) rfl inX5 tyX5_ok nmX5 5 (by decide) wf_X5_28 rfl rfl rfl hu (isb_narrow rfl) (isb_fits rfl) dX5_lie_2 (fun H locs hw => ?_)
  refine lv_aload_n (pc := 5) C0.1 C0.2.1 dX5_lie_5 rfl (lv_at hl 0 rfl) ?_
  refine lv_iload_n (pc := 6) C0.1 C0.2.1 dX5_lie_6 rfl (lv_at hl 3 rfl) ?_
  obtain ⟨hz, hf⟩ := gd_e hf
  obtain ⟨u2, hu, hf⟩ := nm_f hf
  refine x_put (pc := 7) hI C0 hK hw (jy_T hv0) (ly_T hv0) rfl inX5 tyX5_ok nmX5 6 (by decide) wf_X5_32 rfl rfl rfl hu (isb_narrow hz) (isb_fits hz) dX5_lie_7 (fun H locs hw => ?_)
  refine lv_aload_n (pc := 10) C0.1 C0.2.1 dX5_lie_10 rfl (lv_at hl 0 rfl) ?_
  refine lv_iload_n (pc := 11) C0.1 C0.2.1 dX5_lie_11 rfl (lv_at hl 1 rfl) ?_
  obtain ⟨u3, hu, hf⟩ := nm_f hf
  refine x_put (pc := 12) hI C0 hK hw (jy_T hv0) (ly_T hv0) rfl inX5 tyX5_ok nmX5 7 (by decide) wf_X5_35 rfl rfl rfl hu rfl rfl dX5_lie_12 (fun H locs hw => ?_)
  refine lv_aload_n (pc := 15) C0.1 C0.2.1 dX5_lie_15 rfl (lv_at hl 0 rfl) ?_
  refine lv_iload_n (pc := 16) C0.1 C0.2.1 dX5_lie_16 rfl (lv_at hl 2 rfl) ?_
  obtain ⟨u4, hu, hf⟩ := nm_f hf
  refine x_put (pc := 17) hI C0 hK hw (jy_T hv0) (ly_T hv0) rfl inX5 tyX5_ok nmX5 8 (by decide) wf_X5_38 rfl rfl rfl hu rfl rfl dX5_lie_17 (fun H locs hw => ?_)
  refine lv_aload_n (pc := 20) C0.1 C0.2.1 dX5_lie_20 rfl (lv_at hl 0 rfl) ?_
  refine lv_iload_n (pc := 21) C0.1 C0.2.1 dX5_lie_21 rfl (lv_at hl 1 rfl) ?_
  refine lv_aload_n (pc := 22) C0.1 C0.2.1 dX5_lie_22 rfl (lv_at hl 0 rfl) ?_
  refine lv_iload_n (pc := 23) C0.1 C0.2.1 dX5_lie_23 rfl (lv_at hl 3 rfl) ?_
  obtain ⟨q5, hq5, hf⟩ := bd_e hf
  refine x_backp (pc := 24) hw (x_runV (pc := 24) (As := [.int v3]) (rest := [.int v1, .ref (ad v0)]) C0 hK hw hl.1 ⟨Nat.zero_le _, Nat.zero_le _⟩ (kX5_alongX l D y ad hI v0 hv0 v3 u4 hq5) (jy_T hv0) (ly_T hv0) rfl rfl wc_X5_alongX wm_X5_56 wi_X5_alongX ws_X5_alongX wn_X5 ⟨rfl, rfl⟩ hd_X5_alongX rfl ⟨Nat.le_of_ble_eq_true rfl, Nat.le_of_ble_eq_true rfl⟩ (Nat.le_of_ble_eq_true rfl) dX5_lie_24) (fun H locs hw => ?_)
  refine lv_iadd (pc := 27) C0.1 C0.2.1 dX5_lie_27 ?_
  obtain ⟨u6, hu, hf⟩ := nm_f hf
  refine x_put (pc := 28) hI C0 hK hw (jy_T hv0) (ly_T hv0) rfl inX5 tyX5_ok nmX5 9 (by decide) wf_X5_41 rfl rfl rfl hu rfl rfl dX5_lie_28 (fun H locs hw => ?_)
  refine lv_aload_n (pc := 31) C0.1 C0.2.1 dX5_lie_31 rfl (lv_at hl 0 rfl) ?_
  refine lv_iload_n (pc := 32) C0.1 C0.2.1 dX5_lie_32 rfl (lv_at hl 2 rfl) ?_
  refine lv_aload_n (pc := 33) C0.1 C0.2.1 dX5_lie_33 rfl (lv_at hl 0 rfl) ?_
  refine lv_iload_n (pc := 34) C0.1 C0.2.1 dX5_lie_34 rfl (lv_at hl 3 rfl) ?_
  obtain ⟨q7, hq7, hf⟩ := bd_e hf
  refine x_backp (pc := 35) hw (x_runV (pc := 35) (As := [.int v3]) (rest := [.int v2, .ref (ad v0)]) C0 hK hw hl.1 ⟨Nat.zero_le _, Nat.zero_le _⟩ (kX5_alongY l D y ad hI v0 hv0 v3 u6 hq7) (jy_T hv0) (ly_T hv0) rfl rfl wc_X5_alongY wm_X5_60 wi_X5_alongY ws_X5_alongY wn_X5 ⟨rfl, rfl⟩ hd_X5_alongY rfl ⟨Nat.le_of_ble_eq_true rfl, Nat.le_of_ble_eq_true rfl⟩ (Nat.le_of_ble_eq_true rfl) dX5_lie_35) (fun H locs hw => ?_)
  refine lv_iadd (pc := 38) C0.1 C0.2.1 dX5_lie_38 ?_
  obtain ⟨u8, hu, hf⟩ := nm_f hf
  refine x_put (pc := 39) hI C0 hK hw (jy_T hv0) (ly_T hv0) rfl inX5 tyX5_ok nmX5 10 (by decide) wf_X5_44 rfl rfl rfl hu rfl rfl dX5_lie_39 (fun H locs hw => ?_)
  refine lv_aload_n (pc := 42) C0.1 C0.2.1 dX5_lie_42 rfl (lv_at hl 0 rfl) ?_
  refine lv_iload (pc := 43) C0.1 C0.2.1 dX5_lie_43 (lv_at hl 4 rfl) ?_
  obtain ⟨u9, hu, hf⟩ := nm_f hf
  refine x_put (pc := 45) hI C0 hK hw (jy_T hv0) (ly_T hv0) rfl inX5 tyX5_ok nmX5 11 (by decide) wf_X5_47 rfl rfl rfl hu rfl rfl dX5_lie_45 (fun H locs hw => ?_)
  refine lv_aload_n (pc := 48) C0.1 C0.2.1 dX5_lie_48 rfl (lv_at hl 0 rfl) ?_
  refine lv_iload (pc := 49) C0.1 C0.2.1 dX5_lie_49 (lv_at hl 4 rfl) ?_
  refine lv_aload_n (pc := 51) C0.1 C0.2.1 dX5_lie_51 rfl (lv_at hl 0 rfl) ?_
  obtain ⟨q10, hq10, hf⟩ := bd_e hf
  refine x_backp (pc := 52) hw (x_runV (pc := 52) (As := []) (rest := [.int v4, .ref (ad v0)]) C0 hK hw hl.1 ⟨Nat.zero_le _, Nat.zero_le _⟩ (kX5_tall l D y ad hI v0 hv0 u9 hq10) (jy_T hv0) (ly_T hv0) rfl rfl wc_X5_tall wm_X5_63 wi_X5_tall ws_X5_tall wn_X5 ⟨rfl, rfl⟩ hd_X5_tall rfl ⟨Nat.le_of_ble_eq_true rfl, Nat.le_of_ble_eq_true rfl⟩ (Nat.le_of_ble_eq_true rfl) dX5_lie_52) (fun H locs hw => ?_)
  refine lv_iadd (pc := 55) C0.1 C0.2.1 dX5_lie_55 ?_
  obtain ⟨u11, hu, hf⟩ := nm_f hf
  refine x_put (pc := 56) hI C0 hK hw (jy_T hv0) (ly_T hv0) rfl inX5 tyX5_ok nmX5 12 (by decide) wf_X5_50 rfl rfl rfl hu rfl rfl dX5_lie_56 (fun H locs hw => ?_)
  refine lv_aload_n (pc := 59) C0.1 C0.2.1 dX5_lie_59 rfl (lv_at hl 0 rfl) ?_
  refine lv_iload (pc := 60) C0.1 C0.2.1 dX5_lie_60 (lv_at hl 5 rfl) ?_
  obtain ⟨u12, hu, hf⟩ := nm_f hf
  refine x_put (pc := 62) hI C0 hK hw (jy_T hv0) (ly_T hv0) rfl inX5 tyX5_ok nmX5 13 (by decide) wf_X5_53 rfl rfl rfl hu rfl rfl dX5_lie_62 (fun H locs hw => ?_)
  exact x_vret (pc := 65) C0 hK hk hr hw (Option.some.inj hf) dX5_lie_65
def wX5_become : List Cond := .code yX5_become cX5_become 5 none :: lwT
def rX5_become : Room := { frames := 1, cells := 0, slots := 0, locals := 20 }
set_option maxRecDepth 100000 in
set_option maxHeartbeats 4000000 in
theorem kX5_become (l : Launch) (D : va_G) (y : Nat → ClassId) (ad : Nat → Nat) (hI : XI ad 168) (v0 : Nat) (hv0 : v0 < 132) (v1 : Int32) (v2 : Int32) (v3 : Int32) (v4 : Int32) (u : S) {o : S} (hf : fX5_become v0 v1 v2 v3 v4 u = some o) : Met l yX5_become wX5_become rX5_become (va_Pc [.ref (ad v0), .int v1, .int v2, .int v3, .int v4] (XW D y ad LX 168 u)) (XQv D y ad LX 168 o) 0 0 (XA ad 168) := by
  refine x_met (bytes := cX5_become) (maxL := 5) (ret := none) (own := RX5) (by decide) rfl rfl (Nat.le_of_ble_eq_true rfl) (fun p e s m below meth c ls C0 hK hk hr hw hl => ?_)
  have hl : lv_has ls 5 [(0, .ref (ad v0)), (1, .int v1), (2, .int v2), (3, .int v3), (4, .int v4)] := hl
  unfold fX5_become at hf
  refine lv_aload_n (pc := 0) C0.1 C0.2.1 dX5_become_0 rfl (lv_at hl 0 rfl) ?_
  refine lv_iload_n (pc := 1) C0.1 C0.2.1 dX5_become_1 rfl (lv_at hl 1 rfl) ?_
  obtain ⟨u1, hu, hf⟩ := nm_f hf
  refine x_put (pc := 2) hI C0 hK hw (jy_T hv0) (ly_T hv0) rfl inX5 tyX5_ok nmX5 0 (by decide) wf_X5_7 rfl rfl rfl hu rfl rfl dX5_become_2 (fun H locs hw => ?_)
  refine lv_aload_n (pc := 5) C0.1 C0.2.1 dX5_become_5 rfl (lv_at hl 0 rfl) ?_
  refine lv_iload_n (pc := 6) C0.1 C0.2.1 dX5_become_6 rfl (lv_at hl 2 rfl) ?_
  obtain ⟨u2, hu, hf⟩ := nm_f hf
  refine x_put (pc := 7) hI C0 hK hw (jy_T hv0) (ly_T hv0) rfl inX5 tyX5_ok nmX5 1 (by decide) wf_X5_13 rfl rfl rfl hu rfl rfl dX5_become_7 (fun H locs hw => ?_)
  refine lv_aload_n (pc := 10) C0.1 C0.2.1 dX5_become_10 rfl (lv_at hl 0 rfl) ?_
  refine lv_iload_n (pc := 11) C0.1 C0.2.1 dX5_become_11 rfl (lv_at hl 3 rfl) ?_
  obtain ⟨u3, hu, hf⟩ := nm_f hf
  refine x_put (pc := 12) hI C0 hK hw (jy_T hv0) (ly_T hv0) rfl inX5 tyX5_ok nmX5 2 (by decide) wf_X5_16 rfl rfl rfl hu rfl rfl dX5_become_12 (fun H locs hw => ?_)
  refine lv_aload_n (pc := 15) C0.1 C0.2.1 dX5_become_15 rfl (lv_at hl 0 rfl) ?_
  refine lv_iload (pc := 16) C0.1 C0.2.1 dX5_become_16 (lv_at hl 4 rfl) ?_
  obtain ⟨u4, hu, hf⟩ := nm_f hf
  refine x_put (pc := 18) hI C0 hK hw (jy_T hv0) (ly_T hv0) rfl inX5 tyX5_ok nmX5 3 (by decide) wf_X5_19 rfl rfl rfl hu rfl rfl dX5_become_18 (fun H locs hw => ?_)
  refine lv_aload_n (pc := 21) C0.1 C0.2.1 dX5_become_21 rfl (lv_at hl 0 rfl) ?_
  refine lv_iconst (v := 0) (pc := 22) C0.1 C0.2.1 dX5_become_22 (by decide) ?_
  obtain ⟨u5, hu, hf⟩ := nm_f hf
  refine x_put (pc := 23) hI C0 hK hw (jy_T hv0) (ly_T hv0) rfl inX5 tyX5_ok nmX5 4 (by decide) wf_X5_22 rfl rfl rfl hu rfl rfl dX5_become_23 (fun H locs hw => ?_)
  refine lv_aload_n (pc := 26) C0.1 C0.2.1 dX5_become_26 rfl (lv_at hl 0 rfl) ?_
  obtain ⟨q6, hq6, hf⟩ := bd_e hf
  refine x_backv (pc := 27) hw (x_runV (pc := 27) (As := []) (rest := []) C0 hK hw hl.1 ⟨Nat.zero_le _, Nat.zero_le _⟩ (kX5_leave l D y ad hI v0 hv0 u5 hq6) (jy_T hv0) (ly_T hv0) rfl rfl wc_X5_leave wm_X5_25 wi_X5_leave ws_X5_leave wn_X5 ⟨rfl, rfl⟩ hd_X5_leave rfl ⟨Nat.le_of_ble_eq_true rfl, Nat.le_of_ble_eq_true rfl⟩ (Nat.le_of_ble_eq_true rfl) dX5_become_27) (fun H locs hw => ?_)
  exact x_vret (pc := 30) C0 hK hk hr hw (Option.some.inj hf) dX5_become_30
def wX5_property : List Cond := .code yX5_property cX5_property 2 (some .int) :: lwT
def rX5_property : Room := { frames := 0, cells := 0, slots := 0, locals := 0 }
set_option maxRecDepth 100000 in
set_option maxHeartbeats 4000000 in
theorem kX5_property (l : Launch) (D : va_G) (y : Nat → ClassId) (ad : Nat → Nat) (hI : XI ad 168) (v0 : Nat) (hv0 : v0 < 132) (v1 : Int32) (u : S) {o : Int32} (hf : fX5_property v0 v1 u = some o) : Met l yX5_property wX5_property rX5_property (va_Pc [.ref (ad v0), .int v1] (XW D y ad LX 168 u)) (XQi D y ad LX 168 (o, u)) 0 0 (XA ad 168) := by
  refine x_met (bytes := cX5_property) (maxL := 2) (ret := (some .int)) (own := RX5) (by decide) rfl rfl (Nat.le_of_ble_eq_true rfl) (fun p e s m below meth c ls C0 hK hk hr hw hl => ?_)
  have hl : lv_has ls 2 [(0, .ref (ad v0)), (1, .int v1)] := hl
  unfold fX5_property at hf
  refine lv_iload_n (pc := 0) C0.1 C0.2.1 dX5_property_0 rfl (lv_at hl 1 rfl) ?_
  by_cases hc0 : v1 = 0
  · have hf := if_t hf hc0
    refine lv_tableIn (tgt := 40) (pc := 1) C0.1 C0.2.1 dX5_property_1 (by rw [hc0]; decide) (by rw [hc0]; decide) (by rw [hc0]; rfl) (by decide) ?_
    refine lv_aload_n (pc := 40) C0.1 C0.2.1 dX5_property_40 rfl (lv_at hl 0 rfl) ?_
    refine x_get (pc := 41) (v := .int (u.1 v0 0)) C0 hK hw (jy_T hv0) (ly_T hv0) rfl inX5 0 (by decide) wf_X5_7 rfl rfl dX5_property_41 ?_
    exact x_iret (pc := 44) C0 hK hk hr hw (congrArg (fun z => (z, u)) (Option.some.inj hf)) dX5_property_44
  · have hf := if_f hf hc0
    by_cases hc1 : v1 = 1
    · have hf := if_t hf hc1
      refine lv_tableIn (tgt := 45) (pc := 1) C0.1 C0.2.1 dX5_property_1 (by rw [hc1]; decide) (by rw [hc1]; decide) (by rw [hc1]; rfl) (by decide) ?_
      refine lv_aload_n (pc := 45) C0.1 C0.2.1 dX5_property_45 rfl (lv_at hl 0 rfl) ?_
      refine x_get (pc := 46) (v := .int (u.1 v0 1)) C0 hK hw (jy_T hv0) (ly_T hv0) rfl inX5 1 (by decide) wf_X5_13 rfl rfl dX5_property_46 ?_
      exact x_iret (pc := 49) C0 hK hk hr hw (congrArg (fun z => (z, u)) (Option.some.inj hf)) dX5_property_49
    · have hf := if_f hf hc1
      by_cases hc2 : v1 = 2
      · have hf := if_t hf hc2
        refine lv_tableIn (tgt := 50) (pc := 1) C0.1 C0.2.1 dX5_property_1 (by rw [hc2]; decide) (by rw [hc2]; decide) (by rw [hc2]; rfl) (by decide) ?_
        refine lv_aload_n (pc := 50) C0.1 C0.2.1 dX5_property_50 rfl (lv_at hl 0 rfl) ?_
        refine x_get (pc := 51) (v := .int (u.1 v0 2)) C0 hK hw (jy_T hv0) (ly_T hv0) rfl inX5 2 (by decide) wf_X5_16 rfl rfl dX5_property_51 ?_
        exact x_iret (pc := 54) C0 hK hk hr hw (congrArg (fun z => (z, u)) (Option.some.inj hf)) dX5_property_54
      · have hf := if_f hf hc2
        by_cases hc3 : v1 = 3
        · have hf := if_t hf hc3
          refine lv_tableIn (tgt := 55) (pc := 1) C0.1 C0.2.1 dX5_property_1 (by rw [hc3]; decide) (by rw [hc3]; decide) (by rw [hc3]; rfl) (by decide) ?_
          refine lv_aload_n (pc := 55) C0.1 C0.2.1 dX5_property_55 rfl (lv_at hl 0 rfl) ?_
          refine x_get (pc := 56) (v := .int (u.1 v0 3)) C0 hK hw (jy_T hv0) (ly_T hv0) rfl inX5 3 (by decide) wf_X5_19 rfl rfl dX5_property_56 ?_
          exact x_iret (pc := 59) C0 hK hk hr hw (congrArg (fun z => (z, u)) (Option.some.inj hf)) dX5_property_59
        · have hf := if_f hf hc3
          by_cases hc4 : v1 = 4
          · have hf := if_t hf hc4
            refine lv_tableIn (tgt := 60) (pc := 1) C0.1 C0.2.1 dX5_property_1 (by rw [hc4]; decide) (by rw [hc4]; decide) (by rw [hc4]; rfl) (by decide) ?_
            refine lv_aload_n (pc := 60) C0.1 C0.2.1 dX5_property_60 rfl (lv_at hl 0 rfl) ?_
            refine x_get (pc := 61) (v := .int (u.1 v0 4)) C0 hK hw (jy_T hv0) (ly_T hv0) rfl inX5 4 (by decide) wf_X5_22 rfl rfl dX5_property_61 ?_
            exact x_iret (pc := 64) C0 hK hk hr hw (congrArg (fun z => (z, u)) (Option.some.inj hf)) dX5_property_64
          · have hf := if_f hf hc4
            by_cases hc5 : v1 = 5
            · have hf := if_t hf hc5
              refine lv_tableIn (tgt := 65) (pc := 1) C0.1 C0.2.1 dX5_property_1 (by rw [hc5]; decide) (by rw [hc5]; decide) (by rw [hc5]; rfl) (by decide) ?_
              refine lv_aload_n (pc := 65) C0.1 C0.2.1 dX5_property_65 rfl (lv_at hl 0 rfl) ?_
              refine x_get (pc := 66) (v := .int (u.1 v0 5)) C0 hK hw (jy_T hv0) (ly_T hv0) rfl inX5 5 (by decide) wf_X5_28 rfl rfl dX5_property_66 ?_
              refine lv_if_eq (tgt := 76) (pc := 69) C0.1 C0.2.1 dX5_property_69 (by decide) (fun hc => ?_) (fun hc => ?_)
              · have hf := if_t hf hc
                refine lv_iconst (v := 0) (pc := 76) C0.1 C0.2.1 dX5_property_76 (by decide) ?_
                exact x_iret (pc := 77) C0 hK hk hr hw (congrArg (fun z => (z, u)) (Option.some.inj hf)) dX5_property_77
              · have hf := if_f hf hc
                refine lv_iconst (v := 1) (pc := 72) C0.1 C0.2.1 dX5_property_72 (by decide) ?_
                refine lv_goto (tgt := 77) (pc := 73) C0.1 C0.2.1 dX5_property_73 (by decide) ?_
                exact x_iret (pc := 77) C0 hK hk hr hw (congrArg (fun z => (z, u)) (Option.some.inj hf)) dX5_property_77
            · have hf := if_f hf hc5
              refine lv_tableOut (tgt := 78) (pc := 1) C0.1 C0.2.1 dX5_property_1 (by have h0 := lv_neT hc0 (a := 0) (by decide); have h1 := lv_neT hc1 (a := 1) (by decide); have h2 := lv_neT hc2 (a := 2) (by decide); have h3 := lv_neT hc3 (a := 3) (by decide); have h4 := lv_neT hc4 (a := 4) (by decide); have h5 := lv_neT hc5 (a := 5) (by decide); omega) (by decide) ?_
              refine lv_aload_n (pc := 78) C0.1 C0.2.1 dX5_property_78 rfl (lv_at hl 0 rfl) ?_
              refine x_get (pc := 79) (v := .int (u.1 v0 6)) C0 hK hw (jy_T hv0) (ly_T hv0) rfl inX5 6 (by decide) wf_X5_32 rfl rfl dX5_property_79 ?_
              refine lv_if_eq (tgt := 89) (pc := 82) C0.1 C0.2.1 dX5_property_82 (by decide) (fun hc => ?_) (fun hc => ?_)
              · have hf := if_t hf hc
                refine lv_iconst (v := 0) (pc := 89) C0.1 C0.2.1 dX5_property_89 (by decide) ?_
                exact x_iret (pc := 90) C0 hK hk hr hw (congrArg (fun z => (z, u)) (Option.some.inj hf)) dX5_property_90
              · have hf := if_f hf hc
                refine lv_iconst (v := 1) (pc := 85) C0.1 C0.2.1 dX5_property_85 (by decide) ?_
                refine lv_goto (tgt := 90) (pc := 86) C0.1 C0.2.1 dX5_property_86 (by decide) ?_
                exact x_iret (pc := 90) C0 hK hk hr hw (congrArg (fun z => (z, u)) (Option.some.inj hf)) dX5_property_90
