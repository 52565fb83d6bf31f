def wL_packed : List Cond := .code yL_packed cL_packed 10 (some .boolean) :: lwT
def rL_packed : Room := { frames := 10, cells := 2168, slots := 4424, locals := 240 }
set_option maxRecDepth 100000 in
set_option maxHeartbeats 4000000 in
theorem kL_packed (l : Launch) (D : va_G) (y : Nat → ClassId) (ad : Nat → Nat) (hI : XI ad 168)  (u : S) {o : Int32 × S} (hf : fL_packed  u = some o) : Met l yL_packed wL_packed rL_packed (va_Pc [.ref (ad 167)] (XW D y ad LX 168 u)) (XQi D y ad LX 168 o) 2168 4424 (XA ad 168) := by
  refine z_met (bytes := cL_packed) (maxL := 10) (ret := (some .boolean)) (own := RL) (by decide) rfl rfl (Nat.le_of_ble_eq_true rfl) (fun p e s m below meth c ls C0 hK hk hr hw hl => ?_)
  have hl : lv_has ls 10 [(0, .ref (ad 167))] := hl
  unfold fL_packed at hf
  refine lv_aload_n (pc := 0) C0.1 C0.2.1 dL_packed_0 rfl (lv_at hl 0 rfl) ?_
  refine lv_iconst (v := 4) (pc := 1) C0.1 C0.2.1 dL_packed_1 (by decide) ?_
  obtain ⟨q1, hq1, hf⟩ := bd_e hf
  refine x_backp (pc := 2) hw (x_runV (pc := 2) (As := [.int 4]) (rest := []) C0 hK hw hl.1 ⟨Nat.zero_le _, Nat.zero_le _⟩ (kX6_count l D y ad hI 4 u hq1) (by decide) ly_M rfl rfl wc_X6_count wm_L_37 wi_X6_count ws_X6_count wn_X6 ⟨rfl, rfl⟩ hd_X6_count rfl ⟨Nat.le_of_ble_eq_true rfl, Nat.le_of_ble_eq_true rfl⟩ (Nat.le_of_ble_eq_true rfl) dL_packed_2) (fun H locs hw => ?_)
  refine lv_istore_n (pc := 5) (lv' := [(1, .int q1), (0, .ref (ad 167))]) C0.1 C0.2.1 dL_packed_5 rfl hl (by decide) rfl (fun ls hl => ?_)
  obtain ⟨u2, hu, hf⟩ := nm_f hf
  refine z_newB (pc := 6) l C0 hK hI hw hl.1 hu (Nat.le_of_ble_eq_true rfl) (Nat.le_of_ble_eq_true rfl) ⟨Nat.le_of_ble_eq_true rfl, Nat.le_of_ble_eq_true rfl⟩ dL_packed_6 dL_packed_9 dL_packed_10 (fun ad H locs hd2 hnew2 hI hw => ?_)
  rw [← hd2 167 (by decide)] at hl
  have hI0 : XI ad 168 := emb_I (o := 0) (by decide) (fun j _ => by rw [Nat.zero_add]) hI
  have hI2 : XI (fun j => ad (168 + j)) 168 := emb_I (o := 168) (NZ := 336) (by decide) (fun _ _ => rfl) hI
  refine lv_astore_n (pc := 13) (lv' := [(2, .ref (ad 335)), (1, .int q1), (0, .ref (ad 167))]) C0.1 C0.2.1 dL_packed_13 rfl hl (by decide) rfl (fun ls hl => ?_)
  refine lv_aload_n (pc := 14) C0.1 C0.2.1 dL_packed_14 rfl (lv_at hl 0 rfl) ?_
  refine lv_aload_n (pc := 15) C0.1 C0.2.1 dL_packed_15 rfl (lv_at hl 2 rfl) ?_
  refine lv_iconst (v := 0) (pc := 16) C0.1 C0.2.1 dL_packed_16 (by decide) ?_
  obtain ⟨q3, hq3, hf⟩ := bd_e hf
  refine z_backp0 (pc := 17) hI emb_20 hw (z_runV (pc := 17) (aa := ad) (As := [.int 0]) (rest := [.ref (ad 335)]) C0 hK (emb_P emb_20 (fun j _ => by rw [Nat.zero_add]) (fun j _ => by rw [Nat.zero_add]) hw.1) hl.1 ⟨Nat.le_of_ble_eq_true rfl, Nat.le_of_ble_eq_true rfl⟩ (kX6_count l D y ad hI0 0 u2 hq3) (by decide) ly_M rfl rfl wc_X6_count wm_L_37 wi_X6_count ws_X6_count wn_X6 ⟨rfl, rfl⟩ hd_X6_count rfl ⟨Nat.le_of_ble_eq_true rfl, Nat.le_of_ble_eq_true rfl⟩ (Nat.le_of_ble_eq_true rfl) dL_packed_17) (fun H locs hw => ?_)
  refine lv_aload_n (pc := 20) C0.1 C0.2.1 dL_packed_20 rfl (lv_at hl 2 rfl) ?_
  refine lv_iconst (v := 1) (pc := 21) C0.1 C0.2.1 dL_packed_21 (by decide) ?_
  obtain ⟨q4, hq4, hf⟩ := bd_e hf
  refine z_backp0 (pc := 22) hI emb_20 hw (z_runV (pc := 22) (aa := ad) (As := [.int 1]) (rest := [.int q3, .ref (ad 335)]) C0 hK (emb_P emb_20 (fun j _ => by rw [Nat.zero_add]) (fun j _ => by rw [Nat.zero_add]) hw.1) hl.1 ⟨Nat.le_of_ble_eq_true rfl, Nat.le_of_ble_eq_true rfl⟩ (kX6_count l D y ad hI0 1 u2 hq4) (by decide) ly_M rfl rfl wc_X6_count wm_L_37 wi_X6_count ws_X6_count wn_X6 ⟨rfl, rfl⟩ hd_X6_count rfl ⟨Nat.le_of_ble_eq_true rfl, Nat.le_of_ble_eq_true rfl⟩ (Nat.le_of_ble_eq_true rfl) dL_packed_22) (fun H locs hw => ?_)
  refine lv_aload_n (pc := 25) C0.1 C0.2.1 dL_packed_25 rfl (lv_at hl 2 rfl) ?_
  refine lv_iconst (v := 2) (pc := 26) C0.1 C0.2.1 dL_packed_26 (by decide) ?_
  obtain ⟨q5, hq5, hf⟩ := bd_e hf
  refine z_backp0 (pc := 27) hI emb_20 hw (z_runV (pc := 27) (aa := ad) (As := [.int 2]) (rest := [.int q4, .int q3, .ref (ad 335)]) C0 hK (emb_P emb_20 (fun j _ => by rw [Nat.zero_add]) (fun j _ => by rw [Nat.zero_add]) hw.1) hl.1 ⟨Nat.le_of_ble_eq_true rfl, Nat.le_of_ble_eq_true rfl⟩ (kX6_count l D y ad hI0 2 u2 hq5) (by decide) ly_M rfl rfl wc_X6_count wm_L_37 wi_X6_count ws_X6_count wn_X6 ⟨rfl, rfl⟩ hd_X6_count rfl ⟨Nat.le_of_ble_eq_true rfl, Nat.le_of_ble_eq_true rfl⟩ (Nat.le_of_ble_eq_true rfl) dL_packed_27) (fun H locs hw => ?_)
  obtain ⟨q6, hq6, hf⟩ := bd_e hf
  obtain ⟨u7, hu, hf⟩ := nm_f hf
  refine z_back1 (pc := 30) (o := 168) hI emb_21 hw hu (z_runV (pc := 30) (aa := (fun j => ad (168 + j))) (As := [.int q3, .int q4, .int q5]) (rest := []) C0 hK (emb_P (aa := (fun j => ad (168 + j))) (τ := (shS 168 u2)) emb_21 (fun _ _ => rfl) (fun _ _ => rfl) hw.1) hl.1 ⟨Nat.le_of_ble_eq_true rfl, Nat.le_of_ble_eq_true rfl⟩ (kX6_setBox l D y (fun j => ad (168 + j)) hI2 q3 q4 q5 (shS 168 u2) hq6) (by decide) ly_M rfl rfl wc_X6_setBox wm_L_20 wi_X6_setBox ws_X6_setBox wn_X6 ⟨rfl, rfl⟩ hd_X6_setBox rfl ⟨Nat.le_of_ble_eq_true rfl, Nat.le_of_ble_eq_true rfl⟩ (Nat.le_of_ble_eq_true rfl) dL_packed_30) (fun H locs hw => ?_)
  refine lv_pop (pc := 33) C0.1 C0.2.1 dL_packed_33 rfl ?_
  refine lv_aload_n (pc := 34) C0.1 C0.2.1 dL_packed_34 rfl (lv_at hl 0 rfl) ?_
  refine lv_aload_n (pc := 35) C0.1 C0.2.1 dL_packed_35 rfl (lv_at hl 2 rfl) ?_
  refine lv_iconst (v := 3) (pc := 36) C0.1 C0.2.1 dL_packed_36 (by decide) ?_
  obtain ⟨q8, hq8, hf⟩ := bd_e hf
  refine z_backp0 (pc := 37) hI emb_20 hw (z_runV (pc := 37) (aa := ad) (As := [.int 3]) (rest := [.ref (ad 335)]) C0 hK (emb_P emb_20 (fun j _ => by rw [Nat.zero_add]) (fun j _ => by rw [Nat.zero_add]) hw.1) hl.1 ⟨Nat.le_of_ble_eq_true rfl, Nat.le_of_ble_eq_true rfl⟩ (kX6_count l D y ad hI0 3 u7 hq8) (by decide) ly_M rfl rfl wc_X6_count wm_L_37 wi_X6_count ws_X6_count wn_X6 ⟨rfl, rfl⟩ hd_X6_count rfl ⟨Nat.le_of_ble_eq_true rfl, Nat.le_of_ble_eq_true rfl⟩ (Nat.le_of_ble_eq_true rfl) dL_packed_37) (fun H locs hw => ?_)
  obtain ⟨q9, hq9, hf⟩ := bd_e hf
  obtain ⟨u10, hu, hf⟩ := nm_f hf
  refine z_back1 (pc := 40) (o := 168) hI emb_21 hw hu (z_runV (pc := 40) (aa := (fun j => ad (168 + j))) (As := [.int q8]) (rest := []) C0 hK (emb_P (aa := (fun j => ad (168 + j))) (τ := (shS 168 u7)) emb_21 (fun _ _ => rfl) (fun _ _ => rfl) hw.1) hl.1 ⟨Nat.le_of_ble_eq_true rfl, Nat.le_of_ble_eq_true rfl⟩ (kX6_setShare l D y (fun j => ad (168 + j)) hI2 q8 (shS 168 u7) hq9) (by decide) ly_M rfl rfl wc_X6_setShare wm_L_26 wi_X6_setShare ws_X6_setShare wn_X6 ⟨rfl, rfl⟩ hd_X6_setShare rfl ⟨Nat.le_of_ble_eq_true rfl, Nat.le_of_ble_eq_true rfl⟩ (Nat.le_of_ble_eq_true rfl) dL_packed_40) (fun H locs hw => ?_)
  refine lv_pop (pc := 43) C0.1 C0.2.1 dL_packed_43 rfl ?_
  refine lv_iconst (v := 0) (pc := 44) C0.1 C0.2.1 dL_packed_44 (by decide) ?_
  refine lv_istore_n (pc := 45) (lv' := [(3, .int 0), (2, .ref (ad 335)), (1, .int q1), (0, .ref (ad 167))]) C0.1 C0.2.1 dL_packed_45 rfl hl (by decide) rfl (fun ls hl => ?_)
  obtain ⟨e11, he11, hf⟩ := bd_e hf
  refine X_loop (pc := 46) (xpc := 99) (fu := fun a1 => a1.2) (fl := fun a1 => [(3, .int a1.1), (2, .ref (ad 335)), (1, .int q1), (0, .ref (ad 167))]) (fun a1 r hf hE hG H locs ls hw hl => ?_) he11 (fun H locs ls hw hl => ?_) hw hl
  · unfold gL_packed_46 at hf
    refine lv_iload_n (pc := 46) C0.1 C0.2.1 dL_packed_46 rfl (lv_at hl 0 rfl) ?_
    refine lv_iload_n (pc := 47) C0.1 C0.2.1 dL_packed_47 rfl (lv_at hl 2 rfl) ?_
    refine lv_icmp_ge (tgt := 99) (pc := 48) C0.1 C0.2.1 dL_packed_48 (by decide) (fun hc => ?_) (fun hc => ?_)
    · have hf := if_t hf hc
      exact hE _ (Option.some.inj hf).symm H locs ls hw (lv_sub hl [0, 1, 2, 3] rfl)
    · have hf := if_f hf hc
      refine lv_aload_n (pc := 51) C0.1 C0.2.1 dL_packed_51 rfl (lv_at hl 1 rfl) ?_
      refine lv_aload_n (pc := 52) C0.1 C0.2.1 dL_packed_52 rfl (lv_at hl 3 rfl) ?_
      refine lv_iload_n (pc := 53) C0.1 C0.2.1 dL_packed_53 rfl (lv_at hl 0 rfl) ?_
      refine lv_iconst (v := 0) (pc := 54) C0.1 C0.2.1 dL_packed_54 (by decide) ?_
      obtain ⟨q12, hq12, hf⟩ := bd_e hf
      refine z_backp0 (pc := 55) hI emb_20 hw (z_runV (pc := 55) (aa := ad) (As := [.int a1.1, .int 0]) (rest := [.ref (ad 335)]) C0 hK (emb_P emb_20 (fun j _ => by rw [Nat.zero_add]) (fun j _ => by rw [Nat.zero_add]) hw.1) hl.1 ⟨Nat.le_of_ble_eq_true rfl, Nat.le_of_ble_eq_true rfl⟩ (kX6_tray l D y ad hI0 a1.1 0 a1.2 hq12) (by decide) ly_M rfl rfl wc_X6_tray wm_L_40 wi_X6_tray ws_X6_tray wn_X6 ⟨rfl, rfl⟩ hd_X6_tray rfl ⟨Nat.le_of_ble_eq_true rfl, Nat.le_of_ble_eq_true rfl⟩ (Nat.le_of_ble_eq_true rfl) dL_packed_55) (fun H locs hw => ?_)
      refine lv_aload_n (pc := 58) C0.1 C0.2.1 dL_packed_58 rfl (lv_at hl 3 rfl) ?_
      refine lv_iload_n (pc := 59) C0.1 C0.2.1 dL_packed_59 rfl (lv_at hl 0 rfl) ?_
      refine lv_iconst (v := 1) (pc := 60) C0.1 C0.2.1 dL_packed_60 (by decide) ?_
      obtain ⟨q13, hq13, hf⟩ := bd_e hf
      refine z_backp0 (pc := 61) hI emb_20 hw (z_runV (pc := 61) (aa := ad) (As := [.int a1.1, .int 1]) (rest := [.int q12, .ref (ad 335)]) C0 hK (emb_P emb_20 (fun j _ => by rw [Nat.zero_add]) (fun j _ => by rw [Nat.zero_add]) hw.1) hl.1 ⟨Nat.le_of_ble_eq_true rfl, Nat.le_of_ble_eq_true rfl⟩ (kX6_tray l D y ad hI0 a1.1 1 a1.2 hq13) (by decide) ly_M rfl rfl wc_X6_tray wm_L_40 wi_X6_tray ws_X6_tray wn_X6 ⟨rfl, rfl⟩ hd_X6_tray rfl ⟨Nat.le_of_ble_eq_true rfl, Nat.le_of_ble_eq_true rfl⟩ (Nat.le_of_ble_eq_true rfl) dL_packed_61) (fun H locs hw => ?_)
      refine lv_aload_n (pc := 64) C0.1 C0.2.1 dL_packed_64 rfl (lv_at hl 3 rfl) ?_
      refine lv_iload_n (pc := 65) C0.1 C0.2.1 dL_packed_65 rfl (lv_at hl 0 rfl) ?_
      refine lv_iconst (v := 2) (pc := 66) C0.1 C0.2.1 dL_packed_66 (by decide) ?_
      obtain ⟨q14, hq14, hf⟩ := bd_e hf
      refine z_backp0 (pc := 67) hI emb_20 hw (z_runV (pc := 67) (aa := ad) (As := [.int a1.1, .int 2]) (rest := [.int q13, .int q12, .ref (ad 335)]) C0 hK (emb_P emb_20 (fun j _ => by rw [Nat.zero_add]) (fun j _ => by rw [Nat.zero_add]) hw.1) hl.1 ⟨Nat.le_of_ble_eq_true rfl, Nat.le_of_ble_eq_true rfl⟩ (kX6_tray l D y ad hI0 a1.1 2 a1.2 hq14) (by decide) ly_M rfl rfl wc_X6_tray wm_L_40 wi_X6_tray ws_X6_tray wn_X6 ⟨rfl, rfl⟩ hd_X6_tray rfl ⟨Nat.le_of_ble_eq_true rfl, Nat.le_of_ble_eq_true rfl⟩ (Nat.le_of_ble_eq_true rfl) dL_packed_67) (fun H locs hw => ?_)
      refine lv_aload_n (pc := 70) C0.1 C0.2.1 dL_packed_70 rfl (lv_at hl 3 rfl) ?_
      refine lv_iload_n (pc := 71) C0.1 C0.2.1 dL_packed_71 rfl (lv_at hl 0 rfl) ?_
      refine lv_iconst (v := 3) (pc := 72) C0.1 C0.2.1 dL_packed_72 (by decide) ?_
      obtain ⟨q15, hq15, hf⟩ := bd_e hf
      refine z_backp0 (pc := 73) hI emb_20 hw (z_runV (pc := 73) (aa := ad) (As := [.int a1.1, .int 3]) (rest := [.int q14, .int q13, .int q12, .ref (ad 335)]) C0 hK (emb_P emb_20 (fun j _ => by rw [Nat.zero_add]) (fun j _ => by rw [Nat.zero_add]) hw.1) hl.1 ⟨Nat.le_of_ble_eq_true rfl, Nat.le_of_ble_eq_true rfl⟩ (kX6_tray l D y ad hI0 a1.1 3 a1.2 hq15) (by decide) ly_M rfl rfl wc_X6_tray wm_L_40 wi_X6_tray ws_X6_tray wn_X6 ⟨rfl, rfl⟩ hd_X6_tray rfl ⟨Nat.le_of_ble_eq_true rfl, Nat.le_of_ble_eq_true rfl⟩ (Nat.le_of_ble_eq_true rfl) dL_packed_73) (fun H locs hw => ?_)
      obtain ⟨q16, hq16, hf⟩ := bd_e hf
      obtain ⟨u17, hu, hf⟩ := nm_f hf
      refine z_back1 (pc := 76) (o := 168) hI emb_21 hw hu (z_runV (pc := 76) (aa := (fun j => ad (168 + j))) (As := [.int q12, .int q13, .int q14, .int q15]) (rest := []) C0 hK (emb_P (aa := (fun j => ad (168 + j))) (τ := (shS 168 a1.2)) emb_21 (fun _ _ => rfl) (fun _ _ => rfl) hw.1) hl.1 ⟨Nat.le_of_ble_eq_true rfl, Nat.le_of_ble_eq_true rfl⟩ (kX6_add l D y (fun j => ad (168 + j)) hI2 q12 q13 q14 q15 (shS 168 a1.2) hq16) (by decide) ly_M rfl rfl wc_X6_add wm_L_30 wi_X6_add ws_X6_add wn_X6 ⟨rfl, rfl⟩ hd_X6_add rfl ⟨Nat.le_of_ble_eq_true rfl, Nat.le_of_ble_eq_true rfl⟩ (Nat.le_of_ble_eq_true rfl) dL_packed_76) (fun H locs hw => ?_)
      refine lv_pop (pc := 79) C0.1 C0.2.1 dL_packed_79 rfl ?_
      refine lv_aload_n (pc := 80) C0.1 C0.2.1 dL_packed_80 rfl (lv_at hl 1 rfl) ?_
      refine lv_iload_n (pc := 81) C0.1 C0.2.1 dL_packed_81 rfl (lv_at hl 0 rfl) ?_
      refine lv_iconst (v := 1) (pc := 82) C0.1 C0.2.1 dL_packed_82 (by decide) ?_
      refine lv_aload_n (pc := 83) C0.1 C0.2.1 dL_packed_83 rfl (lv_at hl 3 rfl) ?_
      refine lv_iload_n (pc := 84) C0.1 C0.2.1 dL_packed_84 rfl (lv_at hl 0 rfl) ?_
      refine lv_iconst (v := 4) (pc := 85) C0.1 C0.2.1 dL_packed_85 (by decide) ?_
      obtain ⟨q18, hq18, hf⟩ := bd_e hf
      refine z_backp0 (pc := 86) hI emb_20 hw (z_runV (pc := 86) (aa := ad) (As := [.int a1.1, .int 4]) (rest := [.int 1, .int a1.1, .ref (ad 335)]) C0 hK (emb_P emb_20 (fun j _ => by rw [Nat.zero_add]) (fun j _ => by rw [Nat.zero_add]) hw.1) hl.1 ⟨Nat.le_of_ble_eq_true rfl, Nat.le_of_ble_eq_true rfl⟩ (kX6_tray l D y ad hI0 a1.1 4 u17 hq18) (by decide) ly_M rfl rfl wc_X6_tray wm_L_40 wi_X6_tray ws_X6_tray wn_X6 ⟨rfl, rfl⟩ hd_X6_tray rfl ⟨Nat.le_of_ble_eq_true rfl, Nat.le_of_ble_eq_true rfl⟩ (Nat.le_of_ble_eq_true rfl) dL_packed_86) (fun H locs hw => ?_)
      obtain ⟨q19, hq19, hf⟩ := bd_e hf
      obtain ⟨u20, hu, hf⟩ := nm_f hf
      refine z_back1 (pc := 89) (o := 168) hI emb_21 hw hu (z_runV (pc := 89) (aa := (fun j => ad (168 + j))) (As := [.int a1.1, .int 1, .int q18]) (rest := []) C0 hK (emb_P (aa := (fun j => ad (168 + j))) (τ := (shS 168 u17)) emb_21 (fun _ _ => rfl) (fun _ _ => rfl) hw.1) hl.1 ⟨Nat.le_of_ble_eq_true rfl, Nat.le_of_ble_eq_true rfl⟩ (kX6_setTray l D y (fun j => ad (168 + j)) hI2 a1.1 1 q18 (shS 168 u17) hq19) (by decide) ly_M rfl rfl wc_X6_setTray wm_L_34 wi_X6_setTray ws_X6_setTray wn_X6 ⟨rfl, rfl⟩ hd_X6_setTray rfl ⟨Nat.le_of_ble_eq_true rfl, Nat.le_of_ble_eq_true rfl⟩ (Nat.le_of_ble_eq_true rfl) dL_packed_89) (fun H locs hw => ?_)
      refine lv_pop (pc := 92) C0.1 C0.2.1 dL_packed_92 rfl ?_
      refine lv_iinc (pc := 93) (v := a1.1 + 1) (lv' := [(3, .int (a1.1 + 1)), (2, .ref (ad 335)), (1, .int q1), (0, .ref (ad 167))]) C0.1 C0.2.1 dL_packed_93 hl (k := 0) rfl rfl (by decide) rfl (fun ls hl => ?_)
      refine lv_goto (tgt := 46) (pc := 96) C0.1 C0.2.1 dL_packed_96 (by decide) ?_
      exact hG _ (Option.some.inj hf).symm H locs ls hw (lv_sub hl [0, 1, 2, 3] rfl)
  · skip
    refine lv_iconst (v := 0) (pc := 99) C0.1 C0.2.1 dL_packed_99 (by decide) ?_
    refine lv_istore_n (pc := 100) (lv' := [(3, .int 0), (2, .ref (ad 335)), (1, .int q1), (0, .ref (ad 167))]) C0.1 C0.2.1 dL_packed_100 rfl hl (by decide) rfl (fun ls hl => ?_)
    refine lv_iconst (v := 0) (pc := 101) C0.1 C0.2.1 dL_packed_101 (by decide) ?_
    refine lv_istore (pc := 102) (lv' := [(4, .int 0), (3, .int 0), (2, .ref (ad 335)), (1, .int q1), (0, .ref (ad 167))]) C0.1 C0.2.1 dL_packed_102 hl (by decide) rfl (fun ls hl => ?_)
    refine lv_iconst (v := 0) (pc := 104) C0.1 C0.2.1 dL_packed_104 (by decide) ?_
    refine lv_istore (pc := 105) (lv' := [(5, .int 0), (4, .int 0), (3, .int 0), (2, .ref (ad 335)), (1, .int q1), (0, .ref (ad 167))]) C0.1 C0.2.1 dL_packed_105 hl (by decide) rfl (fun ls hl => ?_)
    obtain ⟨e21, he21, hf⟩ := bd_e hf
    refine X_loopRC (C1 := 2168) (S1 := 4424) (dc := 1) (ds := 1) (pc := 107) (xpc := 344) (fu := fun a1 => a1.2.2.2) (fl := fun a1 => [(5, .int a1.2.2.1), (4, .int a1.2.1), (3, .int a1.1), (2, .ref (ad 335)), (1, .int q1), (0, .ref (ad 167))]) (o := o) (fun cells slots a1 r hf hcl hsl hX hE hG H locs ls hw hl => ?_) he21 ?_ ?_ (Nat.le_of_ble_eq_true rfl) (Nat.le_of_ble_eq_true rfl) hw hl
    · unfold gL_packed_107 at hf
      refine lv_iload (pc := 107) C0.1 C0.2.1 dL_packed_107 (lv_at hl 0 rfl) ?_
      refine lv_iload_n (pc := 109) C0.1 C0.2.1 dL_packed_109 rfl (lv_at hl 4 rfl) ?_
      refine lv_icmp_ge (tgt := 344) (pc := 110) C0.1 C0.2.1 dL_packed_110 (by decide) (fun hc => ?_) (fun hc => ?_)
      · have hf := if_t hf hc
        exact W.widen (Nat.le_of_succ_le hcl) (Nat.le_of_succ_le hsl) (hE _ (Option.some.inj hf).symm H locs ls hw (lv_sub hl [0, 1, 2, 3, 4, 5] rfl))
      · have hf := if_f hf hc
        refine lv_iconst (v := (-1)) (pc := 113) C0.1 C0.2.1 dL_packed_113 (by decide) ?_
        refine lv_istore (pc := 114) (lv' := [(6, .int (-1)), (5, .int a1.2.2.1), (4, .int a1.2.1), (3, .int a1.1), (2, .ref (ad 335)), (1, .int q1), (0, .ref (ad 167))]) C0.1 C0.2.1 dL_packed_114 hl (by decide) rfl (fun ls hl => ?_)
        refine lv_iload_n (pc := 116) C0.1 C0.2.1 dL_packed_116 rfl (lv_at hl 5 rfl) ?_
        refine lv_iconst (v := 1) (pc := 117) C0.1 C0.2.1 dL_packed_117 (by decide) ?_
        refine lv_isub (pc := 118) C0.1 C0.2.1 dL_packed_118 ?_
        refine lv_istore (pc := 119) (lv' := [(7, .int (q1 - 1)), (6, .int (-1)), (5, .int a1.2.2.1), (4, .int a1.2.1), (3, .int a1.1), (2, .ref (ad 335)), (1, .int q1), (0, .ref (ad 167))]) C0.1 C0.2.1 dL_packed_119 hl (by decide) rfl (fun ls hl => ?_)
        obtain ⟨e22, he22, hf⟩ := bd_e hf
        refine X_loop (pc := 121) (xpc := 238) (fu := fun a2 => a1.2.2.2) (fl := fun a2 => [(7, .int a2.2), (6, .int a2.1), (5, .int a1.2.2.1), (4, .int a1.2.1), (3, .int a1.1), (2, .ref (ad 335)), (1, .int q1), (0, .ref (ad 167))]) (fun a2 r hf hE hG H locs ls hw hl => ?_) he22 (fun H locs ls hw hl => ?_) hw hl
        · unfold gL_packed_121 at hf
          refine lv_iload (pc := 121) C0.1 C0.2.1 dL_packed_121 (lv_at hl 0 rfl) ?_
          refine lv_if_lt (tgt := 238) (pc := 123) C0.1 C0.2.1 dL_packed_123 (by decide) (fun hc => ?_) (fun hc => ?_)
          · have hf := if_t hf hc
            exact hE _ (Option.some.inj hf).symm H locs ls hw (lv_sub hl [0, 1, 2, 3, 4, 5, 6, 7] rfl)
          · have hf := if_f hf hc
            refine lv_aload_n (pc := 126) C0.1 C0.2.1 dL_packed_126 rfl (lv_at hl 7 rfl) ?_
            refine lv_iload (pc := 127) C0.1 C0.2.1 dL_packed_127 (lv_at hl 0 rfl) ?_
            refine lv_iconst (v := 0) (pc := 129) C0.1 C0.2.1 dL_packed_129 (by decide) ?_
            obtain ⟨q23, hq23, hf⟩ := bd_e hf
            refine z_backp0 (pc := 130) hI emb_20 hw (z_runV (pc := 130) (aa := ad) (As := [.int a2.2, .int 0]) (rest := []) C0 hK (emb_P emb_20 (fun j _ => by rw [Nat.zero_add]) (fun j _ => by rw [Nat.zero_add]) hw.1) hl.1 ⟨by exact Nat.le_of_succ_le hcl, by exact Nat.le_of_succ_le hsl⟩ (kX6_tray l D y ad hI0 a2.2 0 a1.2.2.2 hq23) (by decide) ly_M rfl rfl wc_X6_tray wm_L_40 wi_X6_tray ws_X6_tray wn_X6 ⟨rfl, rfl⟩ hd_X6_tray rfl ⟨Nat.le_of_ble_eq_true rfl, Nat.le_of_ble_eq_true rfl⟩ (Nat.le_of_ble_eq_true rfl) dL_packed_130) (fun H locs hw => ?_)
            refine lv_aload_n (pc := 133) C0.1 C0.2.1 dL_packed_133 rfl (lv_at hl 7 rfl) ?_
            refine lv_iload (pc := 134) C0.1 C0.2.1 dL_packed_134 (lv_at hl 0 rfl) ?_
            refine lv_iconst (v := 1) (pc := 136) C0.1 C0.2.1 dL_packed_136 (by decide) ?_
            obtain ⟨q24, hq24, hf⟩ := bd_e hf
            refine z_backp0 (pc := 137) hI emb_20 hw (z_runV (pc := 137) (aa := ad) (As := [.int a2.2, .int 1]) (rest := [.int q23]) C0 hK (emb_P emb_20 (fun j _ => by rw [Nat.zero_add]) (fun j _ => by rw [Nat.zero_add]) hw.1) hl.1 ⟨by exact Nat.le_of_succ_le hcl, by exact Nat.le_of_succ_le hsl⟩ (kX6_tray l D y ad hI0 a2.2 1 a1.2.2.2 hq24) (by decide) ly_M rfl rfl wc_X6_tray wm_L_40 wi_X6_tray ws_X6_tray wn_X6 ⟨rfl, rfl⟩ hd_X6_tray rfl ⟨Nat.le_of_ble_eq_true rfl, Nat.le_of_ble_eq_true rfl⟩ (Nat.le_of_ble_eq_true rfl) dL_packed_137) (fun H locs hw => ?_)
            refine lv_imul (pc := 140) C0.1 C0.2.1 dL_packed_140 ?_
            refine lv_istore (pc := 141) (lv' := [(8, .int (q23 * q24)), (7, .int a2.2), (6, .int a2.1), (5, .int a1.2.2.1), (4, .int a1.2.1), (3, .int a1.1), (2, .ref (ad 335)), (1, .int q1), (0, .ref (ad 167))]) C0.1 C0.2.1 dL_packed_141 hl (by decide) rfl (fun ls hl => ?_)
            refine lv_iload (pc := 143) C0.1 C0.2.1 dL_packed_143 (lv_at hl 2 rfl) ?_
            obtain ⟨j25, hj25, hf⟩ := bd_e hf
            refine X_join (pc := 145) (xpc := 207) (j := j25) (st := []) hw (fun hE0 => ?_) (fun H locs hw => ?_)
            · have hf := hj25
              refine lv_if_lt (tgt := 202) (pc := 145) C0.1 C0.2.1 dL_packed_145 (by decide) (fun hc => ?_) (fun hc => ?_)
              · have hf := if_t hf hc
                refine lv_iconst (v := 1) (pc := 202) C0.1 C0.2.1 dL_packed_202 (by decide) ?_
                refine lv_goto (tgt := 207) (pc := 203) C0.1 C0.2.1 dL_packed_203 (by decide) ?_
                exact X_leaf hE0 (Option.some.inj hf) hw
              · have hf := if_f hf hc
                refine lv_aload_n (pc := 148) C0.1 C0.2.1 dL_packed_148 rfl (lv_at hl 8 rfl) ?_
                refine lv_iload (pc := 149) C0.1 C0.2.1 dL_packed_149 (lv_at hl 1 rfl) ?_
                refine lv_iconst (v := 3) (pc := 151) C0.1 C0.2.1 dL_packed_151 (by decide) ?_
                obtain ⟨q26, hq26, hf⟩ := bd_e hf
                refine z_backp0 (pc := 152) hI emb_20 hw (z_runV (pc := 152) (aa := ad) (As := [.int a2.2, .int 3]) (rest := []) C0 hK (emb_P emb_20 (fun j _ => by rw [Nat.zero_add]) (fun j _ => by rw [Nat.zero_add]) hw.1) hl.1 ⟨by exact Nat.le_of_succ_le hcl, by exact Nat.le_of_succ_le hsl⟩ (kX6_tray l D y ad hI0 a2.2 3 a1.2.2.2 hq26) (by decide) ly_M rfl rfl wc_X6_tray wm_L_40 wi_X6_tray ws_X6_tray wn_X6 ⟨rfl, rfl⟩ hd_X6_tray rfl ⟨Nat.le_of_ble_eq_true rfl, Nat.le_of_ble_eq_true rfl⟩ (Nat.le_of_ble_eq_true rfl) dL_packed_152) (fun H locs hw => ?_)
                refine lv_aload_n (pc := 155) C0.1 C0.2.1 dL_packed_155 rfl (lv_at hl 8 rfl) ?_
                refine lv_iload (pc := 156) C0.1 C0.2.1 dL_packed_156 (lv_at hl 2 rfl) ?_
                refine lv_iconst (v := 3) (pc := 158) C0.1 C0.2.1 dL_packed_158 (by decide) ?_
                obtain ⟨q27, hq27, hf⟩ := bd_e hf
                refine z_backp0 (pc := 159) hI emb_20 hw (z_runV (pc := 159) (aa := ad) (As := [.int a2.1, .int 3]) (rest := [.int q26]) C0 hK (emb_P emb_20 (fun j _ => by rw [Nat.zero_add]) (fun j _ => by rw [Nat.zero_add]) hw.1) hl.1 ⟨by exact Nat.le_of_succ_le hcl, by exact Nat.le_of_succ_le hsl⟩ (kX6_tray l D y ad hI0 a2.1 3 a1.2.2.2 hq27) (by decide) ly_M rfl rfl wc_X6_tray wm_L_40 wi_X6_tray ws_X6_tray wn_X6 ⟨rfl, rfl⟩ hd_X6_tray rfl ⟨Nat.le_of_ble_eq_true rfl, Nat.le_of_ble_eq_true rfl⟩ (Nat.le_of_ble_eq_true rfl) dL_packed_159) (fun H locs hw => ?_)
                obtain ⟨j28, hj28, hf⟩ := bd_e hf
                refine X_join (pc := 162) (xpc := 207) (j := j28) (st := []) hw (fun hE0 => ?_) (fun H locs hw => ?_)
                · have hf := hj28
                  refine lv_icmp_gt (tgt := 202) (pc := 162) C0.1 C0.2.1 dL_packed_162 (by decide) (fun hc => ?_) (fun hc => ?_)
                  · have hf := if_t hf hc
                    refine lv_iconst (v := 1) (pc := 202) C0.1 C0.2.1 dL_packed_202 (by decide) ?_
                    refine lv_goto (tgt := 207) (pc := 203) C0.1 C0.2.1 dL_packed_203 (by decide) ?_
                    exact X_leaf hE0 (Option.some.inj hf) hw
                  · have hf := if_f hf hc
                    refine lv_aload_n (pc := 165) C0.1 C0.2.1 dL_packed_165 rfl (lv_at hl 8 rfl) ?_
                    refine lv_iload (pc := 166) C0.1 C0.2.1 dL_packed_166 (lv_at hl 1 rfl) ?_
                    refine lv_iconst (v := 3) (pc := 168) C0.1 C0.2.1 dL_packed_168 (by decide) ?_
                    obtain ⟨q29, hq29, hf⟩ := bd_e hf
                    refine z_backp0 (pc := 169) hI emb_20 hw (z_runV (pc := 169) (aa := ad) (As := [.int a2.2, .int 3]) (rest := []) C0 hK (emb_P emb_20 (fun j _ => by rw [Nat.zero_add]) (fun j _ => by rw [Nat.zero_add]) hw.1) hl.1 ⟨by exact Nat.le_of_succ_le hcl, by exact Nat.le_of_succ_le hsl⟩ (kX6_tray l D y ad hI0 a2.2 3 a1.2.2.2 hq29) (by decide) ly_M rfl rfl wc_X6_tray wm_L_40 wi_X6_tray ws_X6_tray wn_X6 ⟨rfl, rfl⟩ hd_X6_tray rfl ⟨Nat.le_of_ble_eq_true rfl, Nat.le_of_ble_eq_true rfl⟩ (Nat.le_of_ble_eq_true rfl) dL_packed_169) (fun H locs hw => ?_)
                    refine lv_aload_n (pc := 172) C0.1 C0.2.1 dL_packed_172 rfl (lv_at hl 8 rfl) ?_
                    refine lv_iload (pc := 173) C0.1 C0.2.1 dL_packed_173 (lv_at hl 2 rfl) ?_
                    refine lv_iconst (v := 3) (pc := 175) C0.1 C0.2.1 dL_packed_175 (by decide) ?_
                    obtain ⟨q30, hq30, hf⟩ := bd_e hf
                    refine z_backp0 (pc := 176) hI emb_20 hw (z_runV (pc := 176) (aa := ad) (As := [.int a2.1, .int 3]) (rest := [.int q29]) C0 hK (emb_P emb_20 (fun j _ => by rw [Nat.zero_add]) (fun j _ => by rw [Nat.zero_add]) hw.1) hl.1 ⟨by exact Nat.le_of_succ_le hcl, by exact Nat.le_of_succ_le hsl⟩ (kX6_tray l D y ad hI0 a2.1 3 a1.2.2.2 hq30) (by decide) ly_M rfl rfl wc_X6_tray wm_L_40 wi_X6_tray ws_X6_tray wn_X6 ⟨rfl, rfl⟩ hd_X6_tray rfl ⟨Nat.le_of_ble_eq_true rfl, Nat.le_of_ble_eq_true rfl⟩ (Nat.le_of_ble_eq_true rfl) dL_packed_176) (fun H locs hw => ?_)
                    obtain ⟨j31, hj31, hf⟩ := bd_e hf
                    refine X_join (pc := 179) (xpc := 207) (j := j31) (st := []) hw (fun hE0 => ?_) (fun H locs hw => ?_)
                    · have hf := hj31
                      refine lv_icmp_ne (tgt := 206) (pc := 179) C0.1 C0.2.1 dL_packed_179 (by decide) (fun hc => ?_) (fun hc => ?_)
                      · have hf := if_f hf hc
                        refine lv_iconst (v := 0) (pc := 206) C0.1 C0.2.1 dL_packed_206 (by decide) ?_
                        exact X_leaf hE0 (Option.some.inj hf) hw
                      · have hf := if_t hf hc
                        refine lv_iload (pc := 182) C0.1 C0.2.1 dL_packed_182 (lv_at hl 0 rfl) ?_
                        refine lv_aload_n (pc := 184) C0.1 C0.2.1 dL_packed_184 rfl (lv_at hl 8 rfl) ?_
                        refine lv_iload (pc := 185) C0.1 C0.2.1 dL_packed_185 (lv_at hl 2 rfl) ?_
                        refine lv_iconst (v := 0) (pc := 187) C0.1 C0.2.1 dL_packed_187 (by decide) ?_
                        obtain ⟨q32, hq32, hf⟩ := bd_e hf
                        refine z_backp0 (pc := 188) hI emb_20 hw (z_runV (pc := 188) (aa := ad) (As := [.int a2.1, .int 0]) (rest := [.int (q23 * q24)]) C0 hK (emb_P emb_20 (fun j _ => by rw [Nat.zero_add]) (fun j _ => by rw [Nat.zero_add]) hw.1) hl.1 ⟨by exact Nat.le_of_succ_le hcl, by exact Nat.le_of_succ_le hsl⟩ (kX6_tray l D y ad hI0 a2.1 0 a1.2.2.2 hq32) (by decide) ly_M rfl rfl wc_X6_tray wm_L_40 wi_X6_tray ws_X6_tray wn_X6 ⟨rfl, rfl⟩ hd_X6_tray rfl ⟨Nat.le_of_ble_eq_true rfl, Nat.le_of_ble_eq_true rfl⟩ (Nat.le_of_ble_eq_true rfl) dL_packed_188) (fun H locs hw => ?_)
                        refine lv_aload_n (pc := 191) C0.1 C0.2.1 dL_packed_191 rfl (lv_at hl 8 rfl) ?_
                        refine lv_iload (pc := 192) C0.1 C0.2.1 dL_packed_192 (lv_at hl 2 rfl) ?_
                        refine lv_iconst (v := 1) (pc := 194) C0.1 C0.2.1 dL_packed_194 (by decide) ?_
                        obtain ⟨q33, hq33, hf⟩ := bd_e hf
                        refine z_backp0 (pc := 195) hI emb_20 hw (z_runV (pc := 195) (aa := ad) (As := [.int a2.1, .int 1]) (rest := [.int q32, .int (q23 * q24)]) C0 hK (emb_P emb_20 (fun j _ => by rw [Nat.zero_add]) (fun j _ => by rw [Nat.zero_add]) hw.1) hl.1 ⟨by exact Nat.le_of_succ_le hcl, by exact Nat.le_of_succ_le hsl⟩ (kX6_tray l D y ad hI0 a2.1 1 a1.2.2.2 hq33) (by decide) ly_M rfl rfl wc_X6_tray wm_L_40 wi_X6_tray ws_X6_tray wn_X6 ⟨rfl, rfl⟩ hd_X6_tray rfl ⟨Nat.le_of_ble_eq_true rfl, Nat.le_of_ble_eq_true rfl⟩ (Nat.le_of_ble_eq_true rfl) dL_packed_195) (fun H locs hw => ?_)
                        refine lv_imul (pc := 198) C0.1 C0.2.1 dL_packed_198 ?_
                        obtain ⟨j34, hj34, hf⟩ := bd_e hf
                        refine X_join (pc := 199) (xpc := 207) (j := j34) (st := []) hw (fun hE0 => ?_) (fun H locs hw => ?_)
                        · have hf := hj34
                          refine lv_icmp_lt (tgt := 206) (pc := 199) C0.1 C0.2.1 dL_packed_199 (by decide) (fun hc => ?_) (fun hc => ?_)
                          · have hf := if_t hf hc
                            refine lv_iconst (v := 0) (pc := 206) C0.1 C0.2.1 dL_packed_206 (by decide) ?_
                            exact X_leaf hE0 (Option.some.inj hf) hw
                          · have hf := if_f hf hc
                            refine lv_iconst (v := 1) (pc := 202) C0.1 C0.2.1 dL_packed_202 (by decide) ?_
                            refine lv_goto (tgt := 207) (pc := 203) C0.1 C0.2.1 dL_packed_203 (by decide) ?_
                            exact X_leaf hE0 (Option.some.inj hf) hw
                        · skip
                          exact X_leaf hE0 (Option.some.inj hf) hw
                    · skip
                      exact X_leaf hE0 (Option.some.inj hf) hw
                · skip
                  exact X_leaf hE0 (Option.some.inj hf) hw
            · skip
              refine lv_istore (pc := 207) (lv' := [(9, .int j25), (8, .int (q23 * q24)), (7, .int a2.2), (6, .int a2.1), (5, .int a1.2.2.1), (4, .int a1.2.1), (3, .int a1.1), (2, .ref (ad 335)), (1, .int q1), (0, .ref (ad 167))]) C0.1 C0.2.1 dL_packed_207 hl (by decide) rfl (fun ls hl => ?_)
              refine lv_iload_n (pc := 209) C0.1 C0.2.1 dL_packed_209 rfl (lv_at hl 6 rfl) ?_
              refine lv_iload (pc := 210) C0.1 C0.2.1 dL_packed_210 (lv_at hl 2 rfl) ?_
              refine lv_ishr (pc := 212) C0.1 C0.2.1 dL_packed_212 ?_
              refine lv_iconst (v := 1) (pc := 213) C0.1 C0.2.1 dL_packed_213 (by decide) ?_
              refine lv_iand (pc := 214) C0.1 C0.2.1 dL_packed_214 ?_
              obtain ⟨j35, hj35, hf⟩ := bd_e hf
              refine X_join (pc := 215) (xpc := 230) (j := j35) (st := []) hw (fun hE0 => ?_) (fun H locs hw => ?_)
              · have hf := hj35
                refine lv_if_ne (tgt := 228) (pc := 215) C0.1 C0.2.1 dL_packed_215 (by decide) (fun hc => ?_) (fun hc => ?_)
                · have hf := if_f hf hc
                  refine lv_iload (pc := 228) C0.1 C0.2.1 dL_packed_228 (lv_at hl 3 rfl) ?_
                  exact X_leaf hE0 (Option.some.inj hf) hw
                · have hf := if_t hf hc
                  refine lv_iload (pc := 218) C0.1 C0.2.1 dL_packed_218 (lv_at hl 0 rfl) ?_
                  obtain ⟨j36, hj36, hf⟩ := bd_e hf
                  refine X_join (pc := 220) (xpc := 230) (j := j36) (st := []) hw (fun hE0 => ?_) (fun H locs hw => ?_)
                  · have hf := hj36
                    refine lv_if_eq (tgt := 228) (pc := 220) C0.1 C0.2.1 dL_packed_220 (by decide) (fun hc => ?_) (fun hc => ?_)
                    · have hf := if_t hf hc
                      refine lv_iload (pc := 228) C0.1 C0.2.1 dL_packed_228 (lv_at hl 3 rfl) ?_
                      exact X_leaf hE0 (Option.some.inj hf) hw
                    · have hf := if_f hf hc
                      refine lv_iload (pc := 223) C0.1 C0.2.1 dL_packed_223 (lv_at hl 2 rfl) ?_
                      refine lv_goto (tgt := 230) (pc := 225) C0.1 C0.2.1 dL_packed_225 (by decide) ?_
                      exact X_leaf hE0 (Option.some.inj hf) hw
                  · skip
                    exact X_leaf hE0 (Option.some.inj hf) hw
              · skip
                refine lv_istore (pc := 230) (lv' := [(6, .int j35), (9, .int j25), (8, .int (q23 * q24)), (7, .int a2.2), (5, .int a1.2.2.1), (4, .int a1.2.1), (3, .int a1.1), (2, .ref (ad 335)), (1, .int q1), (0, .ref (ad 167))]) C0.1 C0.2.1 dL_packed_230 hl (by decide) rfl (fun ls hl => ?_)
                refine lv_iinc (pc := 232) (v := a2.2 + (-1)) (lv' := [(7, .int (a2.2 + (-1))), (6, .int j35), (9, .int j25), (8, .int (q23 * q24)), (5, .int a1.2.2.1), (4, .int a1.2.1), (3, .int a1.1), (2, .ref (ad 335)), (1, .int q1), (0, .ref (ad 167))]) C0.1 C0.2.1 dL_packed_232 hl (k := 3) rfl (congrArg (HAdd.hAdd _) (by decide)) (by decide) rfl (fun ls hl => ?_)
                refine lv_goto (tgt := 121) (pc := 235) C0.1 C0.2.1 dL_packed_235 (by decide) ?_
                exact hG _ (Option.some.inj hf).symm H locs ls hw (lv_sub hl [0, 1, 4, 5, 6, 7, 8, 9] rfl)
        · skip
          refine lv_iload_n (pc := 238) C0.1 C0.2.1 dL_packed_238 rfl (lv_at hl 4 rfl) ?_
          refine lv_iconst (v := 1) (pc := 239) C0.1 C0.2.1 dL_packed_239 (by decide) ?_
          refine lv_iload (pc := 240) C0.1 C0.2.1 dL_packed_240 (lv_at hl 1 rfl) ?_
          refine lv_ishl (pc := 242) C0.1 C0.2.1 dL_packed_242 ?_
          refine lv_ior (pc := 243) C0.1 C0.2.1 dL_packed_243 ?_
          refine lv_istore_n (pc := 244) (lv' := [(3, .int (a1.1 ||| (1 <<< (e22.1 &&& 31)))), (7, .int e22.2), (6, .int e22.1), (5, .int a1.2.2.1), (4, .int a1.2.1), (2, .ref (ad 335)), (1, .int q1), (0, .ref (ad 167))]) C0.1 C0.2.1 dL_packed_244 rfl hl (by decide) rfl (fun ls hl => ?_)
          refine lv_aload_n (pc := 245) C0.1 C0.2.1 dL_packed_245 rfl (lv_at hl 7 rfl) ?_
          refine lv_iconst (v := 0) (pc := 246) C0.1 C0.2.1 dL_packed_246 (by decide) ?_
          refine lv_bipush (v := 10) (pc := 247) C0.1 C0.2.1 dL_packed_247 (by decide) ?_
          refine lv_iload (pc := 249) C0.1 C0.2.1 dL_packed_249 (lv_at hl 3 rfl) ?_
          refine lv_iadd (pc := 251) C0.1 C0.2.1 dL_packed_251 ?_
          obtain ⟨q37, hq37, hf⟩ := bd_e hf
          obtain ⟨u38, hu, hf⟩ := nm_f hf
          refine z_back0 (pc := 252) hI emb_20 hw hu (z_runV (pc := 252) (aa := ad) (As := [.int 0, .int (10 + a1.2.2.1)]) (rest := []) C0 hK (emb_P emb_20 (fun j _ => by rw [Nat.zero_add]) (fun j _ => by rw [Nat.zero_add]) hw.1) hl.1 ⟨by exact Nat.le_of_succ_le hcl, by exact Nat.le_of_succ_le hsl⟩ (kX6_ifPacked l D y ad hI0 0 (10 + a1.2.2.1) a1.2.2.2 hq37) (by decide) ly_M rfl rfl wc_X6_ifPacked wm_L_88 wi_X6_ifPacked ws_X6_ifPacked wn_X6 ⟨rfl, rfl⟩ hd_X6_ifPacked rfl ⟨Nat.le_of_ble_eq_true rfl, Nat.le_of_ble_eq_true rfl⟩ (Nat.le_of_ble_eq_true rfl) dL_packed_252) (fun H locs hw => ?_)
          refine lv_iload (pc := 255) C0.1 C0.2.1 dL_packed_255 (lv_at hl 2 rfl) ?_
          refine lv_icmp_eq (tgt := 262) (pc := 257) C0.1 C0.2.1 dL_packed_257 (by decide) (fun hc => ?_) (fun hc => ?_)
          · have hf := if_t hf hc
            refine lv_iconst (v := 1) (pc := 262) C0.1 C0.2.1 dL_packed_262 (by decide) ?_
            obtain ⟨u39, hu, hf⟩ := nm_f hf
            refine z_new (pc := 263) (LZ := LZ2) (K := 1) C0 hK wa_int hI hw Lok_2 (fun j hj => rfl) rfl hu (by decide) rfl (by decide) hcl hsl dL_packed_263 (fun ad H hd hnew hI hw => ?_)
            rw [← hd 167 (by decide), ← hd 335 (by decide)] at hl
            have hI0 : XI ad 168 := emb_I (o := 0) (by decide) (fun j _ => by rw [Nat.zero_add]) hI
            have hI1 : XI (fun j => ad (168 + j)) 169 := emb_I (o := 168) (NZ := 337) (by decide) (fun _ _ => rfl) hI
            have hI2 : XI (fun j => ad (168 + j)) 168 := emb_I (o := 168) (NZ := 337) (by decide) (fun _ _ => rfl) hI
            have hnew3 : ∀ j, 168 ≤ j → j < 337 → s.heap.size ≤ ad j := fun j h1 h2 => by
              by_cases h : j = 336
              · rw [h]; exact hnew
              · rw [hd j (by omega)]; exact hnew2 j h1 (by omega)
            have hd3 : ∀ j, j < 168 → ad j = _ := fun j hj => (hd j (by omega)).trans (hd2 j hj)
            refine lv_astore (pc := 265) (lv' := [(7, .ref (ad 336)), (3, .int (a1.1 ||| (1 <<< (e22.1 &&& 31)))), (6, .int e22.1), (5, .int a1.2.2.1), (4, .int a1.2.1), (2, .ref (ad 335)), (1, .int q1), (0, .ref (ad 167))]) C0.1 C0.2.1 dL_packed_265 hl (by decide) rfl (fun ls hl => ?_)
            refine lv_aload_n (pc := 267) C0.1 C0.2.1 dL_packed_267 rfl (lv_at hl 5 rfl) ?_
            refine lv_iload (pc := 268) C0.1 C0.2.1 dL_packed_268 (lv_at hl 2 rfl) ?_
            refine lv_aload (pc := 270) C0.1 C0.2.1 dL_packed_270 (lv_at hl 0 rfl) ?_
            obtain ⟨q40, hq40, hf⟩ := bd_e hf
            obtain ⟨u41, hu, hf⟩ := nm_f hf
            refine z_back1 (pc := 272) (o := 168) hI emb_3b hw hu (z_runS (pc := 272) (aa := (fun j => ad (168 + j))) (As := [.ref (ad 335), .int e22.1, .ref (ad 336)]) (rest := []) C0 hK (emb_P (aa := (fun j => ad (168 + j))) (τ := (shS 168 u39)) emb_3b (fun _ _ => rfl) (fun _ _ => rfl) hw.1) hl.1 ⟨by exact hcl, by exact hsl⟩ (kL_best l D y (fun j => ad (168 + j)) hI1 e22.1 (shS 168 u39) hq40) rfl wc_L_best wm_L_76 wt_L_best wn_L ⟨rfl, rfl⟩ hd_L_best rfl ⟨Nat.le_of_ble_eq_true rfl, Nat.le_of_ble_eq_true rfl⟩ (Nat.le_of_ble_eq_true rfl) dL_packed_272) (fun H locs hw => ?_)
            refine lv_istore (pc := 275) (lv' := [(8, .int q40.1), (7, .ref (ad 336)), (3, .int (a1.1 ||| (1 <<< (e22.1 &&& 31)))), (6, .int e22.1), (5, .int a1.2.2.1), (4, .int a1.2.1), (2, .ref (ad 335)), (1, .int q1), (0, .ref (ad 167))]) C0.1 C0.2.1 dL_packed_275 hl (by decide) rfl (fun ls hl => ?_)
            refine lv_iload (pc := 277) C0.1 C0.2.1 dL_packed_277 (lv_at hl 5 rfl) ?_
            refine lv_iload (pc := 279) C0.1 C0.2.1 dL_packed_279 (lv_at hl 0 rfl) ?_
            obtain ⟨j42, hj42, hf⟩ := bd_e hf
            refine X_join (pc := 281) (xpc := 289) (j := j42) (st := [.int a1.2.1]) hw (fun hE0 => ?_) (fun H locs hw => ?_)
            · have hf := hj42
              refine lv_if_ge (tgt := 288) (pc := 281) C0.1 C0.2.1 dL_packed_281 (by decide) (fun hc => ?_) (fun hc => ?_)
              · have hf := if_t hf hc
                refine lv_iconst (v := 0) (pc := 288) C0.1 C0.2.1 dL_packed_288 (by decide) ?_
                exact X_leaf hE0 (Option.some.inj hf) hw
              · have hf := if_f hf hc
                refine lv_iconst (v := 1) (pc := 284) C0.1 C0.2.1 dL_packed_284 (by decide) ?_
                refine lv_goto (tgt := 289) (pc := 285) C0.1 C0.2.1 dL_packed_285 (by decide) ?_
                exact X_leaf hE0 (Option.some.inj hf) hw
            · skip
              refine lv_iadd (pc := 289) C0.1 C0.2.1 dL_packed_289 ?_
              refine lv_istore (pc := 290) (lv' := [(4, .int (a1.2.1 + j42)), (8, .int q40.1), (7, .ref (ad 336)), (3, .int (a1.1 ||| (1 <<< (e22.1 &&& 31)))), (6, .int e22.1), (5, .int a1.2.2.1), (2, .ref (ad 335)), (1, .int q1), (0, .ref (ad 167))]) C0.1 C0.2.1 dL_packed_290 hl (by decide) rfl (fun ls hl => ?_)
              refine lv_iload (pc := 292) C0.1 C0.2.1 dL_packed_292 (lv_at hl 1 rfl) ?_
              refine lv_if_lt (tgt := 338) (pc := 294) C0.1 C0.2.1 dL_packed_294 (by decide) (fun hc => ?_) (fun hc => ?_)
              · have hf := if_t hf hc
                refine lv_iinc (pc := 338) (v := a1.2.2.1 + 1) (lv' := [(5, .int (a1.2.2.1 + 1)), (4, .int (a1.2.1 + j42)), (8, .int q40.1), (7, .ref (ad 336)), (3, .int (a1.1 ||| (1 <<< (e22.1 &&& 31)))), (6, .int e22.1), (2, .ref (ad 335)), (1, .int q1), (0, .ref (ad 167))]) C0.1 C0.2.1 dL_packed_338 hl (k := 5) rfl rfl (by decide) rfl (fun ls hl => ?_)
                refine lv_goto (tgt := 107) (pc := 341) C0.1 C0.2.1 dL_packed_341 (by decide) ?_
                rw [hd 167 (by decide), hd 335 (by decide)] at hl
                exact z_forget (locs' := oldL s locs) (fun x hx h => List.mem_filter.mpr ⟨hx, decide_eq_true h⟩) (hG _ (Option.some.inj hf).symm H (oldL s locs) ls (z_cg Lok_2 (fun j hj => (hd j hj).symm) (z_drop (LN := LZ2) (N := 336) emb_32 (fun j h1 h2 => by rw [show j = 336 by omega]; exact hnew) hw)) (lv_sub hl [0, 1, 4, 6, 7, 8] rfl))
              · have hf := if_f hf hc
                refine lv_aload_n (pc := 297) C0.1 C0.2.1 dL_packed_297 rfl (lv_at hl 6 rfl) ?_
                refine lv_iload (pc := 298) C0.1 C0.2.1 dL_packed_298 (lv_at hl 4 rfl) ?_
                refine lv_iload (pc := 300) C0.1 C0.2.1 dL_packed_300 (lv_at hl 1 rfl) ?_
                refine lv_bipush (v := 10) (pc := 302) C0.1 C0.2.1 dL_packed_302 (by decide) ?_
                refine lv_idiv (pc := 304) C0.1 C0.2.1 dL_packed_304 (by decide) ?_
                refine lv_bipush (v := 10) (pc := 305) C0.1 C0.2.1 dL_packed_305 (by decide) ?_
                refine x_irem (pc := 307) C0.1 C0.2.1 dL_packed_307 (by decide) ?_
                refine lv_iload (pc := 308) C0.1 C0.2.1 dL_packed_308 (lv_at hl 1 rfl) ?_
                refine lv_bipush (v := 100) (pc := 310) C0.1 C0.2.1 dL_packed_310 (by decide) ?_
                refine lv_idiv (pc := 312) C0.1 C0.2.1 dL_packed_312 (by decide) ?_
                refine lv_bipush (v := 10) (pc := 313) C0.1 C0.2.1 dL_packed_313 (by decide) ?_
                refine x_irem (pc := 315) C0.1 C0.2.1 dL_packed_315 (by decide) ?_
                refine lv_iload (pc := 316) C0.1 C0.2.1 dL_packed_316 (lv_at hl 1 rfl) ?_
                refine lv_bipush (v := 10) (pc := 318) C0.1 C0.2.1 dL_packed_318 (by decide) ?_
                refine x_irem (pc := 320) C0.1 C0.2.1 dL_packed_320 (by decide) ?_
                refine lv_iconst (v := 1) (pc := 321) C0.1 C0.2.1 dL_packed_321 (by decide) ?_
                obtain ⟨j43, hj43, hf⟩ := bd_e hf
                refine X_join (pc := 322) (xpc := 330) (j := j43) (st := [.int ((q40.1 / 100) % 10), .int ((q40.1 / 10) % 10), .int e22.1, .ref (ad 335)]) hw (fun hE0 => ?_) (fun H locs hw => ?_)
                · have hf := hj43
                  refine lv_icmp_ne (tgt := 329) (pc := 322) C0.1 C0.2.1 dL_packed_322 (by decide) (fun hc => ?_) (fun hc => ?_)
                  · have hf := if_f hf hc
                    refine lv_iconst (v := 0) (pc := 329) C0.1 C0.2.1 dL_packed_329 (by decide) ?_
                    exact X_leaf hE0 (Option.some.inj hf) hw
                  · have hf := if_t hf hc
                    refine lv_iconst (v := 1) (pc := 325) C0.1 C0.2.1 dL_packed_325 (by decide) ?_
                    refine lv_goto (tgt := 330) (pc := 326) C0.1 C0.2.1 dL_packed_326 (by decide) ?_
                    exact X_leaf hE0 (Option.some.inj hf) hw
                · skip
                  obtain ⟨q44, hq44, hf⟩ := bd_e hf
                  obtain ⟨u45, hu, hf⟩ := nm_f hf
                  refine z_back1 (pc := 330) (o := 168) hI emb_31 hw hu (z_runV (pc := 330) (aa := (fun j => ad (168 + j))) (As := [.int e22.1, .int ((q40.1 / 10) % 10), .int ((q40.1 / 100) % 10), .int j43]) (rest := []) C0 hK (emb_P (aa := (fun j => ad (168 + j))) (τ := (shS 168 u41)) emb_31 (fun _ _ => rfl) (fun _ _ => rfl) hw.1) hl.1 ⟨by exact hcl, by exact hsl⟩ (kX6_letDown l D y (fun j => ad (168 + j)) hI2 e22.1 ((q40.1 / 10) % 10) ((q40.1 / 100) % 10) j43 (shS 168 u41) hq44) (by decide) ly_M rfl rfl wc_X6_letDown wm_L_83 wi_X6_letDown ws_X6_letDown wn_X6 ⟨rfl, rfl⟩ hd_X6_letDown rfl ⟨Nat.le_of_ble_eq_true rfl, Nat.le_of_ble_eq_true rfl⟩ (Nat.le_of_ble_eq_true rfl) dL_packed_330) (fun H locs hw => ?_)
                  refine lv_if_ge (tgt := 338) (pc := 333) C0.1 C0.2.1 dL_packed_333 (by decide) (fun hc => ?_) (fun hc => ?_)
                  · have hf := if_t hf hc
                    refine lv_iinc (pc := 338) (v := a1.2.2.1 + 1) (lv' := [(5, .int (a1.2.2.1 + 1)), (4, .int (a1.2.1 + j42)), (8, .int q40.1), (7, .ref (ad 336)), (3, .int (a1.1 ||| (1 <<< (e22.1 &&& 31)))), (6, .int e22.1), (2, .ref (ad 335)), (1, .int q1), (0, .ref (ad 167))]) C0.1 C0.2.1 dL_packed_338 hl (k := 5) rfl rfl (by decide) rfl (fun ls hl => ?_)
                    refine lv_goto (tgt := 107) (pc := 341) C0.1 C0.2.1 dL_packed_341 (by decide) ?_
                    rw [hd 167 (by decide), hd 335 (by decide)] at hl
                    exact z_forget (locs' := oldL s locs) (fun x hx h => List.mem_filter.mpr ⟨hx, decide_eq_true h⟩) (hG _ (Option.some.inj hf).symm H (oldL s locs) ls (z_cg Lok_2 (fun j hj => (hd j hj).symm) (z_drop (LN := LZ2) (N := 336) emb_32 (fun j h1 h2 => by rw [show j = 336 by omega]; exact hnew) hw)) (lv_sub hl [0, 1, 4, 6, 7, 8] rfl))
                  · have hf := if_f hf hc
                    refine lv_iconst (v := 0) (pc := 336) C0.1 C0.2.1 dL_packed_336 (by decide) ?_
                    refine W.widen (k := 2168) (n := 4424) hcl hsl ?_
                    exact z_zretN (pc := 337) emb_30 hnew3 (fun j hj => (hd3 j hj).symm) C0 hK hk hr hw rfl (hX _ (Option.some.inj hf).symm) dL_packed_337
          · have hf := if_f hf hc
            refine lv_iconst (v := 0) (pc := 260) C0.1 C0.2.1 dL_packed_260 (by decide) ?_
            refine W.widen (k := 2168) (n := 4424) (Nat.le_of_succ_le hcl) (Nat.le_of_succ_le hsl) ?_
            exact z_zretN (pc := 261) emb_20 hnew2 (fun j hj => (hd2 j hj).symm) C0 hK hk hr hw rfl (hX _ (Option.some.inj hf).symm) dL_packed_261
    · intro x hx
      subst hx
      exact Option.some.inj hf
    · intro e21x he H locs ls hw hl
      subst he
      have hf := sum_r hf
      refine lv_aload_n (pc := 344) C0.1 C0.2.1 dL_packed_344 rfl (lv_at hl 5 rfl) ?_
      refine lv_iconst (v := 0) (pc := 345) C0.1 C0.2.1 dL_packed_345 (by decide) ?_
      refine lv_iconst (v := 0) (pc := 346) C0.1 C0.2.1 dL_packed_346 (by decide) ?_
      obtain ⟨q46, hq46, hf⟩ := bd_e hf
      obtain ⟨u47, hu, hf⟩ := nm_f hf
      refine z_back0 (pc := 347) hI emb_20 hw hu (z_runV (pc := 347) (aa := ad) (As := [.int 0, .int 0]) (rest := []) C0 hK (emb_P emb_20 (fun j _ => by rw [Nat.zero_add]) (fun j _ => by rw [Nat.zero_add]) hw.1) hl.1 ⟨Nat.le_of_ble_eq_true rfl, Nat.le_of_ble_eq_true rfl⟩ (kX6_ifPacked l D y ad hI0 0 0 e21x.2.2.2 hq46) (by decide) ly_M rfl rfl wc_X6_ifPacked wm_L_88 wi_X6_ifPacked ws_X6_ifPacked wn_X6 ⟨rfl, rfl⟩ hd_X6_ifPacked rfl ⟨Nat.le_of_ble_eq_true rfl, Nat.le_of_ble_eq_true rfl⟩ (Nat.le_of_ble_eq_true rfl) dL_packed_347) (fun H locs hw => ?_)
      refine lv_iload (pc := 350) C0.1 C0.2.1 dL_packed_350 (lv_at hl 1 rfl) ?_
      refine lv_icmp_ne (tgt := 414) (pc := 352) C0.1 C0.2.1 dL_packed_352 (by decide) (fun hc => ?_) (fun hc => ?_)
      · have hf := if_f hf hc
        refine lv_iconst (v := 0) (pc := 414) C0.1 C0.2.1 dL_packed_414 (by decide) ?_
        refine W.widen (k := 2168) (n := 4424) (Nat.le_of_ble_eq_true rfl) (Nat.le_of_ble_eq_true rfl) ?_
        exact z_zretN (pc := 415) emb_20 hnew2 (fun j hj => (hd2 j hj).symm) C0 hK hk hr hw rfl (Option.some.inj hf) dL_packed_415
      · have hf := if_t hf hc
        refine lv_aload_n (pc := 355) C0.1 C0.2.1 dL_packed_355 rfl (lv_at hl 5 rfl) ?_
        refine lv_iconst (v := 0) (pc := 356) C0.1 C0.2.1 dL_packed_356 (by decide) ?_
        refine lv_iconst (v := 1) (pc := 357) C0.1 C0.2.1 dL_packed_357 (by decide) ?_
        obtain ⟨q48, hq48, hf⟩ := bd_e hf
        obtain ⟨u49, hu, hf⟩ := nm_f hf
        refine z_back0 (pc := 358) hI emb_20 hw hu (z_runV (pc := 358) (aa := ad) (As := [.int 0, .int 1]) (rest := []) C0 hK (emb_P emb_20 (fun j _ => by rw [Nat.zero_add]) (fun j _ => by rw [Nat.zero_add]) hw.1) hl.1 ⟨Nat.le_of_ble_eq_true rfl, Nat.le_of_ble_eq_true rfl⟩ (kX6_ifPacked l D y ad hI0 0 1 u47 hq48) (by decide) ly_M rfl rfl wc_X6_ifPacked wm_L_88 wi_X6_ifPacked ws_X6_ifPacked wn_X6 ⟨rfl, rfl⟩ hd_X6_ifPacked rfl ⟨Nat.le_of_ble_eq_true rfl, Nat.le_of_ble_eq_true rfl⟩ (Nat.le_of_ble_eq_true rfl) dL_packed_358) (fun H locs hw => ?_)
        refine lv_aload_n (pc := 361) C0.1 C0.2.1 dL_packed_361 rfl (lv_at hl 3 rfl) ?_
        refine lv_bipush (v := 9) (pc := 362) C0.1 C0.2.1 dL_packed_362 (by decide) ?_
        obtain ⟨q50, hq50, hf⟩ := bd_e hf
        refine z_backp1 (pc := 364) (o := 168) hI emb_21 hw (z_runV (pc := 364) (aa := (fun j => ad (168 + j))) (As := [.int 9]) (rest := [.int q48.1]) C0 hK (emb_P (aa := (fun j => ad (168 + j))) (τ := (shS 168 u49)) emb_21 (fun _ _ => rfl) (fun _ _ => rfl) hw.1) hl.1 ⟨Nat.le_of_ble_eq_true rfl, Nat.le_of_ble_eq_true rfl⟩ (kX6_count l D y (fun j => ad (168 + j)) hI2 9 (shS 168 u49) hq50) (by decide) ly_M rfl rfl wc_X6_count wm_L_37 wi_X6_count ws_X6_count wn_X6 ⟨rfl, rfl⟩ hd_X6_count rfl ⟨Nat.le_of_ble_eq_true rfl, Nat.le_of_ble_eq_true rfl⟩ (Nat.le_of_ble_eq_true rfl) dL_packed_364) (fun H locs hw => ?_)
        refine lv_icmp_ne (tgt := 414) (pc := 367) C0.1 C0.2.1 dL_packed_367 (by decide) (fun hc => ?_) (fun hc => ?_)
        · have hf := if_f hf hc
          refine lv_iconst (v := 0) (pc := 414) C0.1 C0.2.1 dL_packed_414 (by decide) ?_
          refine W.widen (k := 2168) (n := 4424) (Nat.le_of_ble_eq_true rfl) (Nat.le_of_ble_eq_true rfl) ?_
          exact z_zretN (pc := 415) emb_20 hnew2 (fun j hj => (hd2 j hj).symm) C0 hK hk hr hw rfl (Option.some.inj hf) dL_packed_415
        · have hf := if_t hf hc
          refine lv_aload_n (pc := 370) C0.1 C0.2.1 dL_packed_370 rfl (lv_at hl 5 rfl) ?_
          refine lv_iconst (v := 0) (pc := 371) C0.1 C0.2.1 dL_packed_371 (by decide) ?_
          refine lv_iconst (v := 2) (pc := 372) C0.1 C0.2.1 dL_packed_372 (by decide) ?_
          obtain ⟨q51, hq51, hf⟩ := bd_e hf
          obtain ⟨u52, hu, hf⟩ := nm_f hf
          refine z_back0 (pc := 373) hI emb_20 hw hu (z_runV (pc := 373) (aa := ad) (As := [.int 0, .int 2]) (rest := []) C0 hK (emb_P emb_20 (fun j _ => by rw [Nat.zero_add]) (fun j _ => by rw [Nat.zero_add]) hw.1) hl.1 ⟨Nat.le_of_ble_eq_true rfl, Nat.le_of_ble_eq_true rfl⟩ (kX6_ifPacked l D y ad hI0 0 2 u49 hq51) (by decide) ly_M rfl rfl wc_X6_ifPacked wm_L_88 wi_X6_ifPacked ws_X6_ifPacked wn_X6 ⟨rfl, rfl⟩ hd_X6_ifPacked rfl ⟨Nat.le_of_ble_eq_true rfl, Nat.le_of_ble_eq_true rfl⟩ (Nat.le_of_ble_eq_true rfl) dL_packed_373) (fun H locs hw => ?_)
          refine lv_aload_n (pc := 376) C0.1 C0.2.1 dL_packed_376 rfl (lv_at hl 3 rfl) ?_
          refine lv_bipush (v := 7) (pc := 377) C0.1 C0.2.1 dL_packed_377 (by decide) ?_
          obtain ⟨q53, hq53, hf⟩ := bd_e hf
          refine z_backp1 (pc := 379) (o := 168) hI emb_21 hw (z_runV (pc := 379) (aa := (fun j => ad (168 + j))) (As := [.int 7]) (rest := [.int q51.1]) C0 hK (emb_P (aa := (fun j => ad (168 + j))) (τ := (shS 168 u52)) emb_21 (fun _ _ => rfl) (fun _ _ => rfl) hw.1) hl.1 ⟨Nat.le_of_ble_eq_true rfl, Nat.le_of_ble_eq_true rfl⟩ (kX6_count l D y (fun j => ad (168 + j)) hI2 7 (shS 168 u52) hq53) (by decide) ly_M rfl rfl wc_X6_count wm_L_37 wi_X6_count ws_X6_count wn_X6 ⟨rfl, rfl⟩ hd_X6_count rfl ⟨Nat.le_of_ble_eq_true rfl, Nat.le_of_ble_eq_true rfl⟩ (Nat.le_of_ble_eq_true rfl) dL_packed_379) (fun H locs hw => ?_)
          refine lv_icmp_ne (tgt := 414) (pc := 382) C0.1 C0.2.1 dL_packed_382 (by decide) (fun hc => ?_) (fun hc => ?_)
          · have hf := if_f hf hc
            refine lv_iconst (v := 0) (pc := 414) C0.1 C0.2.1 dL_packed_414 (by decide) ?_
            refine W.widen (k := 2168) (n := 4424) (Nat.le_of_ble_eq_true rfl) (Nat.le_of_ble_eq_true rfl) ?_
            exact z_zretN (pc := 415) emb_20 hnew2 (fun j hj => (hd2 j hj).symm) C0 hK hk hr hw rfl (Option.some.inj hf) dL_packed_415
          · have hf := if_t hf hc
            refine lv_aload_n (pc := 385) C0.1 C0.2.1 dL_packed_385 rfl (lv_at hl 5 rfl) ?_
            refine lv_iconst (v := 0) (pc := 386) C0.1 C0.2.1 dL_packed_386 (by decide) ?_
            refine lv_iconst (v := 3) (pc := 387) C0.1 C0.2.1 dL_packed_387 (by decide) ?_
            obtain ⟨q54, hq54, hf⟩ := bd_e hf
            obtain ⟨u55, hu, hf⟩ := nm_f hf
            refine z_back0 (pc := 388) hI emb_20 hw hu (z_runV (pc := 388) (aa := ad) (As := [.int 0, .int 3]) (rest := []) C0 hK (emb_P emb_20 (fun j _ => by rw [Nat.zero_add]) (fun j _ => by rw [Nat.zero_add]) hw.1) hl.1 ⟨Nat.le_of_ble_eq_true rfl, Nat.le_of_ble_eq_true rfl⟩ (kX6_ifPacked l D y ad hI0 0 3 u52 hq54) (by decide) ly_M rfl rfl wc_X6_ifPacked wm_L_88 wi_X6_ifPacked ws_X6_ifPacked wn_X6 ⟨rfl, rfl⟩ hd_X6_ifPacked rfl ⟨Nat.le_of_ble_eq_true rfl, Nat.le_of_ble_eq_true rfl⟩ (Nat.le_of_ble_eq_true rfl) dL_packed_388) (fun H locs hw => ?_)
            refine lv_aload_n (pc := 391) C0.1 C0.2.1 dL_packed_391 rfl (lv_at hl 3 rfl) ?_
            refine lv_bipush (v := 8) (pc := 392) C0.1 C0.2.1 dL_packed_392 (by decide) ?_
            obtain ⟨q56, hq56, hf⟩ := bd_e hf
            refine z_backp1 (pc := 394) (o := 168) hI emb_21 hw (z_runV (pc := 394) (aa := (fun j => ad (168 + j))) (As := [.int 8]) (rest := [.int q54.1]) C0 hK (emb_P (aa := (fun j => ad (168 + j))) (τ := (shS 168 u55)) emb_21 (fun _ _ => rfl) (fun _ _ => rfl) hw.1) hl.1 ⟨Nat.le_of_ble_eq_true rfl, Nat.le_of_ble_eq_true rfl⟩ (kX6_count l D y (fun j => ad (168 + j)) hI2 8 (shS 168 u55) hq56) (by decide) ly_M rfl rfl wc_X6_count wm_L_37 wi_X6_count ws_X6_count wn_X6 ⟨rfl, rfl⟩ hd_X6_count rfl ⟨Nat.le_of_ble_eq_true rfl, Nat.le_of_ble_eq_true rfl⟩ (Nat.le_of_ble_eq_true rfl) dL_packed_394) (fun H locs hw => ?_)
            refine lv_icmp_ne (tgt := 414) (pc := 397) C0.1 C0.2.1 dL_packed_397 (by decide) (fun hc => ?_) (fun hc => ?_)
            · have hf := if_f hf hc
              refine lv_iconst (v := 0) (pc := 414) C0.1 C0.2.1 dL_packed_414 (by decide) ?_
              refine W.widen (k := 2168) (n := 4424) (Nat.le_of_ble_eq_true rfl) (Nat.le_of_ble_eq_true rfl) ?_
              exact z_zretN (pc := 415) emb_20 hnew2 (fun j hj => (hd2 j hj).symm) C0 hK hk hr hw rfl (Option.some.inj hf) dL_packed_415
            · have hf := if_t hf hc
              refine lv_aload_n (pc := 400) C0.1 C0.2.1 dL_packed_400 rfl (lv_at hl 5 rfl) ?_
              refine lv_iconst (v := 0) (pc := 401) C0.1 C0.2.1 dL_packed_401 (by decide) ?_
              refine lv_bipush (v := 10) (pc := 402) C0.1 C0.2.1 dL_packed_402 (by decide) ?_
              refine lv_iload_n (pc := 404) C0.1 C0.2.1 dL_packed_404 rfl (lv_at hl 4 rfl) ?_
              refine lv_iadd (pc := 405) C0.1 C0.2.1 dL_packed_405 ?_
              obtain ⟨q57, hq57, hf⟩ := bd_e hf
              obtain ⟨u58, hu, hf⟩ := nm_f hf
              refine z_back0 (pc := 406) hI emb_20 hw hu (z_runV (pc := 406) (aa := ad) (As := [.int 0, .int (10 + q1)]) (rest := []) C0 hK (emb_P emb_20 (fun j _ => by rw [Nat.zero_add]) (fun j _ => by rw [Nat.zero_add]) hw.1) hl.1 ⟨Nat.le_of_ble_eq_true rfl, Nat.le_of_ble_eq_true rfl⟩ (kX6_ifPacked l D y ad hI0 0 (10 + q1) u55 hq57) (by decide) ly_M rfl rfl wc_X6_ifPacked wm_L_88 wi_X6_ifPacked ws_X6_ifPacked wn_X6 ⟨rfl, rfl⟩ hd_X6_ifPacked rfl ⟨Nat.le_of_ble_eq_true rfl, Nat.le_of_ble_eq_true rfl⟩ (Nat.le_of_ble_eq_true rfl) dL_packed_406) (fun H locs hw => ?_)
              refine lv_bipush (v := (-9)) (pc := 409) C0.1 C0.2.1 dL_packed_409 (by decide) ?_
              refine lv_icmp_eq (tgt := 416) (pc := 411) C0.1 C0.2.1 dL_packed_411 (by decide) (fun hc => ?_) (fun hc => ?_)
              · have hf := if_t hf hc
                refine lv_aload_n (pc := 416) C0.1 C0.2.1 dL_packed_416 rfl (lv_at hl 5 rfl) ?_
                obtain ⟨q59, hq59, hf⟩ := bd_e hf
                obtain ⟨u60, hu, hf⟩ := nm_f hf
                refine z_back0 (pc := 417) hI emb_20 hw hu (z_runV (pc := 417) (aa := ad) (As := []) (rest := []) C0 hK (emb_P emb_20 (fun j _ => by rw [Nat.zero_add]) (fun j _ => by rw [Nat.zero_add]) hw.1) hl.1 ⟨Nat.le_of_ble_eq_true rfl, Nat.le_of_ble_eq_true rfl⟩ (kX6_pack l D y ad hI0  u58 hq59) (by decide) ly_M rfl rfl wc_X6_pack wm_L_92 wi_X6_pack ws_X6_pack wn_X6 ⟨rfl, rfl⟩ hd_X6_pack rfl ⟨Nat.le_of_ble_eq_true rfl, Nat.le_of_ble_eq_true rfl⟩ (Nat.le_of_ble_eq_true rfl) dL_packed_417) (fun H locs hw => ?_)
                refine lv_iload (pc := 420) C0.1 C0.2.1 dL_packed_420 (lv_at hl 1 rfl) ?_
                refine lv_icmp_eq (tgt := 427) (pc := 422) C0.1 C0.2.1 dL_packed_422 (by decide) (fun hc => ?_) (fun hc => ?_)
                · have hf := if_t hf hc
                  refine lv_iconst (v := 0) (pc := 427) C0.1 C0.2.1 dL_packed_427 (by decide) ?_
                  refine lv_istore (pc := 428) (lv' := [(5, .int 0), (4, .int e21x.2.1), (3, .int e21x.1), (2, .ref (ad 335)), (1, .int q1), (0, .ref (ad 167))]) C0.1 C0.2.1 dL_packed_428 hl (by decide) rfl (fun ls hl => ?_)
                  obtain ⟨e61, he61, hf⟩ := bd_e hf
                  refine X_loopR (pc := 430) (xpc := 479) (fu := fun a1 => u60) (fl := fun a1 => [(5, .int a1), (4, .int e21x.2.1), (3, .int e21x.1), (2, .ref (ad 335)), (1, .int q1), (0, .ref (ad 167))]) (o := o) (fun a1 r hf hX hE hG H locs ls hw hl => ?_) he61 ?_ ?_ hw hl
                  · unfold gL_packed_430 at hf
                    refine lv_iload (pc := 430) C0.1 C0.2.1 dL_packed_430 (lv_at hl 0 rfl) ?_
                    refine lv_iload_n (pc := 432) C0.1 C0.2.1 dL_packed_432 rfl (lv_at hl 4 rfl) ?_
                    refine lv_icmp_ge (tgt := 479) (pc := 433) C0.1 C0.2.1 dL_packed_433 (by decide) (fun hc => ?_) (fun hc => ?_)
                    · have hf := if_t hf hc
                      exact hE _ (Option.some.inj hf).symm H locs ls hw (lv_sub hl [0, 1, 2, 3, 4, 5] rfl)
                    · have hf := if_f hf hc
                      refine lv_iconst (v := 5) (pc := 436) C0.1 C0.2.1 dL_packed_436 (by decide) ?_
                      refine lv_istore (pc := 437) (lv' := [(6, .int 5), (5, .int a1), (4, .int e21x.2.1), (3, .int e21x.1), (2, .ref (ad 335)), (1, .int q1), (0, .ref (ad 167))]) C0.1 C0.2.1 dL_packed_437 hl (by decide) rfl (fun ls hl => ?_)
                      obtain ⟨e62, he62, hf⟩ := bd_e hf
                      refine X_loopR (pc := 439) (xpc := 473) (fu := fun a2 => u60) (fl := fun a2 => [(6, .int a2), (5, .int a1), (4, .int e21x.2.1), (3, .int e21x.1), (2, .ref (ad 335)), (1, .int q1), (0, .ref (ad 167))]) (o := o) (fun a2 r hf hX hE hG H locs ls hw hl => ?_) he62 ?_ ?_ hw hl
                      · unfold gL_packed_439 at hf
                        refine lv_iload (pc := 439) C0.1 C0.2.1 dL_packed_439 (lv_at hl 0 rfl) ?_
                        refine lv_bipush (v := 11) (pc := 441) C0.1 C0.2.1 dL_packed_441 (by decide) ?_
                        refine lv_icmp_ge (tgt := 473) (pc := 443) C0.1 C0.2.1 dL_packed_443 (by decide) (fun hc => ?_) (fun hc => ?_)
                        · have hf := if_t hf hc
                          exact hE _ (Option.some.inj hf).symm H locs ls hw (lv_sub hl [0, 1, 2, 3, 4, 5, 6] rfl)
                        · have hf := if_f hf hc
                          refine lv_aload_n (pc := 446) C0.1 C0.2.1 dL_packed_446 rfl (lv_at hl 6 rfl) ?_
                          refine lv_iload (pc := 447) C0.1 C0.2.1 dL_packed_447 (lv_at hl 1 rfl) ?_
                          refine lv_iload (pc := 449) C0.1 C0.2.1 dL_packed_449 (lv_at hl 0 rfl) ?_
                          obtain ⟨q63, hq63, hf⟩ := bd_e hf
                          refine z_backp0 (pc := 451) hI emb_20 hw (z_runV (pc := 451) (aa := ad) (As := [.int a1, .int a2]) (rest := []) C0 hK (emb_P emb_20 (fun j _ => by rw [Nat.zero_add]) (fun j _ => by rw [Nat.zero_add]) hw.1) hl.1 ⟨Nat.le_of_ble_eq_true rfl, Nat.le_of_ble_eq_true rfl⟩ (kX6_tray l D y ad hI0 a1 a2 u60 hq63) (by decide) ly_M rfl rfl wc_X6_tray wm_L_40 wi_X6_tray ws_X6_tray wn_X6 ⟨rfl, rfl⟩ hd_X6_tray rfl ⟨Nat.le_of_ble_eq_true rfl, Nat.le_of_ble_eq_true rfl⟩ (Nat.le_of_ble_eq_true rfl) dL_packed_451) (fun H locs hw => ?_)
                          refine lv_aload_n (pc := 454) C0.1 C0.2.1 dL_packed_454 rfl (lv_at hl 4 rfl) ?_
                          refine lv_iload (pc := 455) C0.1 C0.2.1 dL_packed_455 (lv_at hl 1 rfl) ?_
                          refine lv_iload (pc := 457) C0.1 C0.2.1 dL_packed_457 (lv_at hl 0 rfl) ?_
                          obtain ⟨q64, hq64, hf⟩ := bd_e hf
                          refine z_backp1 (pc := 459) (o := 168) hI emb_21 hw (z_runV (pc := 459) (aa := (fun j => ad (168 + j))) (As := [.int a1, .int a2]) (rest := [.int q63]) C0 hK (emb_P (aa := (fun j => ad (168 + j))) (τ := (shS 168 u60)) emb_21 (fun _ _ => rfl) (fun _ _ => rfl) hw.1) hl.1 ⟨Nat.le_of_ble_eq_true rfl, Nat.le_of_ble_eq_true rfl⟩ (kX6_tray l D y (fun j => ad (168 + j)) hI2 a1 a2 (shS 168 u60) hq64) (by decide) ly_M rfl rfl wc_X6_tray wm_L_40 wi_X6_tray ws_X6_tray wn_X6 ⟨rfl, rfl⟩ hd_X6_tray rfl ⟨Nat.le_of_ble_eq_true rfl, Nat.le_of_ble_eq_true rfl⟩ (Nat.le_of_ble_eq_true rfl) dL_packed_459) (fun H locs hw => ?_)
                          refine lv_icmp_eq (tgt := 467) (pc := 462) C0.1 C0.2.1 dL_packed_462 (by decide) (fun hc => ?_) (fun hc => ?_)
                          · have hf := if_t hf hc
                            refine lv_iinc (pc := 467) (v := a2 + 1) (lv' := [(6, .int (a2 + 1)), (5, .int a1), (4, .int e21x.2.1), (3, .int e21x.1), (2, .ref (ad 335)), (1, .int q1), (0, .ref (ad 167))]) C0.1 C0.2.1 dL_packed_467 hl (k := 0) rfl rfl (by decide) rfl (fun ls hl => ?_)
                            refine lv_goto (tgt := 439) (pc := 470) C0.1 C0.2.1 dL_packed_470 (by decide) ?_
                            exact hG _ (Option.some.inj hf).symm H locs ls hw (lv_sub hl [0, 1, 2, 3, 4, 5, 6] rfl)
                          · have hf := if_f hf hc
                            refine lv_iconst (v := 0) (pc := 465) C0.1 C0.2.1 dL_packed_465 (by decide) ?_
                            refine W.widen (k := 2168) (n := 4424) (Nat.le_of_ble_eq_true rfl) (Nat.le_of_ble_eq_true rfl) ?_
                            exact z_zretN (pc := 466) emb_20 hnew2 (fun j hj => (hd2 j hj).symm) C0 hK hk hr hw rfl (hX _ (Option.some.inj hf).symm) dL_packed_466
                      · intro x hx
                        subst hx
                        exact hX _ (Option.some.inj hf).symm
                      · intro e62x he H locs ls hw hl
                        subst he
                        have hf := sum_r hf
                        refine lv_iinc (pc := 473) (v := a1 + 1) (lv' := [(5, .int (a1 + 1)), (6, .int e62x), (4, .int e21x.2.1), (3, .int e21x.1), (2, .ref (ad 335)), (1, .int q1), (0, .ref (ad 167))]) C0.1 C0.2.1 dL_packed_473 hl (k := 1) rfl rfl (by decide) rfl (fun ls hl => ?_)
                        refine lv_goto (tgt := 430) (pc := 476) C0.1 C0.2.1 dL_packed_476 (by decide) ?_
                        exact hG _ (Option.some.inj hf).symm H locs ls hw (lv_sub hl [0, 2, 3, 4, 5, 6] rfl)
                  · intro x hx
                    subst hx
                    exact Option.some.inj hf
                  · intro e61x he H locs ls hw hl
                    subst he
                    have hf := sum_r hf
                    refine lv_iconst (v := 1) (pc := 479) C0.1 C0.2.1 dL_packed_479 (by decide) ?_
                    refine W.widen (k := 2168) (n := 4424) (Nat.le_of_ble_eq_true rfl) (Nat.le_of_ble_eq_true rfl) ?_
                    exact z_zretN (pc := 480) emb_20 hnew2 (fun j hj => (hd2 j hj).symm) C0 hK hk hr hw rfl (Option.some.inj hf) dL_packed_480
                · have hf := if_f hf hc
                  refine lv_iconst (v := 0) (pc := 425) C0.1 C0.2.1 dL_packed_425 (by decide) ?_
                  refine W.widen (k := 2168) (n := 4424) (Nat.le_of_ble_eq_true rfl) (Nat.le_of_ble_eq_true rfl) ?_
                  exact z_zretN (pc := 426) emb_20 hnew2 (fun j hj => (hd2 j hj).symm) C0 hK hk hr hw rfl (Option.some.inj hf) dL_packed_426
              · have hf := if_f hf hc
                refine lv_iconst (v := 0) (pc := 414) C0.1 C0.2.1 dL_packed_414 (by decide) ?_
                refine W.widen (k := 2168) (n := 4424) (Nat.le_of_ble_eq_true rfl) (Nat.le_of_ble_eq_true rfl) ?_
                exact z_zretN (pc := 415) emb_20 hnew2 (fun j hj => (hd2 j hj).symm) C0 hK hk hr hw rfl (Option.some.inj hf) dL_packed_415
