def wL_told : List Cond := .code yL_told cL_told 15 (some .boolean) :: lwT
def rL_told : Room := { frames := 8, cells := 1, slots := 12, locals := 183 }
set_option maxRecDepth 100000 in
set_option maxHeartbeats 4000000 in
theorem kL_told (l : Launch) (D : va_G) (y : Nat → ClassId) (ad : Nat → Nat) (hI : XI ad 168)  (u : S) {o : Int32 × S} (hf : fL_told  u = some o) : Met l yL_told wL_told rL_told (va_Pc [.ref (ad 167)] (XW D y ad LX 168 u)) (XQi D y ad LX 168 o) 1 12 (XA ad 168) := by
  refine z_met (bytes := cL_told) (maxL := 15) (ret := (some .boolean)) (own := RL) (by decide) rfl rfl (Nat.le_of_ble_eq_true rfl) (fun p e s m below meth c ls C0 hK hk hr hw hl => ?_)
  have hl : lv_has ls 15 [(0, .ref (ad 167))] := hl
  unfold fL_told at hf
  refine lv_aload_n (pc := 0) C0.1 C0.2.1 dL_told_0 rfl (lv_at hl 0 rfl) ?_
  refine lv_iconst (v := 4) (pc := 1) C0.1 C0.2.1 dL_told_1 (by decide) ?_
  obtain ⟨q1, hq1, hf⟩ := bd_e hf
  refine x_backp (pc := 2) hw (x_runV (pc := 2) (As := [.int 4]) (rest := []) C0 hK hw hl.1 ⟨Nat.zero_le _, Nat.zero_le _⟩ (kX6_count l D y ad hI 4 u hq1) (by decide) ly_M rfl rfl wc_X6_count wm_L_37 wi_X6_count ws_X6_count wn_X6 ⟨rfl, rfl⟩ hd_X6_count rfl ⟨Nat.le_of_ble_eq_true rfl, Nat.le_of_ble_eq_true rfl⟩ (Nat.le_of_ble_eq_true rfl) dL_told_2) (fun H locs hw => ?_)
  refine lv_istore_n (pc := 5) (lv' := [(1, .int q1), (0, .ref (ad 167))]) C0.1 C0.2.1 dL_told_5 rfl hl (by decide) rfl (fun ls hl => ?_)
  refine lv_bipush (v := 12) (pc := 6) C0.1 C0.2.1 dL_told_6 (by decide) ?_
  obtain ⟨u2, hu, hf⟩ := nm_f hf
  refine z_new (pc := 8) (LZ := LZ1 12) (K := 12) C0 hK wa_int hI hw Lok_X (fun j hj => by simp [LZ1, hj]) rfl hu (by decide) rfl (by decide) (Nat.le_of_ble_eq_true rfl) (Nat.le_of_ble_eq_true rfl) dL_told_8 (fun ad H hd hnew hI hw => ?_)
  rw [← hd 167 (by decide)] at hl
  have hI0 : XI ad 168 := emb_I (o := 0) (by decide) (fun j _ => by rw [Nat.zero_add]) hI
  refine lv_astore_n (pc := 10) (lv' := [(2, .ref (ad 168)), (1, .int q1), (0, .ref (ad 167))]) C0.1 C0.2.1 dL_told_10 rfl hl (by decide) rfl (fun ls hl => ?_)
  refine lv_iconst (v := 0) (pc := 11) C0.1 C0.2.1 dL_told_11 (by decide) ?_
  refine lv_istore_n (pc := 12) (lv' := [(3, .int 0), (2, .ref (ad 168)), (1, .int q1), (0, .ref (ad 167))]) C0.1 C0.2.1 dL_told_12 rfl hl (by decide) rfl (fun ls hl => ?_)
  refine lv_iconst (v := 0) (pc := 13) C0.1 C0.2.1 dL_told_13 (by decide) ?_
  refine lv_istore (pc := 14) (lv' := [(4, .int 0), (3, .int 0), (2, .ref (ad 168)), (1, .int q1), (0, .ref (ad 167))]) C0.1 C0.2.1 dL_told_14 hl (by decide) rfl (fun ls hl => ?_)
  refine lv_iconst (v := 0) (pc := 16) C0.1 C0.2.1 dL_told_16 (by decide) ?_
  refine lv_istore (pc := 17) (lv' := [(5, .int 0), (4, .int 0), (3, .int 0), (2, .ref (ad 168)), (1, .int q1), (0, .ref (ad 167))]) C0.1 C0.2.1 dL_told_17 hl (by decide) rfl (fun ls hl => ?_)
  refine lv_iconst (v := 0) (pc := 19) C0.1 C0.2.1 dL_told_19 (by decide) ?_
  refine lv_istore (pc := 20) (lv' := [(6, .int 0), (5, .int 0), (4, .int 0), (3, .int 0), (2, .ref (ad 168)), (1, .int q1), (0, .ref (ad 167))]) C0.1 C0.2.1 dL_told_20 hl (by decide) rfl (fun ls hl => ?_)
  obtain ⟨e3, he3, hf⟩ := bd_e hf
  refine X_loopR (pc := 22) (xpc := 356) (fu := fun a1 => a1.2.2.2) (fl := fun a1 => [(6, .int a1.2.2.1), (5, .int a1.2.1), (4, .int 0), (3, .int a1.1), (2, .ref (ad 168)), (1, .int q1), (0, .ref (ad 167))]) (o := o) (fun a1 r hf hX hE hG H locs ls hw hl => ?_) he3 ?_ ?_ hw hl
  · unfold gL_told_22 at hf
    refine lv_iload (pc := 22) C0.1 C0.2.1 dL_told_22 (lv_at hl 0 rfl) ?_
    refine lv_aload_n (pc := 24) C0.1 C0.2.1 dL_told_24 rfl (lv_at hl 6 rfl) ?_
    refine lv_iconst (v := 0) (pc := 25) C0.1 C0.2.1 dL_told_25 (by decide) ?_
    obtain ⟨q4, hq4, hf⟩ := bd_e hf
    refine z_backp0 (pc := 26) hI emb_1 hw (z_runV (pc := 26) (aa := ad) (As := [.int 0]) (rest := [.int a1.2.2.1]) C0 hK (emb_P emb_1 (fun j _ => by rw [Nat.zero_add]) (fun j _ => by rw [Nat.zero_add]) hw.1) hl.1 ⟨Nat.le_of_ble_eq_true rfl, Nat.le_of_ble_eq_true rfl⟩ (kX6_count l D y ad hI0 0 a1.2.2.2 hq4) (by decide) ly_M rfl rfl wc_X6_count wm_L_37 wi_X6_count ws_X6_count wn_X6 ⟨rfl, rfl⟩ hd_X6_count rfl ⟨Nat.le_of_ble_eq_true rfl, Nat.le_of_ble_eq_true rfl⟩ (Nat.le_of_ble_eq_true rfl) dL_told_26) (fun H locs hw => ?_)
    refine lv_icmp_ge (tgt := 356) (pc := 29) C0.1 C0.2.1 dL_told_29 (by decide) (fun hc => ?_) (fun hc => ?_)
    · have hf := if_t hf hc
      exact hE _ (Option.some.inj hf).symm H locs ls hw (lv_sub hl [0, 1, 2, 3, 4, 5, 6] rfl)
    · have hf := if_f hf hc
      refine lv_iconst (v := 0) (pc := 32) C0.1 C0.2.1 dL_told_32 (by decide) ?_
      refine lv_istore (pc := 33) (lv' := [(7, .int 0), (6, .int a1.2.2.1), (5, .int a1.2.1), (4, .int 0), (3, .int a1.1), (2, .ref (ad 168)), (1, .int q1), (0, .ref (ad 167))]) C0.1 C0.2.1 dL_told_33 hl (by decide) rfl (fun ls hl => ?_)
      obtain ⟨e5, he5, hf⟩ := bd_e hf
      refine X_loopR (pc := 35) (xpc := 350) (fu := fun a2 => a2.2.2.2) (fl := fun a2 => [(7, .int a2.2.2.1), (6, .int a1.2.2.1), (5, .int a2.2.1), (4, .int 0), (3, .int a2.1), (2, .ref (ad 168)), (1, .int q1), (0, .ref (ad 167))]) (o := o) (fun a2 r hf hX hE hG H locs ls hw hl => ?_) he5 ?_ ?_ hw hl
      · unfold gL_told_35 at hf
        refine lv_iload (pc := 35) C0.1 C0.2.1 dL_told_35 (lv_at hl 0 rfl) ?_
        refine lv_aload_n (pc := 37) C0.1 C0.2.1 dL_told_37 rfl (lv_at hl 7 rfl) ?_
        refine lv_iconst (v := 1) (pc := 38) C0.1 C0.2.1 dL_told_38 (by decide) ?_
        obtain ⟨q6, hq6, hf⟩ := bd_e hf
        refine z_backp0 (pc := 39) hI emb_1 hw (z_runV (pc := 39) (aa := ad) (As := [.int 1]) (rest := [.int a2.2.2.1]) C0 hK (emb_P emb_1 (fun j _ => by rw [Nat.zero_add]) (fun j _ => by rw [Nat.zero_add]) hw.1) hl.1 ⟨Nat.le_of_ble_eq_true rfl, Nat.le_of_ble_eq_true rfl⟩ (kX6_count l D y ad hI0 1 a2.2.2.2 hq6) (by decide) ly_M rfl rfl wc_X6_count wm_L_37 wi_X6_count ws_X6_count wn_X6 ⟨rfl, rfl⟩ hd_X6_count rfl ⟨Nat.le_of_ble_eq_true rfl, Nat.le_of_ble_eq_true rfl⟩ (Nat.le_of_ble_eq_true rfl) dL_told_39) (fun H locs hw => ?_)
        refine lv_icmp_ge (tgt := 350) (pc := 42) C0.1 C0.2.1 dL_told_42 (by decide) (fun hc => ?_) (fun hc => ?_)
        · have hf := if_t hf hc
          exact hE _ (Option.some.inj hf).symm H locs ls hw (lv_sub hl [0, 1, 2, 3, 4, 5, 6, 7] rfl)
        · have hf := if_f hf hc
          refine lv_iconst (v := 0) (pc := 45) C0.1 C0.2.1 dL_told_45 (by decide) ?_
          refine lv_istore (pc := 46) (lv' := [(8, .int 0), (7, .int a2.2.2.1), (6, .int a1.2.2.1), (5, .int a2.2.1), (4, .int 0), (3, .int a2.1), (2, .ref (ad 168)), (1, .int q1), (0, .ref (ad 167))]) C0.1 C0.2.1 dL_told_46 hl (by decide) rfl (fun ls hl => ?_)
          refine lv_bipush (v := (-9)) (pc := 48) C0.1 C0.2.1 dL_told_48 (by decide) ?_
          refine lv_istore (pc := 50) (lv' := [(9, .int (-9)), (8, .int 0), (7, .int a2.2.2.1), (6, .int a1.2.2.1), (5, .int a2.2.1), (4, .int 0), (3, .int a2.1), (2, .ref (ad 168)), (1, .int q1), (0, .ref (ad 167))]) C0.1 C0.2.1 dL_told_50 hl (by decide) rfl (fun ls hl => ?_)
          refine lv_iconst (v := 0) (pc := 52) C0.1 C0.2.1 dL_told_52 (by decide) ?_
          refine lv_istore (pc := 53) (lv' := [(10, .int 0), (9, .int (-9)), (8, .int 0), (7, .int a2.2.2.1), (6, .int a1.2.2.1), (5, .int a2.2.1), (4, .int 0), (3, .int a2.1), (2, .ref (ad 168)), (1, .int q1), (0, .ref (ad 167))]) C0.1 C0.2.1 dL_told_53 hl (by decide) rfl (fun ls hl => ?_)
          obtain ⟨e7, he7, hf⟩ := bd_e hf
          refine X_loopR (pc := 55) (xpc := 301) (fu := fun a3 => a3.2.2.2.2) (fl := fun a3 => [(10, .int a3.2.2.2.1), (9, .int a3.2.2.1), (8, .int a3.2.1), (7, .int a2.2.2.1), (6, .int a1.2.2.1), (5, .int a3.1), (4, .int 0), (3, .int a2.1), (2, .ref (ad 168)), (1, .int q1), (0, .ref (ad 167))]) (o := o) (fun a3 r hf hX hE hG H locs ls hw hl => ?_) he7 ?_ ?_ hw hl
          · unfold gL_told_55 at hf
            refine lv_iload (pc := 55) C0.1 C0.2.1 dL_told_55 (lv_at hl 0 rfl) ?_
            refine lv_iload_n (pc := 57) C0.1 C0.2.1 dL_told_57 rfl (lv_at hl 9 rfl) ?_
            refine lv_icmp_ge (tgt := 301) (pc := 58) C0.1 C0.2.1 dL_told_58 (by decide) (fun hc => ?_) (fun hc => ?_)
            · have hf := if_t hf hc
              exact hE _ (Option.some.inj hf).symm H locs ls hw (lv_sub hl [0, 1, 2, 3, 4, 5, 6, 7, 8, 9, 10] rfl)
            · have hf := if_f hf hc
              refine lv_aload_n (pc := 61) C0.1 C0.2.1 dL_told_61 rfl (lv_at hl 10 rfl) ?_
              refine lv_iload (pc := 62) C0.1 C0.2.1 dL_told_62 (lv_at hl 0 rfl) ?_
              refine lv_iload (pc := 64) C0.1 C0.2.1 dL_told_64 (lv_at hl 4 rfl) ?_
              refine lv_iload (pc := 66) C0.1 C0.2.1 dL_told_66 (lv_at hl 3 rfl) ?_
              obtain ⟨q8, hq8, hf⟩ := bd_e hf
              refine z_backp0 (pc := 68) hI emb_1 hw (z_runS (pc := 68) (aa := ad) (As := [.ref (ad 167), .int a3.2.2.2.1, .int a1.2.2.1, .int a2.2.2.1]) (rest := []) C0 hK (emb_P emb_1 (fun j _ => by rw [Nat.zero_add]) (fun j _ => by rw [Nat.zero_add]) hw.1) hl.1 ⟨Nat.le_of_ble_eq_true rfl, Nat.le_of_ble_eq_true rfl⟩ (kL_covers l D y ad hI0 a3.2.2.2.1 a1.2.2.1 a2.2.2.1 a3.2.2.2.2 hq8) rfl wc_L_covers wm_L_59 wt_L_covers wn_L ⟨rfl, rfl⟩ hd_L_covers rfl ⟨Nat.le_of_ble_eq_true rfl, Nat.le_of_ble_eq_true rfl⟩ (Nat.le_of_ble_eq_true rfl) dL_told_68) (fun H locs hw => ?_)
              refine lv_if_eq (tgt := 295) (pc := 71) C0.1 C0.2.1 dL_told_71 (by decide) (fun hc => ?_) (fun hc => ?_)
              · have hf := if_t hf hc
                refine lv_iinc (pc := 295) (v := a3.2.2.2.1 + 1) (lv' := [(10, .int (a3.2.2.2.1 + 1)), (9, .int a3.2.2.1), (8, .int a3.2.1), (7, .int a2.2.2.1), (6, .int a1.2.2.1), (5, .int a3.1), (4, .int 0), (3, .int a2.1), (2, .ref (ad 168)), (1, .int q1), (0, .ref (ad 167))]) C0.1 C0.2.1 dL_told_295 hl (k := 0) rfl rfl (by decide) rfl (fun ls hl => ?_)
                refine lv_goto (tgt := 55) (pc := 298) C0.1 C0.2.1 dL_told_298 (by decide) ?_
                exact hG _ (Option.some.inj hf).symm H locs ls hw (lv_sub hl [0, 1, 2, 3, 4, 5, 6, 7, 8, 9, 10] rfl)
              · have hf := if_f hf hc
                refine lv_aload_n (pc := 74) C0.1 C0.2.1 dL_told_74 rfl (lv_at hl 10 rfl) ?_
                refine lv_iload (pc := 75) C0.1 C0.2.1 dL_told_75 (lv_at hl 0 rfl) ?_
                refine lv_bipush (v := 10) (pc := 77) C0.1 C0.2.1 dL_told_77 (by decide) ?_
                obtain ⟨q9, hq9, hf⟩ := bd_e hf
                refine z_backp0 (pc := 79) hI emb_1 hw (z_runV (pc := 79) (aa := ad) (As := [.int a3.2.2.2.1, .int 10]) (rest := []) C0 hK (emb_P emb_1 (fun j _ => by rw [Nat.zero_add]) (fun j _ => by rw [Nat.zero_add]) hw.1) hl.1 ⟨Nat.le_of_ble_eq_true rfl, Nat.le_of_ble_eq_true rfl⟩ (kX6_tray l D y ad hI0 a3.2.2.2.1 10 a3.2.2.2.2 hq9) (by decide) ly_M rfl rfl wc_X6_tray wm_L_40 wi_X6_tray ws_X6_tray wn_X6 ⟨rfl, rfl⟩ hd_X6_tray rfl ⟨Nat.le_of_ble_eq_true rfl, Nat.le_of_ble_eq_true rfl⟩ (Nat.le_of_ble_eq_true rfl) dL_told_79) (fun H locs hw => ?_)
                refine lv_iload (pc := 82) C0.1 C0.2.1 dL_told_82 (lv_at hl 2 rfl) ?_
                obtain ⟨j10, hj10, hf⟩ := bd_e hf
                refine X_join (pc := 84) (xpc := 94) (j := j10) (st := []) hw (fun hE0 => ?_) (fun H locs hw => ?_)
                · have hf := hj10
                  refine lv_icmp_le (tgt := 92) (pc := 84) C0.1 C0.2.1 dL_told_84 (by decide) (fun hc => ?_) (fun hc => ?_)
                  · have hf := if_t hf hc
                    refine lv_iload (pc := 92) C0.1 C0.2.1 dL_told_92 (lv_at hl 1 rfl) ?_
                    exact X_leaf hE0 (Option.some.inj hf) hw
                  · have hf := if_f hf hc
                    refine lv_iload (pc := 87) C0.1 C0.2.1 dL_told_87 (lv_at hl 0 rfl) ?_
                    refine lv_goto (tgt := 94) (pc := 89) C0.1 C0.2.1 dL_told_89 (by decide) ?_
                    exact X_leaf hE0 (Option.some.inj hf) hw
                · skip
                  refine lv_istore (pc := 94) (lv' := [(9, .int j10), (10, .int a3.2.2.2.1), (8, .int a3.2.1), (7, .int a2.2.2.1), (6, .int a1.2.2.1), (5, .int a3.1), (4, .int 0), (3, .int a2.1), (2, .ref (ad 168)), (1, .int q1), (0, .ref (ad 167))]) C0.1 C0.2.1 dL_told_94 hl (by decide) rfl (fun ls hl => ?_)
                  refine lv_aload_n (pc := 96) C0.1 C0.2.1 dL_told_96 rfl (lv_at hl 10 rfl) ?_
                  refine lv_iload (pc := 97) C0.1 C0.2.1 dL_told_97 (lv_at hl 1 rfl) ?_
                  refine lv_bipush (v := 10) (pc := 99) C0.1 C0.2.1 dL_told_99 (by decide) ?_
                  obtain ⟨q11, hq11, hf⟩ := bd_e hf
                  refine z_backp0 (pc := 101) hI emb_1 hw (z_runV (pc := 101) (aa := ad) (As := [.int a3.2.2.2.1, .int 10]) (rest := []) C0 hK (emb_P emb_1 (fun j _ => by rw [Nat.zero_add]) (fun j _ => by rw [Nat.zero_add]) hw.1) hl.1 ⟨Nat.le_of_ble_eq_true rfl, Nat.le_of_ble_eq_true rfl⟩ (kX6_tray l D y ad hI0 a3.2.2.2.1 10 a3.2.2.2.2 hq11) (by decide) ly_M rfl rfl wc_X6_tray wm_L_40 wi_X6_tray ws_X6_tray wn_X6 ⟨rfl, rfl⟩ hd_X6_tray rfl ⟨Nat.le_of_ble_eq_true rfl, Nat.le_of_ble_eq_true rfl⟩ (Nat.le_of_ble_eq_true rfl) dL_told_101) (fun H locs hw => ?_)
                  refine lv_iload (pc := 104) C0.1 C0.2.1 dL_told_104 (lv_at hl 2 rfl) ?_
                  obtain ⟨j12, hj12, hf⟩ := bd_e hf
                  refine X_join (pc := 106) (xpc := 122) (j := j12) (st := []) hw (fun hE0 => ?_) (fun H locs hw => ?_)
                  · have hf := hj12
                    refine lv_icmp_le (tgt := 120) (pc := 106) C0.1 C0.2.1 dL_told_106 (by decide) (fun hc => ?_) (fun hc => ?_)
                    · have hf := if_t hf hc
                      refine lv_iload (pc := 120) C0.1 C0.2.1 dL_told_120 (lv_at hl 2 rfl) ?_
                      exact X_leaf hE0 (Option.some.inj hf) hw
                    · have hf := if_f hf hc
                      refine lv_aload_n (pc := 109) C0.1 C0.2.1 dL_told_109 rfl (lv_at hl 10 rfl) ?_
                      refine lv_iload (pc := 110) C0.1 C0.2.1 dL_told_110 (lv_at hl 1 rfl) ?_
                      refine lv_bipush (v := 10) (pc := 112) C0.1 C0.2.1 dL_told_112 (by decide) ?_
                      obtain ⟨q13, hq13, hf⟩ := bd_e hf
                      refine z_backp0 (pc := 114) hI emb_1 hw (z_runV (pc := 114) (aa := ad) (As := [.int a3.2.2.2.1, .int 10]) (rest := []) C0 hK (emb_P emb_1 (fun j _ => by rw [Nat.zero_add]) (fun j _ => by rw [Nat.zero_add]) hw.1) hl.1 ⟨Nat.le_of_ble_eq_true rfl, Nat.le_of_ble_eq_true rfl⟩ (kX6_tray l D y ad hI0 a3.2.2.2.1 10 a3.2.2.2.2 hq13) (by decide) ly_M rfl rfl wc_X6_tray wm_L_40 wi_X6_tray ws_X6_tray wn_X6 ⟨rfl, rfl⟩ hd_X6_tray rfl ⟨Nat.le_of_ble_eq_true rfl, Nat.le_of_ble_eq_true rfl⟩ (Nat.le_of_ble_eq_true rfl) dL_told_114) (fun H locs hw => ?_)
                      refine lv_goto (tgt := 122) (pc := 117) C0.1 C0.2.1 dL_told_117 (by decide) ?_
                      exact X_leaf hE0 (Option.some.inj hf) hw
                  · skip
                    refine lv_istore (pc := 122) (lv' := [(8, .int j12), (9, .int j10), (10, .int a3.2.2.2.1), (7, .int a2.2.2.1), (6, .int a1.2.2.1), (5, .int a3.1), (4, .int 0), (3, .int a2.1), (2, .ref (ad 168)), (1, .int q1), (0, .ref (ad 167))]) C0.1 C0.2.1 dL_told_122 hl (by decide) rfl (fun ls hl => ?_)
                    refine lv_aload_n (pc := 124) C0.1 C0.2.1 dL_told_124 rfl (lv_at hl 10 rfl) ?_
                    refine lv_iload (pc := 125) C0.1 C0.2.1 dL_told_125 (lv_at hl 2 rfl) ?_
                    refine lv_bipush (v := 9) (pc := 127) C0.1 C0.2.1 dL_told_127 (by decide) ?_
                    obtain ⟨q14, hq14, hf⟩ := bd_e hf
                    refine z_backp0 (pc := 129) hI emb_1 hw (z_runV (pc := 129) (aa := ad) (As := [.int a3.2.2.2.1, .int 9]) (rest := []) C0 hK (emb_P emb_1 (fun j _ => by rw [Nat.zero_add]) (fun j _ => by rw [Nat.zero_add]) hw.1) hl.1 ⟨Nat.le_of_ble_eq_true rfl, Nat.le_of_ble_eq_true rfl⟩ (kX6_tray l D y ad hI0 a3.2.2.2.1 9 a3.2.2.2.2 hq14) (by decide) ly_M rfl rfl wc_X6_tray wm_L_40 wi_X6_tray ws_X6_tray wn_X6 ⟨rfl, rfl⟩ hd_X6_tray rfl ⟨Nat.le_of_ble_eq_true rfl, Nat.le_of_ble_eq_true rfl⟩ (Nat.le_of_ble_eq_true rfl) dL_told_129) (fun H locs hw => ?_)
                    obtain ⟨j15, hj15, hf⟩ := bd_e hf
                    refine X_join (pc := 132) (xpc := 140) (j := j15) (st := []) hw (fun hE0 => ?_) (fun H locs hw => ?_)
                    · have hf := hj15
                      refine lv_if_ne (tgt := 139) (pc := 132) C0.1 C0.2.1 dL_told_132 (by decide) (fun hc => ?_) (fun hc => ?_)
                      · have hf := if_f hf hc
                        refine lv_iconst (v := 0) (pc := 139) C0.1 C0.2.1 dL_told_139 (by decide) ?_
                        exact X_leaf hE0 (Option.some.inj hf) hw
                      · have hf := if_t hf hc
                        refine lv_iconst (v := 1) (pc := 135) C0.1 C0.2.1 dL_told_135 (by decide) ?_
                        refine lv_goto (tgt := 140) (pc := 136) C0.1 C0.2.1 dL_told_136 (by decide) ?_
                        exact X_leaf hE0 (Option.some.inj hf) hw
                    · skip
                      refine lv_istore (pc := 140) (lv' := [(11, .int j15), (8, .int j12), (9, .int j10), (10, .int a3.2.2.2.1), (7, .int a2.2.2.1), (6, .int a1.2.2.1), (5, .int a3.1), (4, .int 0), (3, .int a2.1), (2, .ref (ad 168)), (1, .int q1), (0, .ref (ad 167))]) C0.1 C0.2.1 dL_told_140 hl (by decide) rfl (fun ls hl => ?_)
                      refine lv_iconst (v := 0) (pc := 142) C0.1 C0.2.1 dL_told_142 (by decide) ?_
                      refine lv_istore (pc := 143) (lv' := [(12, .int 0), (11, .int j15), (8, .int j12), (9, .int j10), (10, .int a3.2.2.2.1), (7, .int a2.2.2.1), (6, .int a1.2.2.1), (5, .int a3.1), (4, .int 0), (3, .int a2.1), (2, .ref (ad 168)), (1, .int q1), (0, .ref (ad 167))]) C0.1 C0.2.1 dL_told_143 hl (by decide) rfl (fun ls hl => ?_)
                      obtain ⟨e16, he16, hf⟩ := bd_e hf
                      refine X_loopR (pc := 145) (xpc := 280) (fu := fun a4 => a4.2.2) (fl := fun a4 => [(12, .int a4.2.1), (11, .int a4.1), (8, .int j12), (9, .int j10), (10, .int a3.2.2.2.1), (7, .int a2.2.2.1), (6, .int a1.2.2.1), (5, .int a3.1), (4, .int 0), (3, .int a2.1), (2, .ref (ad 168)), (1, .int q1), (0, .ref (ad 167))]) (o := o) (fun a4 r hf hX hE hG H locs ls hw hl => ?_) he16 ?_ ?_ hw hl
                      · unfold gL_told_145 at hf
                        refine lv_iload (pc := 145) C0.1 C0.2.1 dL_told_145 (lv_at hl 0 rfl) ?_
                        refine lv_iload_n (pc := 147) C0.1 C0.2.1 dL_told_147 rfl (lv_at hl 11 rfl) ?_
                        refine lv_icmp_ge (tgt := 280) (pc := 148) C0.1 C0.2.1 dL_told_148 (by decide) (fun hc => ?_) (fun hc => ?_)
                        · have hf := if_t hf hc
                          exact hE _ (Option.some.inj hf).symm H locs ls hw (lv_sub hl [0, 1, 2, 3, 4, 5, 6, 7, 8, 9, 10, 11, 12] rfl)
                        · have hf := if_f hf hc
                          refine lv_iload (pc := 151) C0.1 C0.2.1 dL_told_151 (lv_at hl 0 rfl) ?_
                          refine lv_iload (pc := 153) C0.1 C0.2.1 dL_told_153 (lv_at hl 4 rfl) ?_
                          refine lv_icmp_eq (tgt := 274) (pc := 155) C0.1 C0.2.1 dL_told_155 (by decide) (fun hc => ?_) (fun hc => ?_)
                          · have hf := if_t hf hc
                            refine lv_iinc (pc := 274) (v := a4.2.1 + 1) (lv' := [(12, .int (a4.2.1 + 1)), (11, .int a4.1), (8, .int j12), (9, .int j10), (10, .int a3.2.2.2.1), (7, .int a2.2.2.1), (6, .int a1.2.2.1), (5, .int a3.1), (4, .int 0), (3, .int a2.1), (2, .ref (ad 168)), (1, .int q1), (0, .ref (ad 167))]) C0.1 C0.2.1 dL_told_274 hl (k := 0) rfl rfl (by decide) rfl (fun ls hl => ?_)
                            refine lv_goto (tgt := 145) (pc := 277) C0.1 C0.2.1 dL_told_277 (by decide) ?_
                            exact hG _ (Option.some.inj hf).symm H locs ls hw (lv_sub hl [0, 1, 2, 3, 4, 5, 6, 7, 8, 9, 10, 11, 12] rfl)
                          · have hf := if_f hf hc
                            refine lv_aload_n (pc := 158) C0.1 C0.2.1 dL_told_158 rfl (lv_at hl 12 rfl) ?_
                            refine lv_iload (pc := 159) C0.1 C0.2.1 dL_told_159 (lv_at hl 0 rfl) ?_
                            refine lv_iload (pc := 161) C0.1 C0.2.1 dL_told_161 (lv_at hl 6 rfl) ?_
                            refine lv_iload (pc := 163) C0.1 C0.2.1 dL_told_163 (lv_at hl 5 rfl) ?_
                            obtain ⟨q17, hq17, hf⟩ := bd_e hf
                            refine z_backp0 (pc := 165) hI emb_1 hw (z_runS (pc := 165) (aa := ad) (As := [.ref (ad 167), .int a4.2.1, .int a1.2.2.1, .int a2.2.2.1]) (rest := []) C0 hK (emb_P emb_1 (fun j _ => by rw [Nat.zero_add]) (fun j _ => by rw [Nat.zero_add]) hw.1) hl.1 ⟨Nat.le_of_ble_eq_true rfl, Nat.le_of_ble_eq_true rfl⟩ (kL_covers l D y ad hI0 a4.2.1 a1.2.2.1 a2.2.2.1 a4.2.2 hq17) rfl wc_L_covers wm_L_59 wt_L_covers wn_L ⟨rfl, rfl⟩ hd_L_covers rfl ⟨Nat.le_of_ble_eq_true rfl, Nat.le_of_ble_eq_true rfl⟩ (Nat.le_of_ble_eq_true rfl) dL_told_165) (fun H locs hw => ?_)
                            refine lv_if_eq (tgt := 274) (pc := 168) C0.1 C0.2.1 dL_told_168 (by decide) (fun hc => ?_) (fun hc => ?_)
                            · have hf := if_t hf hc
                              refine lv_iinc (pc := 274) (v := a4.2.1 + 1) (lv' := [(12, .int (a4.2.1 + 1)), (11, .int a4.1), (8, .int j12), (9, .int j10), (10, .int a3.2.2.2.1), (7, .int a2.2.2.1), (6, .int a1.2.2.1), (5, .int a3.1), (4, .int 0), (3, .int a2.1), (2, .ref (ad 168)), (1, .int q1), (0, .ref (ad 167))]) C0.1 C0.2.1 dL_told_274 hl (k := 0) rfl rfl (by decide) rfl (fun ls hl => ?_)
                              refine lv_goto (tgt := 145) (pc := 277) C0.1 C0.2.1 dL_told_277 (by decide) ?_
                              exact hG _ (Option.some.inj hf).symm H locs ls hw (lv_sub hl [0, 1, 2, 3, 4, 5, 6, 7, 8, 9, 10, 11, 12] rfl)
                            · have hf := if_f hf hc
                              refine lv_aload_n (pc := 171) C0.1 C0.2.1 dL_told_171 rfl (lv_at hl 12 rfl) ?_
                              refine lv_iload (pc := 172) C0.1 C0.2.1 dL_told_172 (lv_at hl 0 rfl) ?_
                              refine lv_bipush (v := 9) (pc := 174) C0.1 C0.2.1 dL_told_174 (by decide) ?_
                              obtain ⟨q18, hq18, hf⟩ := bd_e hf
                              refine z_backp0 (pc := 176) hI emb_1 hw (z_runV (pc := 176) (aa := ad) (As := [.int a4.2.1, .int 9]) (rest := []) C0 hK (emb_P emb_1 (fun j _ => by rw [Nat.zero_add]) (fun j _ => by rw [Nat.zero_add]) hw.1) hl.1 ⟨Nat.le_of_ble_eq_true rfl, Nat.le_of_ble_eq_true rfl⟩ (kX6_tray l D y ad hI0 a4.2.1 9 a4.2.2 hq18) (by decide) ly_M rfl rfl wc_X6_tray wm_L_40 wi_X6_tray ws_X6_tray wn_X6 ⟨rfl, rfl⟩ hd_X6_tray rfl ⟨Nat.le_of_ble_eq_true rfl, Nat.le_of_ble_eq_true rfl⟩ (Nat.le_of_ble_eq_true rfl) dL_told_176) (fun H locs hw => ?_)
                              refine lv_aload_n (pc := 179) C0.1 C0.2.1 dL_told_179 rfl (lv_at hl 12 rfl) ?_
                              refine lv_iload (pc := 180) C0.1 C0.2.1 dL_told_180 (lv_at hl 4 rfl) ?_
                              refine lv_bipush (v := 10) (pc := 182) C0.1 C0.2.1 dL_told_182 (by decide) ?_
                              obtain ⟨q19, hq19, hf⟩ := bd_e hf
                              refine z_backp0 (pc := 184) hI emb_1 hw (z_runV (pc := 184) (aa := ad) (As := [.int a3.2.2.2.1, .int 10]) (rest := [.int q18]) C0 hK (emb_P emb_1 (fun j _ => by rw [Nat.zero_add]) (fun j _ => by rw [Nat.zero_add]) hw.1) hl.1 ⟨Nat.le_of_ble_eq_true rfl, Nat.le_of_ble_eq_true rfl⟩ (kX6_tray l D y ad hI0 a3.2.2.2.1 10 a4.2.2 hq19) (by decide) ly_M rfl rfl wc_X6_tray wm_L_40 wi_X6_tray ws_X6_tray wn_X6 ⟨rfl, rfl⟩ hd_X6_tray rfl ⟨Nat.le_of_ble_eq_true rfl, Nat.le_of_ble_eq_true rfl⟩ (Nat.le_of_ble_eq_true rfl) dL_told_184) (fun H locs hw => ?_)
                              obtain ⟨j20, hj20, hf⟩ := bd_e hf
                              refine X_join (pc := 187) (xpc := 195) (j := j20) (st := []) hw (fun hE0 => ?_) (fun H locs hw => ?_)
                              · have hf := hj20
                                refine lv_icmp_lt (tgt := 194) (pc := 187) C0.1 C0.2.1 dL_told_187 (by decide) (fun hc => ?_) (fun hc => ?_)
                                · have hf := if_t hf hc
                                  refine lv_iconst (v := 0) (pc := 194) C0.1 C0.2.1 dL_told_194 (by decide) ?_
                                  exact X_leaf hE0 (Option.some.inj hf) hw
                                · have hf := if_f hf hc
                                  refine lv_iconst (v := 1) (pc := 190) C0.1 C0.2.1 dL_told_190 (by decide) ?_
                                  refine lv_goto (tgt := 195) (pc := 191) C0.1 C0.2.1 dL_told_191 (by decide) ?_
                                  exact X_leaf hE0 (Option.some.inj hf) hw
                              · skip
                                refine lv_istore (pc := 195) (lv' := [(13, .int j20), (12, .int a4.2.1), (11, .int a4.1), (8, .int j12), (9, .int j10), (10, .int a3.2.2.2.1), (7, .int a2.2.2.1), (6, .int a1.2.2.1), (5, .int a3.1), (4, .int 0), (3, .int a2.1), (2, .ref (ad 168)), (1, .int q1), (0, .ref (ad 167))]) C0.1 C0.2.1 dL_told_195 hl (by decide) rfl (fun ls hl => ?_)
                                refine lv_iload (pc := 197) C0.1 C0.2.1 dL_told_197 (lv_at hl 0 rfl) ?_
                                refine lv_if_ne (tgt := 223) (pc := 199) C0.1 C0.2.1 dL_told_199 (by decide) (fun hc => ?_) (fun hc => ?_)
                                · have hf := if_f hf hc
                                  refine lv_aload_n (pc := 223) C0.1 C0.2.1 dL_told_223 rfl (lv_at hl 11 rfl) ?_
                                  refine lv_iload (pc := 224) C0.1 C0.2.1 dL_told_224 (lv_at hl 5 rfl) ?_
                                  refine lv_dup2_11 (pc := 226) C0.1 C0.2.1 dL_told_226 rfl rfl ?_
                                  obtain ⟨hi, hf⟩ := gd_e hf
                                  refine x_iald (pc := 227) C0 hK hw (by decide) rfl hi dL_told_227 ?_
                                  refine lv_iload (pc := 228) C0.1 C0.2.1 dL_told_228 (lv_at hl 0 rfl) ?_
                                  obtain ⟨j21, hj21, hf⟩ := bd_e hf
                                  refine X_join (pc := 230) (xpc := 241) (j := j21) (st := [.int (a4.2.2.1 168 a3.2.2.2.1.toNatClampNeg), .int a3.2.2.2.1, .ref (ad 168)]) hw (fun hE0 => ?_) (fun H locs hw => ?_)
                                  · have hf := hj21
                                    refine lv_if_eq (tgt := 240) (pc := 230) C0.1 C0.2.1 dL_told_230 (by decide) (fun hc => ?_) (fun hc => ?_)
                                    · have hf := if_t hf hc
                                      refine lv_iconst (v := 0) (pc := 240) C0.1 C0.2.1 dL_told_240 (by decide) ?_
                                      exact X_leaf hE0 (Option.some.inj hf) hw
                                    · have hf := if_f hf hc
                                      refine lv_iconst (v := 1) (pc := 233) C0.1 C0.2.1 dL_told_233 (by decide) ?_
                                      refine lv_iload (pc := 234) C0.1 C0.2.1 dL_told_234 (lv_at hl 1 rfl) ?_
                                      refine lv_ishl (pc := 236) C0.1 C0.2.1 dL_told_236 ?_
                                      refine lv_goto (tgt := 241) (pc := 237) C0.1 C0.2.1 dL_told_237 (by decide) ?_
                                      exact X_leaf hE0 (Option.some.inj hf) hw
                                  · skip
                                    refine lv_ior (pc := 241) C0.1 C0.2.1 dL_told_241 ?_
                                    obtain ⟨hi, hf⟩ := gd_e hf
                                    obtain ⟨u22, hu, hf⟩ := nm_f hf
                                    refine x_iast (pc := 242) hI C0 hK hw (by decide) rfl hi hu dL_told_242 (fun H locs hw => ?_)
                                    refine lv_iload (pc := 243) C0.1 C0.2.1 dL_told_243 (lv_at hl 2 rfl) ?_
                                    obtain ⟨j23, hj23, hf⟩ := bd_e hf
                                    refine X_join (pc := 245) (xpc := 272) (j := j23) (st := []) hw (fun hE0 => ?_) (fun H locs hw => ?_)
                                    · have hf := hj23
                                      refine lv_if_ne (tgt := 267) (pc := 245) C0.1 C0.2.1 dL_told_245 (by decide) (fun hc => ?_) (fun hc => ?_)
                                      · have hf := if_f hf hc
                                        refine lv_iconst (v := 1) (pc := 267) C0.1 C0.2.1 dL_told_267 (by decide) ?_
                                        refine lv_goto (tgt := 272) (pc := 268) C0.1 C0.2.1 dL_told_268 (by decide) ?_
                                        exact X_leaf hE0 (Option.some.inj hf) hw
                                      · have hf := if_t hf hc
                                        refine lv_aload_n (pc := 248) C0.1 C0.2.1 dL_told_248 rfl (lv_at hl 13 rfl) ?_
                                        refine lv_iload (pc := 249) C0.1 C0.2.1 dL_told_249 (lv_at hl 1 rfl) ?_
                                        refine lv_bipush (v := 10) (pc := 251) C0.1 C0.2.1 dL_told_251 (by decide) ?_
                                        obtain ⟨q24, hq24, hf⟩ := bd_e hf
                                        refine z_backp0 (pc := 253) hI emb_1 hw (z_runV (pc := 253) (aa := ad) (As := [.int a4.2.1, .int 10]) (rest := []) C0 hK (emb_P emb_1 (fun j _ => by rw [Nat.zero_add]) (fun j _ => by rw [Nat.zero_add]) hw.1) hl.1 ⟨Nat.le_of_ble_eq_true rfl, Nat.le_of_ble_eq_true rfl⟩ (kX6_tray l D y ad hI0 a4.2.1 10 u22 hq24) (by decide) ly_M rfl rfl wc_X6_tray wm_L_40 wi_X6_tray ws_X6_tray wn_X6 ⟨rfl, rfl⟩ hd_X6_tray rfl ⟨Nat.le_of_ble_eq_true rfl, Nat.le_of_ble_eq_true rfl⟩ (Nat.le_of_ble_eq_true rfl) dL_told_253) (fun H locs hw => ?_)
                                        refine lv_aload_n (pc := 256) C0.1 C0.2.1 dL_told_256 rfl (lv_at hl 13 rfl) ?_
                                        refine lv_iload (pc := 257) C0.1 C0.2.1 dL_told_257 (lv_at hl 5 rfl) ?_
                                        refine lv_bipush (v := 9) (pc := 259) C0.1 C0.2.1 dL_told_259 (by decide) ?_
                                        obtain ⟨q25, hq25, hf⟩ := bd_e hf
                                        refine z_backp0 (pc := 261) hI emb_1 hw (z_runV (pc := 261) (aa := ad) (As := [.int a3.2.2.2.1, .int 9]) (rest := [.int q24]) C0 hK (emb_P emb_1 (fun j _ => by rw [Nat.zero_add]) (fun j _ => by rw [Nat.zero_add]) hw.1) hl.1 ⟨Nat.le_of_ble_eq_true rfl, Nat.le_of_ble_eq_true rfl⟩ (kX6_tray l D y ad hI0 a3.2.2.2.1 9 u22 hq25) (by decide) ly_M rfl rfl wc_X6_tray wm_L_40 wi_X6_tray ws_X6_tray wn_X6 ⟨rfl, rfl⟩ hd_X6_tray rfl ⟨Nat.le_of_ble_eq_true rfl, Nat.le_of_ble_eq_true rfl⟩ (Nat.le_of_ble_eq_true rfl) dL_told_261) (fun H locs hw => ?_)
                                        obtain ⟨j26, hj26, hf⟩ := bd_e hf
                                        refine X_join (pc := 264) (xpc := 272) (j := j26) (st := []) hw (fun hE0 => ?_) (fun H locs hw => ?_)
                                        · have hf := hj26
                                          refine lv_icmp_ne (tgt := 271) (pc := 264) C0.1 C0.2.1 dL_told_264 (by decide) (fun hc => ?_) (fun hc => ?_)
                                          · have hf := if_f hf hc
                                            refine lv_iconst (v := 0) (pc := 271) C0.1 C0.2.1 dL_told_271 (by decide) ?_
                                            exact X_leaf hE0 (Option.some.inj hf) hw
                                          · have hf := if_t hf hc
                                            refine lv_iconst (v := 1) (pc := 267) C0.1 C0.2.1 dL_told_267 (by decide) ?_
                                            refine lv_goto (tgt := 272) (pc := 268) C0.1 C0.2.1 dL_told_268 (by decide) ?_
                                            exact X_leaf hE0 (Option.some.inj hf) hw
                                        · skip
                                          exact X_leaf hE0 (Option.some.inj hf) hw
                                    · skip
                                      refine lv_istore (pc := 272) (lv' := [(11, .int j23), (13, .int j20), (12, .int a4.2.1), (8, .int j12), (9, .int j10), (10, .int a3.2.2.2.1), (7, .int a2.2.2.1), (6, .int a1.2.2.1), (5, .int a3.1), (4, .int 0), (3, .int a2.1), (2, .ref (ad 168)), (1, .int q1), (0, .ref (ad 167))]) C0.1 C0.2.1 dL_told_272 hl (by decide) rfl (fun ls hl => ?_)
                                      refine lv_iinc (pc := 274) (v := a4.2.1 + 1) (lv' := [(12, .int (a4.2.1 + 1)), (11, .int j23), (13, .int j20), (8, .int j12), (9, .int j10), (10, .int a3.2.2.2.1), (7, .int a2.2.2.1), (6, .int a1.2.2.1), (5, .int a3.1), (4, .int 0), (3, .int a2.1), (2, .ref (ad 168)), (1, .int q1), (0, .ref (ad 167))]) C0.1 C0.2.1 dL_told_274 hl (k := 2) rfl rfl (by decide) rfl (fun ls hl => ?_)
                                      refine lv_goto (tgt := 145) (pc := 277) C0.1 C0.2.1 dL_told_277 (by decide) ?_
                                      exact hG _ (Option.some.inj hf).symm H locs ls hw (lv_sub hl [0, 1, 3, 4, 5, 6, 7, 8, 9, 10, 11, 12, 13] rfl)
                                · have hf := if_t hf hc
                                  refine lv_aload_n (pc := 202) C0.1 C0.2.1 dL_told_202 rfl (lv_at hl 13 rfl) ?_
                                  refine lv_iload (pc := 203) C0.1 C0.2.1 dL_told_203 (lv_at hl 5 rfl) ?_
                                  refine lv_bipush (v := 9) (pc := 205) C0.1 C0.2.1 dL_told_205 (by decide) ?_
                                  obtain ⟨q27, hq27, hf⟩ := bd_e hf
                                  refine z_backp0 (pc := 207) hI emb_1 hw (z_runV (pc := 207) (aa := ad) (As := [.int a3.2.2.2.1, .int 9]) (rest := []) C0 hK (emb_P emb_1 (fun j _ => by rw [Nat.zero_add]) (fun j _ => by rw [Nat.zero_add]) hw.1) hl.1 ⟨Nat.le_of_ble_eq_true rfl, Nat.le_of_ble_eq_true rfl⟩ (kX6_tray l D y ad hI0 a3.2.2.2.1 9 a4.2.2 hq27) (by decide) ly_M rfl rfl wc_X6_tray wm_L_40 wi_X6_tray ws_X6_tray wn_X6 ⟨rfl, rfl⟩ hd_X6_tray rfl ⟨Nat.le_of_ble_eq_true rfl, Nat.le_of_ble_eq_true rfl⟩ (Nat.le_of_ble_eq_true rfl) dL_told_207) (fun H locs hw => ?_)
                                  refine lv_aload_n (pc := 210) C0.1 C0.2.1 dL_told_210 rfl (lv_at hl 13 rfl) ?_
                                  refine lv_iload (pc := 211) C0.1 C0.2.1 dL_told_211 (lv_at hl 1 rfl) ?_
                                  refine lv_bipush (v := 10) (pc := 213) C0.1 C0.2.1 dL_told_213 (by decide) ?_
                                  obtain ⟨q28, hq28, hf⟩ := bd_e hf
                                  refine z_backp0 (pc := 215) hI emb_1 hw (z_runV (pc := 215) (aa := ad) (As := [.int a4.2.1, .int 10]) (rest := [.int q27]) C0 hK (emb_P emb_1 (fun j _ => by rw [Nat.zero_add]) (fun j _ => by rw [Nat.zero_add]) hw.1) hl.1 ⟨Nat.le_of_ble_eq_true rfl, Nat.le_of_ble_eq_true rfl⟩ (kX6_tray l D y ad hI0 a4.2.1 10 a4.2.2 hq28) (by decide) ly_M rfl rfl wc_X6_tray wm_L_40 wi_X6_tray ws_X6_tray wn_X6 ⟨rfl, rfl⟩ hd_X6_tray rfl ⟨Nat.le_of_ble_eq_true rfl, Nat.le_of_ble_eq_true rfl⟩ (Nat.le_of_ble_eq_true rfl) dL_told_215) (fun H locs hw => ?_)
                                  refine lv_icmp_ge (tgt := 223) (pc := 218) C0.1 C0.2.1 dL_told_218 (by decide) (fun hc => ?_) (fun hc => ?_)
                                  · have hf := if_t hf hc
                                    refine lv_aload_n (pc := 223) C0.1 C0.2.1 dL_told_223 rfl (lv_at hl 11 rfl) ?_
                                    refine lv_iload (pc := 224) C0.1 C0.2.1 dL_told_224 (lv_at hl 5 rfl) ?_
                                    refine lv_dup2_11 (pc := 226) C0.1 C0.2.1 dL_told_226 rfl rfl ?_
                                    obtain ⟨hi, hf⟩ := gd_e hf
                                    refine x_iald (pc := 227) C0 hK hw (by decide) rfl hi dL_told_227 ?_
                                    refine lv_iload (pc := 228) C0.1 C0.2.1 dL_told_228 (lv_at hl 0 rfl) ?_
                                    obtain ⟨j29, hj29, hf⟩ := bd_e hf
                                    refine X_join (pc := 230) (xpc := 241) (j := j29) (st := [.int (a4.2.2.1 168 a3.2.2.2.1.toNatClampNeg), .int a3.2.2.2.1, .ref (ad 168)]) hw (fun hE0 => ?_) (fun H locs hw => ?_)
                                    · have hf := hj29
                                      refine lv_if_eq (tgt := 240) (pc := 230) C0.1 C0.2.1 dL_told_230 (by decide) (fun hc => ?_) (fun hc => ?_)
                                      · have hf := if_t hf hc
                                        refine lv_iconst (v := 0) (pc := 240) C0.1 C0.2.1 dL_told_240 (by decide) ?_
                                        exact X_leaf hE0 (Option.some.inj hf) hw
                                      · have hf := if_f hf hc
                                        refine lv_iconst (v := 1) (pc := 233) C0.1 C0.2.1 dL_told_233 (by decide) ?_
                                        refine lv_iload (pc := 234) C0.1 C0.2.1 dL_told_234 (lv_at hl 1 rfl) ?_
                                        refine lv_ishl (pc := 236) C0.1 C0.2.1 dL_told_236 ?_
                                        refine lv_goto (tgt := 241) (pc := 237) C0.1 C0.2.1 dL_told_237 (by decide) ?_
                                        exact X_leaf hE0 (Option.some.inj hf) hw
                                    · skip
                                      refine lv_ior (pc := 241) C0.1 C0.2.1 dL_told_241 ?_
                                      obtain ⟨hi, hf⟩ := gd_e hf
                                      obtain ⟨u30, hu, hf⟩ := nm_f hf
                                      refine x_iast (pc := 242) hI C0 hK hw (by decide) rfl hi hu dL_told_242 (fun H locs hw => ?_)
                                      refine lv_iload (pc := 243) C0.1 C0.2.1 dL_told_243 (lv_at hl 2 rfl) ?_
                                      obtain ⟨j31, hj31, hf⟩ := bd_e hf
                                      refine X_join (pc := 245) (xpc := 272) (j := j31) (st := []) hw (fun hE0 => ?_) (fun H locs hw => ?_)
                                      · have hf := hj31
                                        refine lv_if_ne (tgt := 267) (pc := 245) C0.1 C0.2.1 dL_told_245 (by decide) (fun hc => ?_) (fun hc => ?_)
                                        · have hf := if_f hf hc
                                          refine lv_iconst (v := 1) (pc := 267) C0.1 C0.2.1 dL_told_267 (by decide) ?_
                                          refine lv_goto (tgt := 272) (pc := 268) C0.1 C0.2.1 dL_told_268 (by decide) ?_
                                          exact X_leaf hE0 (Option.some.inj hf) hw
                                        · have hf := if_t hf hc
                                          refine lv_aload_n (pc := 248) C0.1 C0.2.1 dL_told_248 rfl (lv_at hl 13 rfl) ?_
                                          refine lv_iload (pc := 249) C0.1 C0.2.1 dL_told_249 (lv_at hl 1 rfl) ?_
                                          refine lv_bipush (v := 10) (pc := 251) C0.1 C0.2.1 dL_told_251 (by decide) ?_
                                          obtain ⟨q32, hq32, hf⟩ := bd_e hf
                                          refine z_backp0 (pc := 253) hI emb_1 hw (z_runV (pc := 253) (aa := ad) (As := [.int a4.2.1, .int 10]) (rest := []) C0 hK (emb_P emb_1 (fun j _ => by rw [Nat.zero_add]) (fun j _ => by rw [Nat.zero_add]) hw.1) hl.1 ⟨Nat.le_of_ble_eq_true rfl, Nat.le_of_ble_eq_true rfl⟩ (kX6_tray l D y ad hI0 a4.2.1 10 u30 hq32) (by decide) ly_M rfl rfl wc_X6_tray wm_L_40 wi_X6_tray ws_X6_tray wn_X6 ⟨rfl, rfl⟩ hd_X6_tray rfl ⟨Nat.le_of_ble_eq_true rfl, Nat.le_of_ble_eq_true rfl⟩ (Nat.le_of_ble_eq_true rfl) dL_told_253) (fun H locs hw => ?_)
                                          refine lv_aload_n (pc := 256) C0.1 C0.2.1 dL_told_256 rfl (lv_at hl 13 rfl) ?_
                                          refine lv_iload (pc := 257) C0.1 C0.2.1 dL_told_257 (lv_at hl 5 rfl) ?_
                                          refine lv_bipush (v := 9) (pc := 259) C0.1 C0.2.1 dL_told_259 (by decide) ?_
                                          obtain ⟨q33, hq33, hf⟩ := bd_e hf
                                          refine z_backp0 (pc := 261) hI emb_1 hw (z_runV (pc := 261) (aa := ad) (As := [.int a3.2.2.2.1, .int 9]) (rest := [.int q32]) C0 hK (emb_P emb_1 (fun j _ => by rw [Nat.zero_add]) (fun j _ => by rw [Nat.zero_add]) hw.1) hl.1 ⟨Nat.le_of_ble_eq_true rfl, Nat.le_of_ble_eq_true rfl⟩ (kX6_tray l D y ad hI0 a3.2.2.2.1 9 u30 hq33) (by decide) ly_M rfl rfl wc_X6_tray wm_L_40 wi_X6_tray ws_X6_tray wn_X6 ⟨rfl, rfl⟩ hd_X6_tray rfl ⟨Nat.le_of_ble_eq_true rfl, Nat.le_of_ble_eq_true rfl⟩ (Nat.le_of_ble_eq_true rfl) dL_told_261) (fun H locs hw => ?_)
                                          obtain ⟨j34, hj34, hf⟩ := bd_e hf
                                          refine X_join (pc := 264) (xpc := 272) (j := j34) (st := []) hw (fun hE0 => ?_) (fun H locs hw => ?_)
                                          · have hf := hj34
                                            refine lv_icmp_ne (tgt := 271) (pc := 264) C0.1 C0.2.1 dL_told_264 (by decide) (fun hc => ?_) (fun hc => ?_)
                                            · have hf := if_f hf hc
                                              refine lv_iconst (v := 0) (pc := 271) C0.1 C0.2.1 dL_told_271 (by decide) ?_
                                              exact X_leaf hE0 (Option.some.inj hf) hw
                                            · have hf := if_t hf hc
                                              refine lv_iconst (v := 1) (pc := 267) C0.1 C0.2.1 dL_told_267 (by decide) ?_
                                              refine lv_goto (tgt := 272) (pc := 268) C0.1 C0.2.1 dL_told_268 (by decide) ?_
                                              exact X_leaf hE0 (Option.some.inj hf) hw
                                          · skip
                                            exact X_leaf hE0 (Option.some.inj hf) hw
                                      · skip
                                        refine lv_istore (pc := 272) (lv' := [(11, .int j31), (13, .int j20), (12, .int a4.2.1), (8, .int j12), (9, .int j10), (10, .int a3.2.2.2.1), (7, .int a2.2.2.1), (6, .int a1.2.2.1), (5, .int a3.1), (4, .int 0), (3, .int a2.1), (2, .ref (ad 168)), (1, .int q1), (0, .ref (ad 167))]) C0.1 C0.2.1 dL_told_272 hl (by decide) rfl (fun ls hl => ?_)
                                        refine lv_iinc (pc := 274) (v := a4.2.1 + 1) (lv' := [(12, .int (a4.2.1 + 1)), (11, .int j31), (13, .int j20), (8, .int j12), (9, .int j10), (10, .int a3.2.2.2.1), (7, .int a2.2.2.1), (6, .int a1.2.2.1), (5, .int a3.1), (4, .int 0), (3, .int a2.1), (2, .ref (ad 168)), (1, .int q1), (0, .ref (ad 167))]) C0.1 C0.2.1 dL_told_274 hl (k := 2) rfl rfl (by decide) rfl (fun ls hl => ?_)
                                        refine lv_goto (tgt := 145) (pc := 277) C0.1 C0.2.1 dL_told_277 (by decide) ?_
                                        exact hG _ (Option.some.inj hf).symm H locs ls hw (lv_sub hl [0, 1, 3, 4, 5, 6, 7, 8, 9, 10, 11, 12, 13] rfl)
                                  · have hf := if_f hf hc
                                    refine lv_iconst (v := 0) (pc := 221) C0.1 C0.2.1 dL_told_221 (by decide) ?_
                                    refine W.widen (k := 1) (n := 12) (Nat.le_of_ble_eq_true rfl) (Nat.le_of_ble_eq_true rfl) ?_
                                    exact z_zretN (pc := 222) emb_1 (fun j h1 h2 => by rw [show j = 168 by omega]; exact hnew) (fun j hj => (hd j hj).symm) C0 hK hk hr hw rfl (hX _ (Option.some.inj hf).symm) dL_told_222
                      · intro x hx
                        subst hx
                        exact hX _ (Option.some.inj hf).symm
                      · intro e16x he H locs ls hw hl
                        subst he
                        have hf := sum_r hf
                        refine lv_iload (pc := 280) C0.1 C0.2.1 dL_told_280 (lv_at hl 7 rfl) ?_
                        refine lv_iload (pc := 282) C0.1 C0.2.1 dL_told_282 (lv_at hl 1 rfl) ?_
                        obtain ⟨j35, hj35, hf⟩ := bd_e hf
                        refine X_join (pc := 284) (xpc := 292) (j := j35) (st := [.int a3.1]) hw (fun hE0 => ?_) (fun H locs hw => ?_)
                        · have hf := hj35
                          refine lv_if_eq (tgt := 291) (pc := 284) C0.1 C0.2.1 dL_told_284 (by decide) (fun hc => ?_) (fun hc => ?_)
                          · have hf := if_t hf hc
                            refine lv_iconst (v := 0) (pc := 291) C0.1 C0.2.1 dL_told_291 (by decide) ?_
                            exact X_leaf hE0 (Option.some.inj hf) hw
                          · have hf := if_f hf hc
                            refine lv_iconst (v := 1) (pc := 287) C0.1 C0.2.1 dL_told_287 (by decide) ?_
                            refine lv_goto (tgt := 292) (pc := 288) C0.1 C0.2.1 dL_told_288 (by decide) ?_
                            exact X_leaf hE0 (Option.some.inj hf) hw
                        · skip
                          refine lv_iadd (pc := 292) C0.1 C0.2.1 dL_told_292 ?_
                          refine lv_istore (pc := 293) (lv' := [(5, .int (a3.1 + j35)), (12, .int e16x.2.1), (11, .int e16x.1), (8, .int j12), (9, .int j10), (10, .int a3.2.2.2.1), (7, .int a2.2.2.1), (6, .int a1.2.2.1), (4, .int 0), (3, .int a2.1), (2, .ref (ad 168)), (1, .int q1), (0, .ref (ad 167))]) C0.1 C0.2.1 dL_told_293 hl (by decide) rfl (fun ls hl => ?_)
                          refine lv_iinc (pc := 295) (v := a3.2.2.2.1 + 1) (lv' := [(10, .int (a3.2.2.2.1 + 1)), (5, .int (a3.1 + j35)), (12, .int e16x.2.1), (11, .int e16x.1), (8, .int j12), (9, .int j10), (7, .int a2.2.2.1), (6, .int a1.2.2.1), (4, .int 0), (3, .int a2.1), (2, .ref (ad 168)), (1, .int q1), (0, .ref (ad 167))]) C0.1 C0.2.1 dL_told_295 hl (k := 5) rfl rfl (by decide) rfl (fun ls hl => ?_)
                          refine lv_goto (tgt := 55) (pc := 298) C0.1 C0.2.1 dL_told_298 (by decide) ?_
                          exact hG _ (Option.some.inj hf).symm H locs ls hw (lv_sub hl [0, 5, 4, 6, 7, 1, 8, 9, 10, 11, 12] rfl)
          · intro x hx
            subst hx
            exact hX _ (Option.some.inj hf).symm
          · intro e7x he H locs ls hw hl
            subst he
            have hf := sum_r hf
            refine lv_iload (pc := 301) C0.1 C0.2.1 dL_told_301 (lv_at hl 2 rfl) ?_
            refine lv_iload_n (pc := 303) C0.1 C0.2.1 dL_told_303 rfl (lv_at hl 7 rfl) ?_
            obtain ⟨j36, hj36, hf⟩ := bd_e hf
            refine X_join (pc := 304) (xpc := 313) (j := j36) (st := []) hw (fun hE0 => ?_) (fun H locs hw => ?_)
            · have hf := hj36
              refine lv_icmp_le (tgt := 312) (pc := 304) C0.1 C0.2.1 dL_told_304 (by decide) (fun hc => ?_) (fun hc => ?_)
              · have hf := if_t hf hc
                refine lv_iload_n (pc := 312) C0.1 C0.2.1 dL_told_312 rfl (lv_at hl 7 rfl) ?_
                exact X_leaf hE0 (Option.some.inj hf) hw
              · have hf := if_f hf hc
                refine lv_iload (pc := 307) C0.1 C0.2.1 dL_told_307 (lv_at hl 2 rfl) ?_
                refine lv_goto (tgt := 313) (pc := 309) C0.1 C0.2.1 dL_told_309 (by decide) ?_
                exact X_leaf hE0 (Option.some.inj hf) hw
            · skip
              refine lv_istore_n (pc := 313) (lv' := [(3, .int j36), (10, .int e7x.2.2.2.1), (9, .int e7x.2.2.1), (8, .int e7x.2.1), (7, .int a2.2.2.1), (6, .int a1.2.2.1), (5, .int e7x.1), (4, .int 0), (2, .ref (ad 168)), (1, .int q1), (0, .ref (ad 167))]) C0.1 C0.2.1 dL_told_313 rfl hl (by decide) rfl (fun ls hl => ?_)
              refine lv_aload_n (pc := 314) C0.1 C0.2.1 dL_told_314 rfl (lv_at hl 10 rfl) ?_
              refine lv_iload (pc := 315) C0.1 C0.2.1 dL_told_315 (lv_at hl 5 rfl) ?_
              refine lv_iload (pc := 317) C0.1 C0.2.1 dL_told_317 (lv_at hl 4 rfl) ?_
              refine lv_iconst (v := 1) (pc := 319) C0.1 C0.2.1 dL_told_319 (by decide) ?_
              obtain ⟨q37, hq37, hf⟩ := bd_e hf
              refine z_backp0 (pc := 320) hI emb_1 hw (z_runV (pc := 320) (aa := ad) (As := [.int a1.2.2.1, .int a2.2.2.1, .int 1]) (rest := []) C0 hK (emb_P emb_1 (fun j _ => by rw [Nat.zero_add]) (fun j _ => by rw [Nat.zero_add]) hw.1) hl.1 ⟨Nat.le_of_ble_eq_true rfl, Nat.le_of_ble_eq_true rfl⟩ (kX6_seen l D y ad hI0 a1.2.2.1 a2.2.2.1 1 e7x.2.2.2.2 hq37) (by decide) ly_M rfl rfl wc_X6_seen wm_L_47 wi_X6_seen ws_X6_seen wn_X6 ⟨rfl, rfl⟩ hd_X6_seen rfl ⟨Nat.le_of_ble_eq_true rfl, Nat.le_of_ble_eq_true rfl⟩ (Nat.le_of_ble_eq_true rfl) dL_told_320) (fun H locs hw => ?_)
              refine lv_iload (pc := 323) C0.1 C0.2.1 dL_told_323 (lv_at hl 3 rfl) ?_
              refine lv_icmp_ne (tgt := 342) (pc := 325) C0.1 C0.2.1 dL_told_325 (by decide) (fun hc => ?_) (fun hc => ?_)
              · have hf := if_f hf hc
                refine lv_iconst (v := 0) (pc := 342) C0.1 C0.2.1 dL_told_342 (by decide) ?_
                refine W.widen (k := 1) (n := 12) (Nat.le_of_ble_eq_true rfl) (Nat.le_of_ble_eq_true rfl) ?_
                exact z_zretN (pc := 343) emb_1 (fun j h1 h2 => by rw [show j = 168 by omega]; exact hnew) (fun j hj => (hd j hj).symm) C0 hK hk hr hw rfl (hX _ (Option.some.inj hf).symm) dL_told_343
              · have hf := if_t hf hc
                refine lv_aload_n (pc := 328) C0.1 C0.2.1 dL_told_328 rfl (lv_at hl 10 rfl) ?_
                refine lv_iload (pc := 329) C0.1 C0.2.1 dL_told_329 (lv_at hl 5 rfl) ?_
                refine lv_iload (pc := 331) C0.1 C0.2.1 dL_told_331 (lv_at hl 4 rfl) ?_
                refine lv_iconst (v := 0) (pc := 333) C0.1 C0.2.1 dL_told_333 (by decide) ?_
                obtain ⟨q38, hq38, hf⟩ := bd_e hf
                refine z_backp0 (pc := 334) hI emb_1 hw (z_runV (pc := 334) (aa := ad) (As := [.int a1.2.2.1, .int a2.2.2.1, .int 0]) (rest := []) C0 hK (emb_P emb_1 (fun j _ => by rw [Nat.zero_add]) (fun j _ => by rw [Nat.zero_add]) hw.1) hl.1 ⟨Nat.le_of_ble_eq_true rfl, Nat.le_of_ble_eq_true rfl⟩ (kX6_seen l D y ad hI0 a1.2.2.1 a2.2.2.1 0 e7x.2.2.2.2 hq38) (by decide) ly_M rfl rfl wc_X6_seen wm_L_47 wi_X6_seen ws_X6_seen wn_X6 ⟨rfl, rfl⟩ hd_X6_seen rfl ⟨Nat.le_of_ble_eq_true rfl, Nat.le_of_ble_eq_true rfl⟩ (Nat.le_of_ble_eq_true rfl) dL_told_334) (fun H locs hw => ?_)
                refine lv_iload (pc := 337) C0.1 C0.2.1 dL_told_337 (lv_at hl 2 rfl) ?_
                refine lv_icmp_eq (tgt := 344) (pc := 339) C0.1 C0.2.1 dL_told_339 (by decide) (fun hc => ?_) (fun hc => ?_)
                · have hf := if_t hf hc
                  refine lv_iinc (pc := 344) (v := a2.2.2.1 + 1) (lv' := [(7, .int (a2.2.2.1 + 1)), (3, .int j36), (10, .int e7x.2.2.2.1), (9, .int e7x.2.2.1), (8, .int e7x.2.1), (6, .int a1.2.2.1), (5, .int e7x.1), (4, .int 0), (2, .ref (ad 168)), (1, .int q1), (0, .ref (ad 167))]) C0.1 C0.2.1 dL_told_344 hl (k := 4) rfl rfl (by decide) rfl (fun ls hl => ?_)
                  refine lv_goto (tgt := 35) (pc := 347) C0.1 C0.2.1 dL_told_347 (by decide) ?_
                  exact hG _ (Option.some.inj hf).symm H locs ls hw (lv_sub hl [0, 5, 6, 7, 1, 8, 9, 10] rfl)
                · have hf := if_f hf hc
                  refine lv_iconst (v := 0) (pc := 342) C0.1 C0.2.1 dL_told_342 (by decide) ?_
                  refine W.widen (k := 1) (n := 12) (Nat.le_of_ble_eq_true rfl) (Nat.le_of_ble_eq_true rfl) ?_
                  exact z_zretN (pc := 343) emb_1 (fun j h1 h2 => by rw [show j = 168 by omega]; exact hnew) (fun j hj => (hd j hj).symm) C0 hK hk hr hw rfl (hX _ (Option.some.inj hf).symm) dL_told_343
      · intro x hx
        subst hx
        exact hX _ (Option.some.inj hf).symm
      · intro e5x he H locs ls hw hl
        subst he
        have hf := sum_r hf
        refine lv_iinc (pc := 350) (v := a1.2.2.1 + 1) (lv' := [(6, .int (a1.2.2.1 + 1)), (7, .int e5x.2.2.1), (5, .int e5x.2.1), (4, .int 0), (3, .int e5x.1), (2, .ref (ad 168)), (1, .int q1), (0, .ref (ad 167))]) C0.1 C0.2.1 dL_told_350 hl (k := 1) rfl rfl (by decide) rfl (fun ls hl => ?_)
        refine lv_goto (tgt := 22) (pc := 353) C0.1 C0.2.1 dL_told_353 (by decide) ?_
        exact hG _ (Option.some.inj hf).symm H locs ls hw (lv_sub hl [0, 2, 3, 4, 5, 6, 7] rfl)
  · intro x hx
    subst hx
    exact Option.some.inj hf
  · intro e3x he H locs ls hw hl
    subst he
    have hf := sum_r hf
    refine lv_iconst (v := 0) (pc := 356) C0.1 C0.2.1 dL_told_356 (by decide) ?_
    refine lv_istore (pc := 357) (lv' := [(6, .int 0), (5, .int e3x.2.1), (4, .int 0), (3, .int e3x.1), (2, .ref (ad 168)), (1, .int q1), (0, .ref (ad 167))]) C0.1 C0.2.1 dL_told_357 hl (by decide) rfl (fun ls hl => ?_)
    refine lv_iconst (v := 0) (pc := 359) C0.1 C0.2.1 dL_told_359 (by decide) ?_
    refine lv_istore (pc := 360) (lv' := [(7, .int 0), (6, .int 0), (5, .int e3x.2.1), (4, .int 0), (3, .int e3x.1), (2, .ref (ad 168)), (1, .int q1), (0, .ref (ad 167))]) C0.1 C0.2.1 dL_told_360 hl (by decide) rfl (fun ls hl => ?_)
    refine lv_iconst (v := 0) (pc := 362) C0.1 C0.2.1 dL_told_362 (by decide) ?_
    refine lv_istore (pc := 363) (lv' := [(8, .int 0), (7, .int 0), (6, .int 0), (5, .int e3x.2.1), (4, .int 0), (3, .int e3x.1), (2, .ref (ad 168)), (1, .int q1), (0, .ref (ad 167))]) C0.1 C0.2.1 dL_told_363 hl (by decide) rfl (fun ls hl => ?_)
    refine lv_iconst (v := 0) (pc := 365) C0.1 C0.2.1 dL_told_365 (by decide) ?_
    refine lv_istore (pc := 366) (lv' := [(9, .int 0), (8, .int 0), (7, .int 0), (6, .int 0), (5, .int e3x.2.1), (4, .int 0), (3, .int e3x.1), (2, .ref (ad 168)), (1, .int q1), (0, .ref (ad 167))]) C0.1 C0.2.1 dL_told_366 hl (by decide) rfl (fun ls hl => ?_)
    refine lv_iconst (v := 0) (pc := 368) C0.1 C0.2.1 dL_told_368 (by decide) ?_
    refine lv_istore (pc := 369) (lv' := [(10, .int 0), (9, .int 0), (8, .int 0), (7, .int 0), (6, .int 0), (5, .int e3x.2.1), (4, .int 0), (3, .int e3x.1), (2, .ref (ad 168)), (1, .int q1), (0, .ref (ad 167))]) C0.1 C0.2.1 dL_told_369 hl (by decide) rfl (fun ls hl => ?_)
    refine lv_iconst (v := 0) (pc := 371) C0.1 C0.2.1 dL_told_371 (by decide) ?_
    refine lv_istore (pc := 372) (lv' := [(11, .int 0), (10, .int 0), (9, .int 0), (8, .int 0), (7, .int 0), (6, .int 0), (5, .int e3x.2.1), (4, .int 0), (3, .int e3x.1), (2, .ref (ad 168)), (1, .int q1), (0, .ref (ad 167))]) C0.1 C0.2.1 dL_told_372 hl (by decide) rfl (fun ls hl => ?_)
    obtain ⟨e39, he39, hf⟩ := bd_e hf
    refine X_loopR (pc := 374) (xpc := 736) (fu := fun a1 => e3x.2.2.2) (fl := fun a1 => [(11, .int a1.2.2.2.2.2.2), (10, .int a1.2.2.2.2.2.1), (9, .int a1.2.2.2.2.1), (8, .int a1.2.2.2.1), (7, .int a1.2.2.1), (6, .int a1.2.1), (5, .int e3x.2.1), (4, .int a1.1), (3, .int e3x.1), (2, .ref (ad 168)), (1, .int q1), (0, .ref (ad 167))]) (o := o) (fun a1 r hf hX hE hG H locs ls hw hl => ?_) he39 ?_ ?_ hw hl
    · unfold gL_told_374 at hf
      refine lv_iload (pc := 374) C0.1 C0.2.1 dL_told_374 (lv_at hl 0 rfl) ?_
      refine lv_iload_n (pc := 376) C0.1 C0.2.1 dL_told_376 rfl (lv_at hl 10 rfl) ?_
      refine lv_icmp_ge (tgt := 736) (pc := 377) C0.1 C0.2.1 dL_told_377 (by decide) (fun hc => ?_) (fun hc => ?_)
      · have hf := if_t hf hc
        exact hE _ (Option.some.inj hf).symm H locs ls hw (lv_sub hl [0, 1, 2, 3, 4, 5, 6, 7, 8, 9, 10, 11] rfl)
      · have hf := if_f hf hc
        refine lv_aload_n (pc := 380) C0.1 C0.2.1 dL_told_380 rfl (lv_at hl 11 rfl) ?_
        refine lv_iload (pc := 381) C0.1 C0.2.1 dL_told_381 (lv_at hl 0 rfl) ?_
        refine lv_iconst (v := 5) (pc := 383) C0.1 C0.2.1 dL_told_383 (by decide) ?_
        obtain ⟨q40, hq40, hf⟩ := bd_e hf
        refine z_backp0 (pc := 384) hI emb_1 hw (z_runV (pc := 384) (aa := ad) (As := [.int a1.2.2.2.2.2.2, .int 5]) (rest := []) C0 hK (emb_P emb_1 (fun j _ => by rw [Nat.zero_add]) (fun j _ => by rw [Nat.zero_add]) hw.1) hl.1 ⟨Nat.le_of_ble_eq_true rfl, Nat.le_of_ble_eq_true rfl⟩ (kX6_tray l D y ad hI0 a1.2.2.2.2.2.2 5 e3x.2.2.2 hq40) (by decide) ly_M rfl rfl wc_X6_tray wm_L_40 wi_X6_tray ws_X6_tray wn_X6 ⟨rfl, rfl⟩ hd_X6_tray rfl ⟨Nat.le_of_ble_eq_true rfl, Nat.le_of_ble_eq_true rfl⟩ (Nat.le_of_ble_eq_true rfl) dL_told_384) (fun H locs hw => ?_)
        refine lv_if_ne (tgt := 416) (pc := 387) C0.1 C0.2.1 dL_told_387 (by decide) (fun hc => ?_) (fun hc => ?_)
        · have hf := if_f hf hc
          refine lv_aload_n (pc := 416) C0.1 C0.2.1 dL_told_416 rfl (lv_at hl 9 rfl) ?_
          refine lv_iload (pc := 417) C0.1 C0.2.1 dL_told_417 (lv_at hl 0 rfl) ?_
          obtain ⟨hi, hf⟩ := gd_e hf
          refine x_iald (pc := 419) C0 hK hw (by decide) rfl hi dL_told_419 ?_
          refine lv_istore (pc := 420) (lv' := [(12, .int (e3x.2.2.2.1 168 a1.2.2.2.2.2.2.toNatClampNeg)), (11, .int a1.2.2.2.2.2.2), (10, .int a1.2.2.2.2.2.1), (9, .int a1.2.2.2.2.1), (8, .int a1.2.2.2.1), (7, .int a1.2.2.1), (6, .int a1.2.1), (5, .int e3x.2.1), (4, .int a1.1), (3, .int e3x.1), (2, .ref (ad 168)), (1, .int q1), (0, .ref (ad 167))]) C0.1 C0.2.1 dL_told_420 hl (by decide) rfl (fun ls hl => ?_)
          refine lv_iconst (v := 0) (pc := 422) C0.1 C0.2.1 dL_told_422 (by decide) ?_
          refine lv_istore (pc := 423) (lv' := [(13, .int 0), (12, .int (e3x.2.2.2.1 168 a1.2.2.2.2.2.2.toNatClampNeg)), (11, .int a1.2.2.2.2.2.2), (10, .int a1.2.2.2.2.2.1), (9, .int a1.2.2.2.2.1), (8, .int a1.2.2.2.1), (7, .int a1.2.2.1), (6, .int a1.2.1), (5, .int e3x.2.1), (4, .int a1.1), (3, .int e3x.1), (2, .ref (ad 168)), (1, .int q1), (0, .ref (ad 167))]) C0.1 C0.2.1 dL_told_423 hl (by decide) rfl (fun ls hl => ?_)
          obtain ⟨e41, he41, hf⟩ := bd_e hf
          refine X_loop (pc := 425) (xpc := 476) (fu := fun a2 => e3x.2.2.2) (fl := fun a2 => [(13, .int a2.2), (12, .int a2.1), (11, .int a1.2.2.2.2.2.2), (10, .int a1.2.2.2.2.2.1), (9, .int a1.2.2.2.2.1), (8, .int a1.2.2.2.1), (7, .int a1.2.2.1), (6, .int a1.2.1), (5, .int e3x.2.1), (4, .int a1.1), (3, .int e3x.1), (2, .ref (ad 168)), (1, .int q1), (0, .ref (ad 167))]) (fun a2 r hf hE hG H locs ls hw hl => ?_) he41 (fun H locs ls hw hl => ?_) hw hl
          · unfold gL_told_425 at hf
            refine lv_iload (pc := 425) C0.1 C0.2.1 dL_told_425 (lv_at hl 0 rfl) ?_
            refine lv_iload_n (pc := 427) C0.1 C0.2.1 dL_told_427 rfl (lv_at hl 12 rfl) ?_
            refine lv_icmp_ge (tgt := 476) (pc := 428) C0.1 C0.2.1 dL_told_428 (by decide) (fun hc => ?_) (fun hc => ?_)
            · have hf := if_t hf hc
              exact hE _ (Option.some.inj hf).symm H locs ls hw (lv_sub hl [0, 1, 2, 3, 4, 5, 6, 7, 8, 9, 10, 11, 12, 13] rfl)
            · have hf := if_f hf hc
              refine lv_iconst (v := 0) (pc := 431) C0.1 C0.2.1 dL_told_431 (by decide) ?_
              refine lv_istore (pc := 432) (lv' := [(14, .int 0), (13, .int a2.2), (12, .int a2.1), (11, .int a1.2.2.2.2.2.2), (10, .int a1.2.2.2.2.2.1), (9, .int a1.2.2.2.2.1), (8, .int a1.2.2.2.1), (7, .int a1.2.2.1), (6, .int a1.2.1), (5, .int e3x.2.1), (4, .int a1.1), (3, .int e3x.1), (2, .ref (ad 168)), (1, .int q1), (0, .ref (ad 167))]) C0.1 C0.2.1 dL_told_432 hl (by decide) rfl (fun ls hl => ?_)
              obtain ⟨e42, he42, hf⟩ := bd_e hf
              refine X_loop (pc := 434) (xpc := 470) (fu := fun a3 => e3x.2.2.2) (fl := fun a3 => [(14, .int a3.2), (13, .int a2.2), (12, .int a3.1), (11, .int a1.2.2.2.2.2.2), (10, .int a1.2.2.2.2.2.1), (9, .int a1.2.2.2.2.1), (8, .int a1.2.2.2.1), (7, .int a1.2.2.1), (6, .int a1.2.1), (5, .int e3x.2.1), (4, .int a1.1), (3, .int e3x.1), (2, .ref (ad 168)), (1, .int q1), (0, .ref (ad 167))]) (fun a3 r hf hE hG H locs ls hw hl => ?_) he42 (fun H locs ls hw hl => ?_) hw hl
              · unfold gL_told_434 at hf
                refine lv_iload (pc := 434) C0.1 C0.2.1 dL_told_434 (lv_at hl 0 rfl) ?_
                refine lv_iload_n (pc := 436) C0.1 C0.2.1 dL_told_436 rfl (lv_at hl 13 rfl) ?_
                refine lv_icmp_ge (tgt := 470) (pc := 437) C0.1 C0.2.1 dL_told_437 (by decide) (fun hc => ?_) (fun hc => ?_)
                · have hf := if_t hf hc
                  exact hE _ (Option.some.inj hf).symm H locs ls hw (lv_sub hl [0, 1, 2, 3, 4, 5, 6, 7, 8, 9, 10, 11, 12, 13, 14] rfl)
                · have hf := if_f hf hc
                  refine lv_iload (pc := 440) C0.1 C0.2.1 dL_told_440 (lv_at hl 2 rfl) ?_
                  refine lv_iload (pc := 442) C0.1 C0.2.1 dL_told_442 (lv_at hl 2 rfl) ?_
                  refine lv_iload (pc := 444) C0.1 C0.2.1 dL_told_444 (lv_at hl 0 rfl) ?_
                  refine lv_ishr (pc := 446) C0.1 C0.2.1 dL_told_446 ?_
                  refine lv_iconst (v := 1) (pc := 447) C0.1 C0.2.1 dL_told_447 (by decide) ?_
                  refine lv_iand (pc := 448) C0.1 C0.2.1 dL_told_448 ?_
                  refine lv_iconst (v := 1) (pc := 449) C0.1 C0.2.1 dL_told_449 (by decide) ?_
                  obtain ⟨j43, hj43, hf⟩ := bd_e hf
                  refine X_join (pc := 450) (xpc := 461) (j := j43) (st := [.int a3.1]) hw (fun hE0 => ?_) (fun H locs hw => ?_)
                  · have hf := hj43
                    refine lv_icmp_ne (tgt := 460) (pc := 450) C0.1 C0.2.1 dL_told_450 (by decide) (fun hc => ?_) (fun hc => ?_)
                    · have hf := if_f hf hc
                      refine lv_iconst (v := 0) (pc := 460) C0.1 C0.2.1 dL_told_460 (by decide) ?_
                      exact X_leaf hE0 (Option.some.inj hf) hw
                    · have hf := if_t hf hc
                      refine lv_aload_n (pc := 453) C0.1 C0.2.1 dL_told_453 rfl (lv_at hl 12 rfl) ?_
                      refine lv_iload (pc := 454) C0.1 C0.2.1 dL_told_454 (lv_at hl 0 rfl) ?_
                      obtain ⟨hi, hf⟩ := gd_e hf
                      refine x_iald (pc := 456) C0 hK hw (by decide) rfl hi dL_told_456 ?_
                      refine lv_goto (tgt := 461) (pc := 457) C0.1 C0.2.1 dL_told_457 (by decide) ?_
                      exact X_leaf hE0 (Option.some.inj hf) hw
                  · skip
                    refine lv_ior (pc := 461) C0.1 C0.2.1 dL_told_461 ?_
                    refine lv_istore (pc := 462) (lv' := [(12, .int (a3.1 ||| j43)), (14, .int a3.2), (13, .int a2.2), (11, .int a1.2.2.2.2.2.2), (10, .int a1.2.2.2.2.2.1), (9, .int a1.2.2.2.2.1), (8, .int a1.2.2.2.1), (7, .int a1.2.2.1), (6, .int a1.2.1), (5, .int e3x.2.1), (4, .int a1.1), (3, .int e3x.1), (2, .ref (ad 168)), (1, .int q1), (0, .ref (ad 167))]) C0.1 C0.2.1 dL_told_462 hl (by decide) rfl (fun ls hl => ?_)
                    refine lv_iinc (pc := 464) (v := a3.2 + 1) (lv' := [(14, .int (a3.2 + 1)), (12, .int (a3.1 ||| j43)), (13, .int a2.2), (11, .int a1.2.2.2.2.2.2), (10, .int a1.2.2.2.2.2.1), (9, .int a1.2.2.2.2.1), (8, .int a1.2.2.2.1), (7, .int a1.2.2.1), (6, .int a1.2.1), (5, .int e3x.2.1), (4, .int a1.1), (3, .int e3x.1), (2, .ref (ad 168)), (1, .int q1), (0, .ref (ad 167))]) C0.1 C0.2.1 dL_told_464 hl (k := 1) rfl rfl (by decide) rfl (fun ls hl => ?_)
                    refine lv_goto (tgt := 434) (pc := 467) C0.1 C0.2.1 dL_told_467 (by decide) ?_
                    exact hG _ (Option.some.inj hf).symm H locs ls hw (lv_sub hl [0, 2, 1, 3, 4, 5, 6, 7, 8, 9, 10, 11, 12, 13, 14] rfl)
              · skip
                refine lv_iinc (pc := 470) (v := a2.2 + 1) (lv' := [(13, .int (a2.2 + 1)), (14, .int e42.2), (12, .int e42.1), (11, .int a1.2.2.2.2.2.2), (10, .int a1.2.2.2.2.2.1), (9, .int a1.2.2.2.2.1), (8, .int a1.2.2.2.1), (7, .int a1.2.2.1), (6, .int a1.2.1), (5, .int e3x.2.1), (4, .int a1.1), (3, .int e3x.1), (2, .ref (ad 168)), (1, .int q1), (0, .ref (ad 167))]) C0.1 C0.2.1 dL_told_470 hl (k := 1) rfl rfl (by decide) rfl (fun ls hl => ?_)
                refine lv_goto (tgt := 425) (pc := 473) C0.1 C0.2.1 dL_told_473 (by decide) ?_
                exact hG _ (Option.some.inj hf).symm H locs ls hw (lv_sub hl [0, 2, 3, 4, 5, 6, 7, 8, 9, 10, 11, 12, 13, 14] rfl)
          · skip
            refine lv_iconst (v := 0) (pc := 476) C0.1 C0.2.1 dL_told_476 (by decide) ?_
            refine lv_istore (pc := 477) (lv' := [(13, .int 0), (12, .int e41.1), (11, .int a1.2.2.2.2.2.2), (10, .int a1.2.2.2.2.2.1), (9, .int a1.2.2.2.2.1), (8, .int a1.2.2.2.1), (7, .int a1.2.2.1), (6, .int a1.2.1), (5, .int e3x.2.1), (4, .int a1.1), (3, .int e3x.1), (2, .ref (ad 168)), (1, .int q1), (0, .ref (ad 167))]) C0.1 C0.2.1 dL_told_477 hl (by decide) rfl (fun ls hl => ?_)
            refine lv_iconst (v := 0) (pc := 479) C0.1 C0.2.1 dL_told_479 (by decide) ?_
            refine lv_istore (pc := 480) (lv' := [(14, .int 0), (13, .int 0), (12, .int e41.1), (11, .int a1.2.2.2.2.2.2), (10, .int a1.2.2.2.2.2.1), (9, .int a1.2.2.2.2.1), (8, .int a1.2.2.2.1), (7, .int a1.2.2.1), (6, .int a1.2.1), (5, .int e3x.2.1), (4, .int a1.1), (3, .int e3x.1), (2, .ref (ad 168)), (1, .int q1), (0, .ref (ad 167))]) C0.1 C0.2.1 dL_told_480 hl (by decide) rfl (fun ls hl => ?_)
            obtain ⟨e44, he44, hf⟩ := bd_e hf
            refine X_loop (pc := 482) (xpc := 532) (fu := fun a2 => e3x.2.2.2) (fl := fun a2 => [(14, .int a2.2), (13, .int a2.1), (12, .int e41.1), (11, .int a1.2.2.2.2.2.2), (10, .int a1.2.2.2.2.2.1), (9, .int a1.2.2.2.2.1), (8, .int a1.2.2.2.1), (7, .int a1.2.2.1), (6, .int a1.2.1), (5, .int e3x.2.1), (4, .int a1.1), (3, .int e3x.1), (2, .ref (ad 168)), (1, .int q1), (0, .ref (ad 167))]) (fun a2 r hf hE hG H locs ls hw hl => ?_) he44 (fun H locs ls hw hl => ?_) hw hl
            · unfold gL_told_482 at hf
              refine lv_iload (pc := 482) C0.1 C0.2.1 dL_told_482 (lv_at hl 0 rfl) ?_
              refine lv_iload_n (pc := 484) C0.1 C0.2.1 dL_told_484 rfl (lv_at hl 13 rfl) ?_
              refine lv_icmp_ge (tgt := 532) (pc := 485) C0.1 C0.2.1 dL_told_485 (by decide) (fun hc => ?_) (fun hc => ?_)
              · have hf := if_t hf hc
                exact hE _ (Option.some.inj hf).symm H locs ls hw (lv_sub hl [0, 1, 2, 3, 4, 5, 6, 7, 8, 9, 10, 11, 12, 13, 14] rfl)
              · have hf := if_f hf hc
                refine lv_iload (pc := 488) C0.1 C0.2.1 dL_told_488 (lv_at hl 1 rfl) ?_
                refine lv_iload (pc := 490) C0.1 C0.2.1 dL_told_490 (lv_at hl 2 rfl) ?_
                refine lv_iload (pc := 492) C0.1 C0.2.1 dL_told_492 (lv_at hl 0 rfl) ?_
                refine lv_ishr (pc := 494) C0.1 C0.2.1 dL_told_494 ?_
                refine lv_iconst (v := 1) (pc := 495) C0.1 C0.2.1 dL_told_495 (by decide) ?_
                refine lv_iand (pc := 496) C0.1 C0.2.1 dL_told_496 ?_
                refine lv_iconst (v := 1) (pc := 497) C0.1 C0.2.1 dL_told_497 (by decide) ?_
                obtain ⟨j45, hj45, hf⟩ := bd_e hf
                refine X_join (pc := 498) (xpc := 523) (j := j45) (st := [.int a2.1]) hw (fun hE0 => ?_) (fun H locs hw => ?_)
                · have hf := hj45
                  refine lv_icmp_ne (tgt := 522) (pc := 498) C0.1 C0.2.1 dL_told_498 (by decide) (fun hc => ?_) (fun hc => ?_)
                  · have hf := if_f hf hc
                    refine lv_iconst (v := 0) (pc := 522) C0.1 C0.2.1 dL_told_522 (by decide) ?_
                    exact X_leaf hE0 (Option.some.inj hf) hw
                  · have hf := if_t hf hc
                    refine lv_aload_n (pc := 501) C0.1 C0.2.1 dL_told_501 rfl (lv_at hl 14 rfl) ?_
                    refine lv_iload (pc := 502) C0.1 C0.2.1 dL_told_502 (lv_at hl 0 rfl) ?_
                    refine lv_iconst (v := 3) (pc := 504) C0.1 C0.2.1 dL_told_504 (by decide) ?_
                    obtain ⟨q46, hq46, hf⟩ := bd_e hf
                    refine z_backp0 (pc := 505) hI emb_1 hw (z_runV (pc := 505) (aa := ad) (As := [.int a2.2, .int 3]) (rest := [.int a2.1]) C0 hK (emb_P emb_1 (fun j _ => by rw [Nat.zero_add]) (fun j _ => by rw [Nat.zero_add]) hw.1) hl.1 ⟨Nat.le_of_ble_eq_true rfl, Nat.le_of_ble_eq_true rfl⟩ (kX6_tray l D y ad hI0 a2.2 3 e3x.2.2.2 hq46) (by decide) ly_M rfl rfl wc_X6_tray wm_L_40 wi_X6_tray ws_X6_tray wn_X6 ⟨rfl, rfl⟩ hd_X6_tray rfl ⟨Nat.le_of_ble_eq_true rfl, Nat.le_of_ble_eq_true rfl⟩ (Nat.le_of_ble_eq_true rfl) dL_told_505) (fun H locs hw => ?_)
                    refine lv_aload_n (pc := 508) C0.1 C0.2.1 dL_told_508 rfl (lv_at hl 14 rfl) ?_
                    refine lv_iload (pc := 509) C0.1 C0.2.1 dL_told_509 (lv_at hl 3 rfl) ?_
                    refine lv_iconst (v := 3) (pc := 511) C0.1 C0.2.1 dL_told_511 (by decide) ?_
                    obtain ⟨q47, hq47, hf⟩ := bd_e hf
                    refine z_backp0 (pc := 512) hI emb_1 hw (z_runV (pc := 512) (aa := ad) (As := [.int a1.2.2.2.2.2.2, .int 3]) (rest := [.int q46, .int a2.1]) C0 hK (emb_P emb_1 (fun j _ => by rw [Nat.zero_add]) (fun j _ => by rw [Nat.zero_add]) hw.1) hl.1 ⟨Nat.le_of_ble_eq_true rfl, Nat.le_of_ble_eq_true rfl⟩ (kX6_tray l D y ad hI0 a1.2.2.2.2.2.2 3 e3x.2.2.2 hq47) (by decide) ly_M rfl rfl wc_X6_tray wm_L_40 wi_X6_tray ws_X6_tray wn_X6 ⟨rfl, rfl⟩ hd_X6_tray rfl ⟨Nat.le_of_ble_eq_true rfl, Nat.le_of_ble_eq_true rfl⟩ (Nat.le_of_ble_eq_true rfl) dL_told_512) (fun H locs hw => ?_)
                    obtain ⟨j48, hj48, hf⟩ := bd_e hf
                    refine X_join (pc := 515) (xpc := 523) (j := j48) (st := [.int a2.1]) hw (fun hE0 => ?_) (fun H locs hw => ?_)
                    · have hf := hj48
                      refine lv_icmp_le (tgt := 522) (pc := 515) C0.1 C0.2.1 dL_told_515 (by decide) (fun hc => ?_) (fun hc => ?_)
                      · have hf := if_t hf hc
                        refine lv_iconst (v := 0) (pc := 522) C0.1 C0.2.1 dL_told_522 (by decide) ?_
                        exact X_leaf hE0 (Option.some.inj hf) hw
                      · have hf := if_f hf hc
                        refine lv_iconst (v := 1) (pc := 518) C0.1 C0.2.1 dL_told_518 (by decide) ?_
                        refine lv_goto (tgt := 523) (pc := 519) C0.1 C0.2.1 dL_told_519 (by decide) ?_
                        exact X_leaf hE0 (Option.some.inj hf) hw
                    · skip
                      exact X_leaf hE0 (Option.some.inj hf) hw
                · skip
                  refine lv_iadd (pc := 523) C0.1 C0.2.1 dL_told_523 ?_
                  refine lv_istore (pc := 524) (lv' := [(13, .int (a2.1 + j45)), (14, .int a2.2), (12, .int e41.1), (11, .int a1.2.2.2.2.2.2), (10, .int a1.2.2.2.2.2.1), (9, .int a1.2.2.2.2.1), (8, .int a1.2.2.2.1), (7, .int a1.2.2.1), (6, .int a1.2.1), (5, .int e3x.2.1), (4, .int a1.1), (3, .int e3x.1), (2, .ref (ad 168)), (1, .int q1), (0, .ref (ad 167))]) C0.1 C0.2.1 dL_told_524 hl (by decide) rfl (fun ls hl => ?_)
                  refine lv_iinc (pc := 526) (v := a2.2 + 1) (lv' := [(14, .int (a2.2 + 1)), (13, .int (a2.1 + j45)), (12, .int e41.1), (11, .int a1.2.2.2.2.2.2), (10, .int a1.2.2.2.2.2.1), (9, .int a1.2.2.2.2.1), (8, .int a1.2.2.2.1), (7, .int a1.2.2.1), (6, .int a1.2.1), (5, .int e3x.2.1), (4, .int a1.1), (3, .int e3x.1), (2, .ref (ad 168)), (1, .int q1), (0, .ref (ad 167))]) C0.1 C0.2.1 dL_told_526 hl (k := 1) rfl rfl (by decide) rfl (fun ls hl => ?_)
                  refine lv_goto (tgt := 482) (pc := 529) C0.1 C0.2.1 dL_told_529 (by decide) ?_
                  exact hG _ (Option.some.inj hf).symm H locs ls hw (lv_sub hl [0, 1, 2, 3, 4, 5, 6, 7, 8, 9, 10, 11, 12, 13, 14] rfl)
            · skip
              refine lv_iinc (pc := 532) (v := a1.2.2.2.2.1 + 1) (lv' := [(9, .int (a1.2.2.2.2.1 + 1)), (14, .int e44.2), (13, .int e44.1), (12, .int e41.1), (11, .int a1.2.2.2.2.2.2), (10, .int a1.2.2.2.2.2.1), (8, .int a1.2.2.2.1), (7, .int a1.2.2.1), (6, .int a1.2.1), (5, .int e3x.2.1), (4, .int a1.1), (3, .int e3x.1), (2, .ref (ad 168)), (1, .int q1), (0, .ref (ad 167))]) C0.1 C0.2.1 dL_told_532 hl (k := 5) rfl rfl (by decide) rfl (fun ls hl => ?_)
              refine lv_iload (pc := 535) C0.1 C0.2.1 dL_told_535 (lv_at hl 8 rfl) ?_
              refine lv_iload (pc := 537) C0.1 C0.2.1 dL_told_537 (lv_at hl 2 rfl) ?_
              refine lv_iadd (pc := 539) C0.1 C0.2.1 dL_told_539 ?_
              refine lv_istore (pc := 540) (lv' := [(6, .int (a1.2.1 + e44.1)), (9, .int (a1.2.2.2.2.1 + 1)), (14, .int e44.2), (13, .int e44.1), (12, .int e41.1), (11, .int a1.2.2.2.2.2.2), (10, .int a1.2.2.2.2.2.1), (8, .int a1.2.2.2.1), (7, .int a1.2.2.1), (5, .int e3x.2.1), (4, .int a1.1), (3, .int e3x.1), (2, .ref (ad 168)), (1, .int q1), (0, .ref (ad 167))]) C0.1 C0.2.1 dL_told_540 hl (by decide) rfl (fun ls hl => ?_)
              refine lv_iload (pc := 542) C0.1 C0.2.1 dL_told_542 (lv_at hl 8 rfl) ?_
              refine lv_iload (pc := 544) C0.1 C0.2.1 dL_told_544 (lv_at hl 4 rfl) ?_
              obtain ⟨q49, hq49, hf⟩ := bd_e hf
              refine z_backp0 (pc := 546) hI emb_1 hw (z_runS (pc := 546) (aa := ad) (As := [.int e41.1]) (rest := [.int a1.2.2.1]) C0 hK (emb_P emb_1 (fun j _ => by rw [Nat.zero_add]) (fun j _ => by rw [Nat.zero_add]) hw.1) hl.1 ⟨Nat.le_of_ble_eq_true rfl, Nat.le_of_ble_eq_true rfl⟩ (kL_bits l D y ad hI0 e41.1 e3x.2.2.2 hq49) rfl wc_L_bits wm_L_63 wt_L_bits wn_L ⟨rfl, rfl⟩ hd_L_bits rfl ⟨Nat.le_of_ble_eq_true rfl, Nat.le_of_ble_eq_true rfl⟩ (Nat.le_of_ble_eq_true rfl) dL_told_546) (fun H locs hw => ?_)
              refine lv_iadd (pc := 549) C0.1 C0.2.1 dL_told_549 ?_
              refine lv_istore (pc := 550) (lv' := [(7, .int (a1.2.2.1 + q49)), (6, .int (a1.2.1 + e44.1)), (9, .int (a1.2.2.2.2.1 + 1)), (14, .int e44.2), (13, .int e44.1), (12, .int e41.1), (11, .int a1.2.2.2.2.2.2), (10, .int a1.2.2.2.2.2.1), (8, .int a1.2.2.2.1), (5, .int e3x.2.1), (4, .int a1.1), (3, .int e3x.1), (2, .ref (ad 168)), (1, .int q1), (0, .ref (ad 167))]) C0.1 C0.2.1 dL_told_550 hl (by decide) rfl (fun ls hl => ?_)
              refine lv_iload (pc := 552) C0.1 C0.2.1 dL_told_552 (lv_at hl 8 rfl) ?_
              refine lv_aload_n (pc := 554) C0.1 C0.2.1 dL_told_554 rfl (lv_at hl 12 rfl) ?_
              refine lv_iload (pc := 555) C0.1 C0.2.1 dL_told_555 (lv_at hl 6 rfl) ?_
              obtain ⟨hi, hf⟩ := gd_e hf
              refine x_iald (pc := 557) C0 hK hw (by decide) rfl hi dL_told_557 ?_
              obtain ⟨j50, hj50, hf⟩ := bd_e hf
              refine X_join (pc := 558) (xpc := 566) (j := j50) (st := [.int a1.2.2.2.1]) hw (fun hE0 => ?_) (fun H locs hw => ?_)
              · have hf := hj50
                refine lv_if_ne (tgt := 565) (pc := 558) C0.1 C0.2.1 dL_told_558 (by decide) (fun hc => ?_) (fun hc => ?_)
                · have hf := if_f hf hc
                  refine lv_iconst (v := 0) (pc := 565) C0.1 C0.2.1 dL_told_565 (by decide) ?_
                  exact X_leaf hE0 (Option.some.inj hf) hw
                · have hf := if_t hf hc
                  refine lv_iconst (v := 1) (pc := 561) C0.1 C0.2.1 dL_told_561 (by decide) ?_
                  refine lv_goto (tgt := 566) (pc := 562) C0.1 C0.2.1 dL_told_562 (by decide) ?_
                  exact X_leaf hE0 (Option.some.inj hf) hw
              · skip
                refine lv_iadd (pc := 566) C0.1 C0.2.1 dL_told_566 ?_
                refine lv_istore (pc := 567) (lv' := [(8, .int (a1.2.2.2.1 + j50)), (7, .int (a1.2.2.1 + q49)), (6, .int (a1.2.1 + e44.1)), (9, .int (a1.2.2.2.2.1 + 1)), (14, .int e44.2), (13, .int e44.1), (12, .int e41.1), (11, .int a1.2.2.2.2.2.2), (10, .int a1.2.2.2.2.2.1), (5, .int e3x.2.1), (4, .int a1.1), (3, .int e3x.1), (2, .ref (ad 168)), (1, .int q1), (0, .ref (ad 167))]) C0.1 C0.2.1 dL_told_567 hl (by decide) rfl (fun ls hl => ?_)
                refine lv_iload (pc := 569) C0.1 C0.2.1 dL_told_569 (lv_at hl 10 rfl) ?_
                refine lv_aload_n (pc := 571) C0.1 C0.2.1 dL_told_571 rfl (lv_at hl 14 rfl) ?_
                refine lv_iload (pc := 572) C0.1 C0.2.1 dL_told_572 (lv_at hl 7 rfl) ?_
                refine lv_iconst (v := 0) (pc := 574) C0.1 C0.2.1 dL_told_574 (by decide) ?_
                obtain ⟨q51, hq51, hf⟩ := bd_e hf
                refine z_backp0 (pc := 575) hI emb_1 hw (z_runV (pc := 575) (aa := ad) (As := [.int a1.2.2.2.2.2.2, .int 0]) (rest := [.int a1.1]) C0 hK (emb_P emb_1 (fun j _ => by rw [Nat.zero_add]) (fun j _ => by rw [Nat.zero_add]) hw.1) hl.1 ⟨Nat.le_of_ble_eq_true rfl, Nat.le_of_ble_eq_true rfl⟩ (kX6_tray l D y ad hI0 a1.2.2.2.2.2.2 0 e3x.2.2.2 hq51) (by decide) ly_M rfl rfl wc_X6_tray wm_L_40 wi_X6_tray ws_X6_tray wn_X6 ⟨rfl, rfl⟩ hd_X6_tray rfl ⟨Nat.le_of_ble_eq_true rfl, Nat.le_of_ble_eq_true rfl⟩ (Nat.le_of_ble_eq_true rfl) dL_told_575) (fun H locs hw => ?_)
                refine lv_aload_n (pc := 578) C0.1 C0.2.1 dL_told_578 rfl (lv_at hl 14 rfl) ?_
                refine lv_iload (pc := 579) C0.1 C0.2.1 dL_told_579 (lv_at hl 7 rfl) ?_
                refine lv_iconst (v := 1) (pc := 581) C0.1 C0.2.1 dL_told_581 (by decide) ?_
                obtain ⟨q52, hq52, hf⟩ := bd_e hf
                refine z_backp0 (pc := 582) hI emb_1 hw (z_runV (pc := 582) (aa := ad) (As := [.int a1.2.2.2.2.2.2, .int 1]) (rest := [.int q51, .int a1.1]) C0 hK (emb_P emb_1 (fun j _ => by rw [Nat.zero_add]) (fun j _ => by rw [Nat.zero_add]) hw.1) hl.1 ⟨Nat.le_of_ble_eq_true rfl, Nat.le_of_ble_eq_true rfl⟩ (kX6_tray l D y ad hI0 a1.2.2.2.2.2.2 1 e3x.2.2.2 hq52) (by decide) ly_M rfl rfl wc_X6_tray wm_L_40 wi_X6_tray ws_X6_tray wn_X6 ⟨rfl, rfl⟩ hd_X6_tray rfl ⟨Nat.le_of_ble_eq_true rfl, Nat.le_of_ble_eq_true rfl⟩ (Nat.le_of_ble_eq_true rfl) dL_told_582) (fun H locs hw => ?_)
                refine lv_imul (pc := 585) C0.1 C0.2.1 dL_told_585 ?_
                refine lv_aload_n (pc := 586) C0.1 C0.2.1 dL_told_586 rfl (lv_at hl 14 rfl) ?_
                refine lv_iload (pc := 587) C0.1 C0.2.1 dL_told_587 (lv_at hl 7 rfl) ?_
                obtain ⟨q53, hq53, hf⟩ := bd_e hf
                refine z_backp0 (pc := 589) hI emb_1 hw (z_runS (pc := 589) (aa := ad) (As := [.ref (ad 167), .int a1.2.2.2.2.2.2]) (rest := [.int (q51 * q52), .int a1.1]) C0 hK (emb_P emb_1 (fun j _ => by rw [Nat.zero_add]) (fun j _ => by rw [Nat.zero_add]) hw.1) hl.1 ⟨Nat.le_of_ble_eq_true rfl, Nat.le_of_ble_eq_true rfl⟩ (kL_high l D y ad hI0 a1.2.2.2.2.2.2 e3x.2.2.2 hq53) rfl wc_L_high wm_L_55 wt_L_high wn_L ⟨rfl, rfl⟩ hd_L_high rfl ⟨Nat.le_of_ble_eq_true rfl, Nat.le_of_ble_eq_true rfl⟩ (Nat.le_of_ble_eq_true rfl) dL_told_589) (fun H locs hw => ?_)
                refine lv_imul (pc := 592) C0.1 C0.2.1 dL_told_592 ?_
                refine lv_iadd (pc := 593) C0.1 C0.2.1 dL_told_593 ?_
                refine lv_istore (pc := 594) (lv' := [(4, .int (a1.1 + ((q51 * q52) * q53))), (8, .int (a1.2.2.2.1 + j50)), (7, .int (a1.2.2.1 + q49)), (6, .int (a1.2.1 + e44.1)), (9, .int (a1.2.2.2.2.1 + 1)), (14, .int e44.2), (13, .int e44.1), (12, .int e41.1), (11, .int a1.2.2.2.2.2.2), (10, .int a1.2.2.2.2.2.1), (5, .int e3x.2.1), (3, .int e3x.1), (2, .ref (ad 168)), (1, .int q1), (0, .ref (ad 167))]) C0.1 C0.2.1 dL_told_594 hl (by decide) rfl (fun ls hl => ?_)
                refine lv_iload (pc := 596) C0.1 C0.2.1 dL_told_596 (lv_at hl 9 rfl) ?_
                refine lv_aload_n (pc := 598) C0.1 C0.2.1 dL_told_598 rfl (lv_at hl 14 rfl) ?_
                refine lv_iload (pc := 599) C0.1 C0.2.1 dL_told_599 (lv_at hl 8 rfl) ?_
                refine lv_bipush (v := 15) (pc := 601) C0.1 C0.2.1 dL_told_601 (by decide) ?_
                obtain ⟨q54, hq54, hf⟩ := bd_e hf
                refine z_backp0 (pc := 603) hI emb_1 hw (z_runV (pc := 603) (aa := ad) (As := [.int a1.2.2.2.2.2.2, .int 15]) (rest := [.int a1.2.2.2.2.2.1]) C0 hK (emb_P emb_1 (fun j _ => by rw [Nat.zero_add]) (fun j _ => by rw [Nat.zero_add]) hw.1) hl.1 ⟨Nat.le_of_ble_eq_true rfl, Nat.le_of_ble_eq_true rfl⟩ (kX6_tray l D y ad hI0 a1.2.2.2.2.2.2 15 e3x.2.2.2 hq54) (by decide) ly_M rfl rfl wc_X6_tray wm_L_40 wi_X6_tray ws_X6_tray wn_X6 ⟨rfl, rfl⟩ hd_X6_tray rfl ⟨Nat.le_of_ble_eq_true rfl, Nat.le_of_ble_eq_true rfl⟩ (Nat.le_of_ble_eq_true rfl) dL_told_603) (fun H locs hw => ?_)
                refine lv_iadd (pc := 606) C0.1 C0.2.1 dL_told_606 ?_
                refine lv_istore (pc := 607) (lv' := [(10, .int (a1.2.2.2.2.2.1 + q54)), (4, .int (a1.1 + ((q51 * q52) * q53))), (8, .int (a1.2.2.2.1 + j50)), (7, .int (a1.2.2.1 + q49)), (6, .int (a1.2.1 + e44.1)), (9, .int (a1.2.2.2.2.1 + 1)), (14, .int e44.2), (13, .int e44.1), (12, .int e41.1), (11, .int a1.2.2.2.2.2.2), (5, .int e3x.2.1), (3, .int e3x.1), (2, .ref (ad 168)), (1, .int q1), (0, .ref (ad 167))]) C0.1 C0.2.1 dL_told_607 hl (by decide) rfl (fun ls hl => ?_)
                refine lv_aload_n (pc := 609) C0.1 C0.2.1 dL_told_609 rfl (lv_at hl 14 rfl) ?_
                refine lv_iload (pc := 610) C0.1 C0.2.1 dL_told_610 (lv_at hl 9 rfl) ?_
                refine lv_bipush (v := 10) (pc := 612) C0.1 C0.2.1 dL_told_612 (by decide) ?_
                obtain ⟨q55, hq55, hf⟩ := bd_e hf
                refine z_backp0 (pc := 614) hI emb_1 hw (z_runV (pc := 614) (aa := ad) (As := [.int a1.2.2.2.2.2.2, .int 10]) (rest := []) C0 hK (emb_P emb_1 (fun j _ => by rw [Nat.zero_add]) (fun j _ => by rw [Nat.zero_add]) hw.1) hl.1 ⟨Nat.le_of_ble_eq_true rfl, Nat.le_of_ble_eq_true rfl⟩ (kX6_tray l D y ad hI0 a1.2.2.2.2.2.2 10 e3x.2.2.2 hq55) (by decide) ly_M rfl rfl wc_X6_tray wm_L_40 wi_X6_tray ws_X6_tray wn_X6 ⟨rfl, rfl⟩ hd_X6_tray rfl ⟨Nat.le_of_ble_eq_true rfl, Nat.le_of_ble_eq_true rfl⟩ (Nat.le_of_ble_eq_true rfl) dL_told_614) (fun H locs hw => ?_)
                refine lv_aload_n (pc := 617) C0.1 C0.2.1 dL_told_617 rfl (lv_at hl 14 rfl) ?_
                refine lv_iload (pc := 618) C0.1 C0.2.1 dL_told_618 (lv_at hl 9 rfl) ?_
                refine lv_bipush (v := 9) (pc := 620) C0.1 C0.2.1 dL_told_620 (by decide) ?_
                obtain ⟨q56, hq56, hf⟩ := bd_e hf
                refine z_backp0 (pc := 622) hI emb_1 hw (z_runV (pc := 622) (aa := ad) (As := [.int a1.2.2.2.2.2.2, .int 9]) (rest := [.int q55]) C0 hK (emb_P emb_1 (fun j _ => by rw [Nat.zero_add]) (fun j _ => by rw [Nat.zero_add]) hw.1) hl.1 ⟨Nat.le_of_ble_eq_true rfl, Nat.le_of_ble_eq_true rfl⟩ (kX6_tray l D y ad hI0 a1.2.2.2.2.2.2 9 e3x.2.2.2 hq56) (by decide) ly_M rfl rfl wc_X6_tray wm_L_40 wi_X6_tray ws_X6_tray wn_X6 ⟨rfl, rfl⟩ hd_X6_tray rfl ⟨Nat.le_of_ble_eq_true rfl, Nat.le_of_ble_eq_true rfl⟩ (Nat.le_of_ble_eq_true rfl) dL_told_622) (fun H locs hw => ?_)
                refine lv_aload_n (pc := 625) C0.1 C0.2.1 dL_told_625 rfl (lv_at hl 14 rfl) ?_
                refine lv_iload (pc := 626) C0.1 C0.2.1 dL_told_626 (lv_at hl 9 rfl) ?_
                obtain ⟨q57, hq57, hf⟩ := bd_e hf
                refine z_backp0 (pc := 628) hI emb_1 hw (z_runS (pc := 628) (aa := ad) (As := [.ref (ad 167), .int a1.2.2.2.2.2.2]) (rest := [.int q56, .int q55]) C0 hK (emb_P emb_1 (fun j _ => by rw [Nat.zero_add]) (fun j _ => by rw [Nat.zero_add]) hw.1) hl.1 ⟨Nat.le_of_ble_eq_true rfl, Nat.le_of_ble_eq_true rfl⟩ (kL_high l D y ad hI0 a1.2.2.2.2.2.2 e3x.2.2.2 hq57) rfl wc_L_high wm_L_55 wt_L_high wn_L ⟨rfl, rfl⟩ hd_L_high rfl ⟨Nat.le_of_ble_eq_true rfl, Nat.le_of_ble_eq_true rfl⟩ (Nat.le_of_ble_eq_true rfl) dL_told_628) (fun H locs hw => ?_)
                refine lv_iadd (pc := 631) C0.1 C0.2.1 dL_told_631 ?_
                refine lv_icmp_ne (tgt := 728) (pc := 632) C0.1 C0.2.1 dL_told_632 (by decide) (fun hc => ?_) (fun hc => ?_)
                · have hf := if_f hf hc
                  refine lv_iconst (v := 0) (pc := 728) C0.1 C0.2.1 dL_told_728 (by decide) ?_
                  refine W.widen (k := 1) (n := 12) (Nat.le_of_ble_eq_true rfl) (Nat.le_of_ble_eq_true rfl) ?_
                  exact z_zretN (pc := 729) emb_1 (fun j h1 h2 => by rw [show j = 168 by omega]; exact hnew) (fun j hj => (hd j hj).symm) C0 hK hk hr hw rfl (hX _ (Option.some.inj hf).symm) dL_told_729
                · have hf := if_t hf hc
                  refine lv_aload_n (pc := 635) C0.1 C0.2.1 dL_told_635 rfl (lv_at hl 14 rfl) ?_
                  refine lv_iload (pc := 636) C0.1 C0.2.1 dL_told_636 (lv_at hl 9 rfl) ?_
                  refine lv_bipush (v := 10) (pc := 638) C0.1 C0.2.1 dL_told_638 (by decide) ?_
                  obtain ⟨q58, hq58, hf⟩ := bd_e hf
                  refine z_backp0 (pc := 640) hI emb_1 hw (z_runV (pc := 640) (aa := ad) (As := [.int a1.2.2.2.2.2.2, .int 10]) (rest := []) C0 hK (emb_P emb_1 (fun j _ => by rw [Nat.zero_add]) (fun j _ => by rw [Nat.zero_add]) hw.1) hl.1 ⟨Nat.le_of_ble_eq_true rfl, Nat.le_of_ble_eq_true rfl⟩ (kX6_tray l D y ad hI0 a1.2.2.2.2.2.2 10 e3x.2.2.2 hq58) (by decide) ly_M rfl rfl wc_X6_tray wm_L_40 wi_X6_tray ws_X6_tray wn_X6 ⟨rfl, rfl⟩ hd_X6_tray rfl ⟨Nat.le_of_ble_eq_true rfl, Nat.le_of_ble_eq_true rfl⟩ (Nat.le_of_ble_eq_true rfl) dL_told_640) (fun H locs hw => ?_)
                  refine lv_aload_n (pc := 643) C0.1 C0.2.1 dL_told_643 rfl (lv_at hl 14 rfl) ?_
                  refine lv_iconst (v := 2) (pc := 644) C0.1 C0.2.1 dL_told_644 (by decide) ?_
                  obtain ⟨q59, hq59, hf⟩ := bd_e hf
                  refine z_backp0 (pc := 645) hI emb_1 hw (z_runV (pc := 645) (aa := ad) (As := [.int 2]) (rest := [.int q58]) C0 hK (emb_P emb_1 (fun j _ => by rw [Nat.zero_add]) (fun j _ => by rw [Nat.zero_add]) hw.1) hl.1 ⟨Nat.le_of_ble_eq_true rfl, Nat.le_of_ble_eq_true rfl⟩ (kX6_count l D y ad hI0 2 e3x.2.2.2 hq59) (by decide) ly_M rfl rfl wc_X6_count wm_L_37 wi_X6_count ws_X6_count wn_X6 ⟨rfl, rfl⟩ hd_X6_count rfl ⟨Nat.le_of_ble_eq_true rfl, Nat.le_of_ble_eq_true rfl⟩ (Nat.le_of_ble_eq_true rfl) dL_told_645) (fun H locs hw => ?_)
                  refine lv_icmp_gt (tgt := 728) (pc := 648) C0.1 C0.2.1 dL_told_648 (by decide) (fun hc => ?_) (fun hc => ?_)
                  · have hf := if_t hf hc
                    refine lv_iconst (v := 0) (pc := 728) C0.1 C0.2.1 dL_told_728 (by decide) ?_
                    refine W.widen (k := 1) (n := 12) (Nat.le_of_ble_eq_true rfl) (Nat.le_of_ble_eq_true rfl) ?_
                    exact z_zretN (pc := 729) emb_1 (fun j h1 h2 => by rw [show j = 168 by omega]; exact hnew) (fun j hj => (hd j hj).symm) C0 hK hk hr hw rfl (hX _ (Option.some.inj hf).symm) dL_told_729
                  · have hf := if_f hf hc
                    refine lv_aload_n (pc := 651) C0.1 C0.2.1 dL_told_651 rfl (lv_at hl 14 rfl) ?_
                    refine lv_iload (pc := 652) C0.1 C0.2.1 dL_told_652 (lv_at hl 9 rfl) ?_
                    refine lv_bipush (v := 14) (pc := 654) C0.1 C0.2.1 dL_told_654 (by decide) ?_
                    obtain ⟨q60, hq60, hf⟩ := bd_e hf
                    refine z_backp0 (pc := 656) hI emb_1 hw (z_runV (pc := 656) (aa := ad) (As := [.int a1.2.2.2.2.2.2, .int 14]) (rest := []) C0 hK (emb_P emb_1 (fun j _ => by rw [Nat.zero_add]) (fun j _ => by rw [Nat.zero_add]) hw.1) hl.1 ⟨Nat.le_of_ble_eq_true rfl, Nat.le_of_ble_eq_true rfl⟩ (kX6_tray l D y ad hI0 a1.2.2.2.2.2.2 14 e3x.2.2.2 hq60) (by decide) ly_M rfl rfl wc_X6_tray wm_L_40 wi_X6_tray ws_X6_tray wn_X6 ⟨rfl, rfl⟩ hd_X6_tray rfl ⟨Nat.le_of_ble_eq_true rfl, Nat.le_of_ble_eq_true rfl⟩ (Nat.le_of_ble_eq_true rfl) dL_told_656) (fun H locs hw => ?_)
                    refine lv_iload (pc := 659) C0.1 C0.2.1 dL_told_659 (lv_at hl 8 rfl) ?_
                    refine lv_icmp_ne (tgt := 728) (pc := 661) C0.1 C0.2.1 dL_told_661 (by decide) (fun hc => ?_) (fun hc => ?_)
                    · have hf := if_f hf hc
                      refine lv_iconst (v := 0) (pc := 728) C0.1 C0.2.1 dL_told_728 (by decide) ?_
                      refine W.widen (k := 1) (n := 12) (Nat.le_of_ble_eq_true rfl) (Nat.le_of_ble_eq_true rfl) ?_
                      exact z_zretN (pc := 729) emb_1 (fun j h1 h2 => by rw [show j = 168 by omega]; exact hnew) (fun j hj => (hd j hj).symm) C0 hK hk hr hw rfl (hX _ (Option.some.inj hf).symm) dL_told_729
                    · have hf := if_t hf hc
                      refine lv_aload_n (pc := 664) C0.1 C0.2.1 dL_told_664 rfl (lv_at hl 14 rfl) ?_
                      refine lv_iload (pc := 665) C0.1 C0.2.1 dL_told_665 (lv_at hl 9 rfl) ?_
                      refine lv_bipush (v := 11) (pc := 667) C0.1 C0.2.1 dL_told_667 (by decide) ?_
                      obtain ⟨q61, hq61, hf⟩ := bd_e hf
                      refine z_backp0 (pc := 669) hI emb_1 hw (z_runV (pc := 669) (aa := ad) (As := [.int a1.2.2.2.2.2.2, .int 11]) (rest := []) C0 hK (emb_P emb_1 (fun j _ => by rw [Nat.zero_add]) (fun j _ => by rw [Nat.zero_add]) hw.1) hl.1 ⟨Nat.le_of_ble_eq_true rfl, Nat.le_of_ble_eq_true rfl⟩ (kX6_tray l D y ad hI0 a1.2.2.2.2.2.2 11 e3x.2.2.2 hq61) (by decide) ly_M rfl rfl wc_X6_tray wm_L_40 wi_X6_tray ws_X6_tray wn_X6 ⟨rfl, rfl⟩ hd_X6_tray rfl ⟨Nat.le_of_ble_eq_true rfl, Nat.le_of_ble_eq_true rfl⟩ (Nat.le_of_ble_eq_true rfl) dL_told_669) (fun H locs hw => ?_)
                      refine lv_iload (pc := 672) C0.1 C0.2.1 dL_told_672 (lv_at hl 8 rfl) ?_
                      obtain ⟨q62, hq62, hf⟩ := bd_e hf
                      refine z_backp0 (pc := 674) hI emb_1 hw (z_runS (pc := 674) (aa := ad) (As := [.int e41.1]) (rest := [.int q61]) C0 hK (emb_P emb_1 (fun j _ => by rw [Nat.zero_add]) (fun j _ => by rw [Nat.zero_add]) hw.1) hl.1 ⟨Nat.le_of_ble_eq_true rfl, Nat.le_of_ble_eq_true rfl⟩ (kL_bits l D y ad hI0 e41.1 e3x.2.2.2 hq62) rfl wc_L_bits wm_L_63 wt_L_bits wn_L ⟨rfl, rfl⟩ hd_L_bits rfl ⟨Nat.le_of_ble_eq_true rfl, Nat.le_of_ble_eq_true rfl⟩ (Nat.le_of_ble_eq_true rfl) dL_told_674) (fun H locs hw => ?_)
                      refine lv_icmp_ne (tgt := 728) (pc := 677) C0.1 C0.2.1 dL_told_677 (by decide) (fun hc => ?_) (fun hc => ?_)
                      · have hf := if_f hf hc
                        refine lv_iconst (v := 0) (pc := 728) C0.1 C0.2.1 dL_told_728 (by decide) ?_
                        refine W.widen (k := 1) (n := 12) (Nat.le_of_ble_eq_true rfl) (Nat.le_of_ble_eq_true rfl) ?_
                        exact z_zretN (pc := 729) emb_1 (fun j h1 h2 => by rw [show j = 168 by omega]; exact hnew) (fun j hj => (hd j hj).symm) C0 hK hk hr hw rfl (hX _ (Option.some.inj hf).symm) dL_told_729
                      · have hf := if_t hf hc
                        refine lv_aload_n (pc := 680) C0.1 C0.2.1 dL_told_680 rfl (lv_at hl 14 rfl) ?_
                        refine lv_iload (pc := 681) C0.1 C0.2.1 dL_told_681 (lv_at hl 9 rfl) ?_
                        refine lv_bipush (v := 12) (pc := 683) C0.1 C0.2.1 dL_told_683 (by decide) ?_
                        obtain ⟨q63, hq63, hf⟩ := bd_e hf
                        refine z_backp0 (pc := 685) hI emb_1 hw (z_runV (pc := 685) (aa := ad) (As := [.int a1.2.2.2.2.2.2, .int 12]) (rest := []) C0 hK (emb_P emb_1 (fun j _ => by rw [Nat.zero_add]) (fun j _ => by rw [Nat.zero_add]) hw.1) hl.1 ⟨Nat.le_of_ble_eq_true rfl, Nat.le_of_ble_eq_true rfl⟩ (kX6_tray l D y ad hI0 a1.2.2.2.2.2.2 12 e3x.2.2.2 hq63) (by decide) ly_M rfl rfl wc_X6_tray wm_L_40 wi_X6_tray ws_X6_tray wn_X6 ⟨rfl, rfl⟩ hd_X6_tray rfl ⟨Nat.le_of_ble_eq_true rfl, Nat.le_of_ble_eq_true rfl⟩ (Nat.le_of_ble_eq_true rfl) dL_told_685) (fun H locs hw => ?_)
                        refine lv_iload (pc := 688) C0.1 C0.2.1 dL_told_688 (lv_at hl 7 rfl) ?_
                        refine lv_icmp_ne (tgt := 728) (pc := 690) C0.1 C0.2.1 dL_told_690 (by decide) (fun hc => ?_) (fun hc => ?_)
                        · have hf := if_f hf hc
                          refine lv_iconst (v := 0) (pc := 728) C0.1 C0.2.1 dL_told_728 (by decide) ?_
                          refine W.widen (k := 1) (n := 12) (Nat.le_of_ble_eq_true rfl) (Nat.le_of_ble_eq_true rfl) ?_
                          exact z_zretN (pc := 729) emb_1 (fun j h1 h2 => by rw [show j = 168 by omega]; exact hnew) (fun j hj => (hd j hj).symm) C0 hK hk hr hw rfl (hX _ (Option.some.inj hf).symm) dL_told_729
                        · have hf := if_t hf hc
                          refine lv_aload_n (pc := 693) C0.1 C0.2.1 dL_told_693 rfl (lv_at hl 14 rfl) ?_
                          refine lv_iload (pc := 694) C0.1 C0.2.1 dL_told_694 (lv_at hl 9 rfl) ?_
                          refine lv_bipush (v := 13) (pc := 696) C0.1 C0.2.1 dL_told_696 (by decide) ?_
                          obtain ⟨q64, hq64, hf⟩ := bd_e hf
                          refine z_backp0 (pc := 698) hI emb_1 hw (z_runV (pc := 698) (aa := ad) (As := [.int a1.2.2.2.2.2.2, .int 13]) (rest := []) C0 hK (emb_P emb_1 (fun j _ => by rw [Nat.zero_add]) (fun j _ => by rw [Nat.zero_add]) hw.1) hl.1 ⟨Nat.le_of_ble_eq_true rfl, Nat.le_of_ble_eq_true rfl⟩ (kX6_tray l D y ad hI0 a1.2.2.2.2.2.2 13 e3x.2.2.2 hq64) (by decide) ly_M rfl rfl wc_X6_tray wm_L_40 wi_X6_tray ws_X6_tray wn_X6 ⟨rfl, rfl⟩ hd_X6_tray rfl ⟨Nat.le_of_ble_eq_true rfl, Nat.le_of_ble_eq_true rfl⟩ (Nat.le_of_ble_eq_true rfl) dL_told_698) (fun H locs hw => ?_)
                          refine lv_aload_n (pc := 701) C0.1 C0.2.1 dL_told_701 rfl (lv_at hl 12 rfl) ?_
                          refine lv_iload (pc := 702) C0.1 C0.2.1 dL_told_702 (lv_at hl 9 rfl) ?_
                          obtain ⟨hi, hf⟩ := gd_e hf
                          refine x_iald (pc := 704) C0 hK hw (by decide) rfl hi dL_told_704 ?_
                          obtain ⟨j65, hj65, hf⟩ := bd_e hf
                          refine X_join (pc := 705) (xpc := 713) (j := j65) (st := [.int q64]) hw (fun hE0 => ?_) (fun H locs hw => ?_)
                          · have hf := hj65
                            refine lv_if_ne (tgt := 712) (pc := 705) C0.1 C0.2.1 dL_told_705 (by decide) (fun hc => ?_) (fun hc => ?_)
                            · have hf := if_f hf hc
                              refine lv_iconst (v := 0) (pc := 712) C0.1 C0.2.1 dL_told_712 (by decide) ?_
                              exact X_leaf hE0 (Option.some.inj hf) hw
                            · have hf := if_t hf hc
                              refine lv_iconst (v := 1) (pc := 708) C0.1 C0.2.1 dL_told_708 (by decide) ?_
                              refine lv_goto (tgt := 713) (pc := 709) C0.1 C0.2.1 dL_told_709 (by decide) ?_
                              exact X_leaf hE0 (Option.some.inj hf) hw
                          · skip
                            refine lv_icmp_ne (tgt := 728) (pc := 713) C0.1 C0.2.1 dL_told_713 (by decide) (fun hc => ?_) (fun hc => ?_)
                            · have hf := if_f hf hc
                              refine lv_iconst (v := 0) (pc := 728) C0.1 C0.2.1 dL_told_728 (by decide) ?_
                              refine W.widen (k := 1) (n := 12) (Nat.le_of_ble_eq_true rfl) (Nat.le_of_ble_eq_true rfl) ?_
                              exact z_zretN (pc := 729) emb_1 (fun j h1 h2 => by rw [show j = 168 by omega]; exact hnew) (fun j hj => (hd j hj).symm) C0 hK hk hr hw rfl (hX _ (Option.some.inj hf).symm) dL_told_729
                            · have hf := if_t hf hc
                              refine lv_aload_n (pc := 716) C0.1 C0.2.1 dL_told_716 rfl (lv_at hl 14 rfl) ?_
                              refine lv_iload (pc := 717) C0.1 C0.2.1 dL_told_717 (lv_at hl 9 rfl) ?_
                              refine lv_bipush (v := 15) (pc := 719) C0.1 C0.2.1 dL_told_719 (by decide) ?_
                              obtain ⟨q66, hq66, hf⟩ := bd_e hf
                              refine z_backp0 (pc := 721) hI emb_1 hw (z_runV (pc := 721) (aa := ad) (As := [.int a1.2.2.2.2.2.2, .int 15]) (rest := []) C0 hK (emb_P emb_1 (fun j _ => by rw [Nat.zero_add]) (fun j _ => by rw [Nat.zero_add]) hw.1) hl.1 ⟨Nat.le_of_ble_eq_true rfl, Nat.le_of_ble_eq_true rfl⟩ (kX6_tray l D y ad hI0 a1.2.2.2.2.2.2 15 e3x.2.2.2 hq66) (by decide) ly_M rfl rfl wc_X6_tray wm_L_40 wi_X6_tray ws_X6_tray wn_X6 ⟨rfl, rfl⟩ hd_X6_tray rfl ⟨Nat.le_of_ble_eq_true rfl, Nat.le_of_ble_eq_true rfl⟩ (Nat.le_of_ble_eq_true rfl) dL_told_721) (fun H locs hw => ?_)
                              refine lv_iconst (v := 1) (pc := 724) C0.1 C0.2.1 dL_told_724 (by decide) ?_
                              refine lv_icmp_ge (tgt := 730) (pc := 725) C0.1 C0.2.1 dL_told_725 (by decide) (fun hc => ?_) (fun hc => ?_)
                              · have hf := if_t hf hc
                                refine lv_iinc (pc := 730) (v := a1.2.2.2.2.2.2 + 1) (lv' := [(11, .int (a1.2.2.2.2.2.2 + 1)), (10, .int (a1.2.2.2.2.2.1 + q54)), (4, .int (a1.1 + ((q51 * q52) * q53))), (8, .int (a1.2.2.2.1 + j50)), (7, .int (a1.2.2.1 + q49)), (6, .int (a1.2.1 + e44.1)), (9, .int (a1.2.2.2.2.1 + 1)), (14, .int e44.2), (13, .int e44.1), (12, .int e41.1), (5, .int e3x.2.1), (3, .int e3x.1), (2, .ref (ad 168)), (1, .int q1), (0, .ref (ad 167))]) C0.1 C0.2.1 dL_told_730 hl (k := 9) rfl rfl (by decide) rfl (fun ls hl => ?_)
                                refine lv_goto (tgt := 374) (pc := 733) C0.1 C0.2.1 dL_told_733 (by decide) ?_
                                exact hG _ (Option.some.inj hf).symm H locs ls hw (lv_sub hl [0, 1, 6, 3, 4, 5, 10, 2, 11, 12, 13, 14] rfl)
                              · have hf := if_f hf hc
                                refine lv_iconst (v := 0) (pc := 728) C0.1 C0.2.1 dL_told_728 (by decide) ?_
                                refine W.widen (k := 1) (n := 12) (Nat.le_of_ble_eq_true rfl) (Nat.le_of_ble_eq_true rfl) ?_
                                exact z_zretN (pc := 729) emb_1 (fun j h1 h2 => by rw [show j = 168 by omega]; exact hnew) (fun j hj => (hd j hj).symm) C0 hK hk hr hw rfl (hX _ (Option.some.inj hf).symm) dL_told_729
        · have hf := if_t hf hc
          refine lv_aload_n (pc := 390) C0.1 C0.2.1 dL_told_390 rfl (lv_at hl 11 rfl) ?_
          refine lv_iload (pc := 391) C0.1 C0.2.1 dL_told_391 (lv_at hl 0 rfl) ?_
          refine lv_bipush (v := 9) (pc := 393) C0.1 C0.2.1 dL_told_393 (by decide) ?_
          obtain ⟨q67, hq67, hf⟩ := bd_e hf
          refine z_backp0 (pc := 395) hI emb_1 hw (z_runV (pc := 395) (aa := ad) (As := [.int a1.2.2.2.2.2.2, .int 9]) (rest := []) C0 hK (emb_P emb_1 (fun j _ => by rw [Nat.zero_add]) (fun j _ => by rw [Nat.zero_add]) hw.1) hl.1 ⟨Nat.le_of_ble_eq_true rfl, Nat.le_of_ble_eq_true rfl⟩ (kX6_tray l D y ad hI0 a1.2.2.2.2.2.2 9 e3x.2.2.2 hq67) (by decide) ly_M rfl rfl wc_X6_tray wm_L_40 wi_X6_tray ws_X6_tray wn_X6 ⟨rfl, rfl⟩ hd_X6_tray rfl ⟨Nat.le_of_ble_eq_true rfl, Nat.le_of_ble_eq_true rfl⟩ (Nat.le_of_ble_eq_true rfl) dL_told_395) (fun H locs hw => ?_)
          refine lv_bipush (v := (-9)) (pc := 398) C0.1 C0.2.1 dL_told_398 (by decide) ?_
          refine lv_icmp_ne (tgt := 414) (pc := 400) C0.1 C0.2.1 dL_told_400 (by decide) (fun hc => ?_) (fun hc => ?_)
          · have hf := if_f hf hc
            refine lv_iconst (v := 0) (pc := 414) C0.1 C0.2.1 dL_told_414 (by decide) ?_
            refine W.widen (k := 1) (n := 12) (Nat.le_of_ble_eq_true rfl) (Nat.le_of_ble_eq_true rfl) ?_
            exact z_zretN (pc := 415) emb_1 (fun j h1 h2 => by rw [show j = 168 by omega]; exact hnew) (fun j hj => (hd j hj).symm) C0 hK hk hr hw rfl (hX _ (Option.some.inj hf).symm) dL_told_415
          · have hf := if_t hf hc
            refine lv_aload_n (pc := 403) C0.1 C0.2.1 dL_told_403 rfl (lv_at hl 11 rfl) ?_
            refine lv_iload (pc := 404) C0.1 C0.2.1 dL_told_404 (lv_at hl 0 rfl) ?_
            refine lv_bipush (v := 6) (pc := 406) C0.1 C0.2.1 dL_told_406 (by decide) ?_
            obtain ⟨q68, hq68, hf⟩ := bd_e hf
            refine z_backp0 (pc := 408) hI emb_1 hw (z_runV (pc := 408) (aa := ad) (As := [.int a1.2.2.2.2.2.2, .int 6]) (rest := []) C0 hK (emb_P emb_1 (fun j _ => by rw [Nat.zero_add]) (fun j _ => by rw [Nat.zero_add]) hw.1) hl.1 ⟨Nat.le_of_ble_eq_true rfl, Nat.le_of_ble_eq_true rfl⟩ (kX6_tray l D y ad hI0 a1.2.2.2.2.2.2 6 e3x.2.2.2 hq68) (by decide) ly_M rfl rfl wc_X6_tray wm_L_40 wi_X6_tray ws_X6_tray wn_X6 ⟨rfl, rfl⟩ hd_X6_tray rfl ⟨Nat.le_of_ble_eq_true rfl, Nat.le_of_ble_eq_true rfl⟩ (Nat.le_of_ble_eq_true rfl) dL_told_408) (fun H locs hw => ?_)
            refine lv_if_eq (tgt := 730) (pc := 411) C0.1 C0.2.1 dL_told_411 (by decide) (fun hc => ?_) (fun hc => ?_)
            · have hf := if_t hf hc
              refine lv_iinc (pc := 730) (v := a1.2.2.2.2.2.2 + 1) (lv' := [(11, .int (a1.2.2.2.2.2.2 + 1)), (10, .int a1.2.2.2.2.2.1), (9, .int a1.2.2.2.2.1), (8, .int a1.2.2.2.1), (7, .int a1.2.2.1), (6, .int a1.2.1), (5, .int e3x.2.1), (4, .int a1.1), (3, .int e3x.1), (2, .ref (ad 168)), (1, .int q1), (0, .ref (ad 167))]) C0.1 C0.2.1 dL_told_730 hl (k := 0) rfl rfl (by decide) rfl (fun ls hl => ?_)
              refine lv_goto (tgt := 374) (pc := 733) C0.1 C0.2.1 dL_told_733 (by decide) ?_
              exact hG _ (Option.some.inj hf).symm H locs ls hw (lv_sub hl [0, 1, 2, 3, 4, 5, 6, 7, 8, 9, 10, 11] rfl)
            · have hf := if_f hf hc
              refine lv_iconst (v := 0) (pc := 414) C0.1 C0.2.1 dL_told_414 (by decide) ?_
              refine W.widen (k := 1) (n := 12) (Nat.le_of_ble_eq_true rfl) (Nat.le_of_ble_eq_true rfl) ?_
              exact z_zretN (pc := 415) emb_1 (fun j h1 h2 => by rw [show j = 168 by omega]; exact hnew) (fun j hj => (hd j hj).symm) C0 hK hk hr hw rfl (hX _ (Option.some.inj hf).symm) dL_told_415
    · intro x hx
      subst hx
      exact Option.some.inj hf
    · intro e39x he H locs ls hw hl
      subst he
      have hf := sum_r hf
      refine lv_aload_n (pc := 736) C0.1 C0.2.1 dL_told_736 rfl (lv_at hl 11 rfl) ?_
      refine lv_iconst (v := 0) (pc := 737) C0.1 C0.2.1 dL_told_737 (by decide) ?_
      obtain ⟨q69, hq69, hf⟩ := bd_e hf
      refine z_backp0 (pc := 738) hI emb_1 hw (z_runV (pc := 738) (aa := ad) (As := [.int 0]) (rest := []) C0 hK (emb_P emb_1 (fun j _ => by rw [Nat.zero_add]) (fun j _ => by rw [Nat.zero_add]) hw.1) hl.1 ⟨Nat.le_of_ble_eq_true rfl, Nat.le_of_ble_eq_true rfl⟩ (kX6_count l D y ad hI0 0 e3x.2.2.2 hq69) (by decide) ly_M rfl rfl wc_X6_count wm_L_37 wi_X6_count ws_X6_count wn_X6 ⟨rfl, rfl⟩ hd_X6_count rfl ⟨Nat.le_of_ble_eq_true rfl, Nat.le_of_ble_eq_true rfl⟩ (Nat.le_of_ble_eq_true rfl) dL_told_738) (fun H locs hw => ?_)
      refine lv_aload_n (pc := 741) C0.1 C0.2.1 dL_told_741 rfl (lv_at hl 11 rfl) ?_
      refine lv_iconst (v := 1) (pc := 742) C0.1 C0.2.1 dL_told_742 (by decide) ?_
      obtain ⟨q70, hq70, hf⟩ := bd_e hf
      refine z_backp0 (pc := 743) hI emb_1 hw (z_runV (pc := 743) (aa := ad) (As := [.int 1]) (rest := [.int q69]) C0 hK (emb_P emb_1 (fun j _ => by rw [Nat.zero_add]) (fun j _ => by rw [Nat.zero_add]) hw.1) hl.1 ⟨Nat.le_of_ble_eq_true rfl, Nat.le_of_ble_eq_true rfl⟩ (kX6_count l D y ad hI0 1 e3x.2.2.2 hq70) (by decide) ly_M rfl rfl wc_X6_count wm_L_37 wi_X6_count ws_X6_count wn_X6 ⟨rfl, rfl⟩ hd_X6_count rfl ⟨Nat.le_of_ble_eq_true rfl, Nat.le_of_ble_eq_true rfl⟩ (Nat.le_of_ble_eq_true rfl) dL_told_743) (fun H locs hw => ?_)
      refine lv_imul (pc := 746) C0.1 C0.2.1 dL_told_746 ?_
      refine lv_iload_n (pc := 747) C0.1 C0.2.1 dL_told_747 rfl (lv_at hl 8 rfl) ?_
      refine lv_imul (pc := 748) C0.1 C0.2.1 dL_told_748 ?_
      refine lv_iload (pc := 749) C0.1 C0.2.1 dL_told_749 (lv_at hl 7 rfl) ?_
      refine lv_isub (pc := 751) C0.1 C0.2.1 dL_told_751 ?_
      refine lv_istore (pc := 752) (lv' := [(11, .int (((q69 * q70) * e3x.1) - e39x.1)), (10, .int e39x.2.2.2.2.2.1), (9, .int e39x.2.2.2.2.1), (8, .int e39x.2.2.2.1), (7, .int e39x.2.2.1), (6, .int e39x.2.1), (5, .int e3x.2.1), (4, .int e39x.1), (3, .int e3x.1), (2, .ref (ad 168)), (1, .int q1), (0, .ref (ad 167))]) C0.1 C0.2.1 dL_told_752 hl (by decide) rfl (fun ls hl => ?_)
      refine lv_iload (pc := 754) C0.1 C0.2.1 dL_told_754 (lv_at hl 1 rfl) ?_
      refine lv_iload (pc := 756) C0.1 C0.2.1 dL_told_756 (lv_at hl 6 rfl) ?_
      obtain ⟨j71, hj71, hf⟩ := bd_e hf
      refine X_join (pc := 758) (xpc := 835) (j := j71) (st := []) hw (fun hE0 => ?_) (fun H locs hw => ?_)
      · have hf := hj71
        refine lv_icmp_ne (tgt := 834) (pc := 758) C0.1 C0.2.1 dL_told_758 (by decide) (fun hc => ?_) (fun hc => ?_)
        · have hf := if_f hf hc
          refine lv_iconst (v := 0) (pc := 834) C0.1 C0.2.1 dL_told_834 (by decide) ?_
          exact X_leaf hE0 (Option.some.inj hf) hw
        · have hf := if_t hf hc
          refine lv_aload_n (pc := 761) C0.1 C0.2.1 dL_told_761 rfl (lv_at hl 11 rfl) ?_
          refine lv_iconst (v := 5) (pc := 762) C0.1 C0.2.1 dL_told_762 (by decide) ?_
          obtain ⟨q72, hq72, hf⟩ := bd_e hf
          refine z_backp0 (pc := 763) hI emb_1 hw (z_runV (pc := 763) (aa := ad) (As := [.int 5]) (rest := []) C0 hK (emb_P emb_1 (fun j _ => by rw [Nat.zero_add]) (fun j _ => by rw [Nat.zero_add]) hw.1) hl.1 ⟨Nat.le_of_ble_eq_true rfl, Nat.le_of_ble_eq_true rfl⟩ (kX6_count l D y ad hI0 5 e3x.2.2.2 hq72) (by decide) ly_M rfl rfl wc_X6_count wm_L_37 wi_X6_count ws_X6_count wn_X6 ⟨rfl, rfl⟩ hd_X6_count rfl ⟨Nat.le_of_ble_eq_true rfl, Nat.le_of_ble_eq_true rfl⟩ (Nat.le_of_ble_eq_true rfl) dL_told_763) (fun H locs hw => ?_)
          refine lv_iload (pc := 766) C0.1 C0.2.1 dL_told_766 (lv_at hl 2 rfl) ?_
          obtain ⟨j73, hj73, hf⟩ := bd_e hf
          refine X_join (pc := 768) (xpc := 835) (j := j73) (st := []) hw (fun hE0 => ?_) (fun H locs hw => ?_)
          · have hf := hj73
            refine lv_icmp_ne (tgt := 834) (pc := 768) C0.1 C0.2.1 dL_told_768 (by decide) (fun hc => ?_) (fun hc => ?_)
            · have hf := if_f hf hc
              refine lv_iconst (v := 0) (pc := 834) C0.1 C0.2.1 dL_told_834 (by decide) ?_
              exact X_leaf hE0 (Option.some.inj hf) hw
            · have hf := if_t hf hc
              refine lv_aload_n (pc := 771) C0.1 C0.2.1 dL_told_771 rfl (lv_at hl 11 rfl) ?_
              refine lv_bipush (v := 6) (pc := 772) C0.1 C0.2.1 dL_told_772 (by decide) ?_
              obtain ⟨q74, hq74, hf⟩ := bd_e hf
              refine z_backp0 (pc := 774) hI emb_1 hw (z_runV (pc := 774) (aa := ad) (As := [.int 6]) (rest := []) C0 hK (emb_P emb_1 (fun j _ => by rw [Nat.zero_add]) (fun j _ => by rw [Nat.zero_add]) hw.1) hl.1 ⟨Nat.le_of_ble_eq_true rfl, Nat.le_of_ble_eq_true rfl⟩ (kX6_count l D y ad hI0 6 e3x.2.2.2 hq74) (by decide) ly_M rfl rfl wc_X6_count wm_L_37 wi_X6_count ws_X6_count wn_X6 ⟨rfl, rfl⟩ hd_X6_count rfl ⟨Nat.le_of_ble_eq_true rfl, Nat.le_of_ble_eq_true rfl⟩ (Nat.le_of_ble_eq_true rfl) dL_told_774) (fun H locs hw => ?_)
              refine lv_iload (pc := 777) C0.1 C0.2.1 dL_told_777 (lv_at hl 3 rfl) ?_
              obtain ⟨j75, hj75, hf⟩ := bd_e hf
              refine X_join (pc := 779) (xpc := 835) (j := j75) (st := []) hw (fun hE0 => ?_) (fun H locs hw => ?_)
              · have hf := hj75
                refine lv_icmp_ne (tgt := 834) (pc := 779) C0.1 C0.2.1 dL_told_779 (by decide) (fun hc => ?_) (fun hc => ?_)
                · have hf := if_f hf hc
                  refine lv_iconst (v := 0) (pc := 834) C0.1 C0.2.1 dL_told_834 (by decide) ?_
                  exact X_leaf hE0 (Option.some.inj hf) hw
                · have hf := if_t hf hc
                  refine lv_aload_n (pc := 782) C0.1 C0.2.1 dL_told_782 rfl (lv_at hl 11 rfl) ?_
                  refine lv_bipush (v := 7) (pc := 783) C0.1 C0.2.1 dL_told_783 (by decide) ?_
                  obtain ⟨q76, hq76, hf⟩ := bd_e hf
                  refine z_backp0 (pc := 785) hI emb_1 hw (z_runV (pc := 785) (aa := ad) (As := [.int 7]) (rest := []) C0 hK (emb_P emb_1 (fun j _ => by rw [Nat.zero_add]) (fun j _ => by rw [Nat.zero_add]) hw.1) hl.1 ⟨Nat.le_of_ble_eq_true rfl, Nat.le_of_ble_eq_true rfl⟩ (kX6_count l D y ad hI0 7 e3x.2.2.2 hq76) (by decide) ly_M rfl rfl wc_X6_count wm_L_37 wi_X6_count ws_X6_count wn_X6 ⟨rfl, rfl⟩ hd_X6_count rfl ⟨Nat.le_of_ble_eq_true rfl, Nat.le_of_ble_eq_true rfl⟩ (Nat.le_of_ble_eq_true rfl) dL_told_785) (fun H locs hw => ?_)
                  refine lv_iload_n (pc := 788) C0.1 C0.2.1 dL_told_788 rfl (lv_at hl 8 rfl) ?_
                  obtain ⟨j77, hj77, hf⟩ := bd_e hf
                  refine X_join (pc := 789) (xpc := 835) (j := j77) (st := []) hw (fun hE0 => ?_) (fun H locs hw => ?_)
                  · have hf := hj77
                    refine lv_icmp_ne (tgt := 834) (pc := 789) C0.1 C0.2.1 dL_told_789 (by decide) (fun hc => ?_) (fun hc => ?_)
                    · have hf := if_f hf hc
                      refine lv_iconst (v := 0) (pc := 834) C0.1 C0.2.1 dL_told_834 (by decide) ?_
                      exact X_leaf hE0 (Option.some.inj hf) hw
                    · have hf := if_t hf hc
                      refine lv_aload_n (pc := 792) C0.1 C0.2.1 dL_told_792 rfl (lv_at hl 11 rfl) ?_
                      refine lv_bipush (v := 8) (pc := 793) C0.1 C0.2.1 dL_told_793 (by decide) ?_
                      obtain ⟨q78, hq78, hf⟩ := bd_e hf
                      refine z_backp0 (pc := 795) hI emb_1 hw (z_runV (pc := 795) (aa := ad) (As := [.int 8]) (rest := []) C0 hK (emb_P emb_1 (fun j _ => by rw [Nat.zero_add]) (fun j _ => by rw [Nat.zero_add]) hw.1) hl.1 ⟨Nat.le_of_ble_eq_true rfl, Nat.le_of_ble_eq_true rfl⟩ (kX6_count l D y ad hI0 8 e3x.2.2.2 hq78) (by decide) ly_M rfl rfl wc_X6_count wm_L_37 wi_X6_count ws_X6_count wn_X6 ⟨rfl, rfl⟩ hd_X6_count rfl ⟨Nat.le_of_ble_eq_true rfl, Nat.le_of_ble_eq_true rfl⟩ (Nat.le_of_ble_eq_true rfl) dL_told_795) (fun H locs hw => ?_)
                      refine lv_iload (pc := 798) C0.1 C0.2.1 dL_told_798 (lv_at hl 0 rfl) ?_
                      obtain ⟨j79, hj79, hf⟩ := bd_e hf
                      refine X_join (pc := 800) (xpc := 835) (j := j79) (st := []) hw (fun hE0 => ?_) (fun H locs hw => ?_)
                      · have hf := hj79
                        refine lv_icmp_ne (tgt := 834) (pc := 800) C0.1 C0.2.1 dL_told_800 (by decide) (fun hc => ?_) (fun hc => ?_)
                        · have hf := if_f hf hc
                          refine lv_iconst (v := 0) (pc := 834) C0.1 C0.2.1 dL_told_834 (by decide) ?_
                          exact X_leaf hE0 (Option.some.inj hf) hw
                        · have hf := if_t hf hc
                          refine lv_iload (pc := 803) C0.1 C0.2.1 dL_told_803 (lv_at hl 0 rfl) ?_
                          obtain ⟨j80, hj80, hf⟩ := bd_e hf
                          refine X_join (pc := 805) (xpc := 835) (j := j80) (st := []) hw (fun hE0 => ?_) (fun H locs hw => ?_)
                          · have hf := hj80
                            refine lv_if_lt (tgt := 834) (pc := 805) C0.1 C0.2.1 dL_told_805 (by decide) (fun hc => ?_) (fun hc => ?_)
                            · have hf := if_t hf hc
                              refine lv_iconst (v := 0) (pc := 834) C0.1 C0.2.1 dL_told_834 (by decide) ?_
                              exact X_leaf hE0 (Option.some.inj hf) hw
                            · have hf := if_f hf hc
                              refine lv_aload_n (pc := 808) C0.1 C0.2.1 dL_told_808 rfl (lv_at hl 11 rfl) ?_
                              refine lv_bipush (v := 9) (pc := 809) C0.1 C0.2.1 dL_told_809 (by decide) ?_
                              obtain ⟨q81, hq81, hf⟩ := bd_e hf
                              refine z_backp0 (pc := 811) hI emb_1 hw (z_runV (pc := 811) (aa := ad) (As := [.int 9]) (rest := []) C0 hK (emb_P emb_1 (fun j _ => by rw [Nat.zero_add]) (fun j _ => by rw [Nat.zero_add]) hw.1) hl.1 ⟨Nat.le_of_ble_eq_true rfl, Nat.le_of_ble_eq_true rfl⟩ (kX6_count l D y ad hI0 9 e3x.2.2.2 hq81) (by decide) ly_M rfl rfl wc_X6_count wm_L_37 wi_X6_count ws_X6_count wn_X6 ⟨rfl, rfl⟩ hd_X6_count rfl ⟨Nat.le_of_ble_eq_true rfl, Nat.le_of_ble_eq_true rfl⟩ (Nat.le_of_ble_eq_true rfl) dL_told_811) (fun H locs hw => ?_)
                              refine lv_iload (pc := 814) C0.1 C0.2.1 dL_told_814 (lv_at hl 5 rfl) ?_
                              obtain ⟨j82, hj82, hf⟩ := bd_e hf
                              refine X_join (pc := 816) (xpc := 835) (j := j82) (st := []) hw (fun hE0 => ?_) (fun H locs hw => ?_)
                              · have hf := hj82
                                refine lv_icmp_ne (tgt := 834) (pc := 816) C0.1 C0.2.1 dL_told_816 (by decide) (fun hc => ?_) (fun hc => ?_)
                                · have hf := if_f hf hc
                                  refine lv_iconst (v := 0) (pc := 834) C0.1 C0.2.1 dL_told_834 (by decide) ?_
                                  exact X_leaf hE0 (Option.some.inj hf) hw
                                · have hf := if_t hf hc
                                  refine lv_aload_n (pc := 819) C0.1 C0.2.1 dL_told_819 rfl (lv_at hl 11 rfl) ?_
                                  refine lv_bipush (v := 10) (pc := 820) C0.1 C0.2.1 dL_told_820 (by decide) ?_
                                  obtain ⟨q83, hq83, hf⟩ := bd_e hf
                                  refine z_backp0 (pc := 822) hI emb_1 hw (z_runV (pc := 822) (aa := ad) (As := [.int 10]) (rest := []) C0 hK (emb_P emb_1 (fun j _ => by rw [Nat.zero_add]) (fun j _ => by rw [Nat.zero_add]) hw.1) hl.1 ⟨Nat.le_of_ble_eq_true rfl, Nat.le_of_ble_eq_true rfl⟩ (kX6_count l D y ad hI0 10 e3x.2.2.2 hq83) (by decide) ly_M rfl rfl wc_X6_count wm_L_37 wi_X6_count ws_X6_count wn_X6 ⟨rfl, rfl⟩ hd_X6_count rfl ⟨Nat.le_of_ble_eq_true rfl, Nat.le_of_ble_eq_true rfl⟩ (Nat.le_of_ble_eq_true rfl) dL_told_822) (fun H locs hw => ?_)
                                  refine lv_iload (pc := 825) C0.1 C0.2.1 dL_told_825 (lv_at hl 4 rfl) ?_
                                  obtain ⟨j84, hj84, hf⟩ := bd_e hf
                                  refine X_join (pc := 827) (xpc := 835) (j := j84) (st := []) hw (fun hE0 => ?_) (fun H locs hw => ?_)
                                  · have hf := hj84
                                    refine lv_icmp_ne (tgt := 834) (pc := 827) C0.1 C0.2.1 dL_told_827 (by decide) (fun hc => ?_) (fun hc => ?_)
                                    · have hf := if_f hf hc
                                      refine lv_iconst (v := 0) (pc := 834) C0.1 C0.2.1 dL_told_834 (by decide) ?_
                                      exact X_leaf hE0 (Option.some.inj hf) hw
                                    · have hf := if_t hf hc
                                      refine lv_iconst (v := 1) (pc := 830) C0.1 C0.2.1 dL_told_830 (by decide) ?_
                                      refine lv_goto (tgt := 835) (pc := 831) C0.1 C0.2.1 dL_told_831 (by decide) ?_
                                      exact X_leaf hE0 (Option.some.inj hf) hw
                                  · skip
                                    exact X_leaf hE0 (Option.some.inj hf) hw
                              · skip
                                exact X_leaf hE0 (Option.some.inj hf) hw
                          · skip
                            exact X_leaf hE0 (Option.some.inj hf) hw
                      · skip
                        exact X_leaf hE0 (Option.some.inj hf) hw
                  · skip
                    exact X_leaf hE0 (Option.some.inj hf) hw
              · skip
                exact X_leaf hE0 (Option.some.inj hf) hw
          · skip
            exact X_leaf hE0 (Option.some.inj hf) hw
      · skip
        obtain ⟨hz, hf⟩ := gd_e hf
        refine W.widen (k := 1) (n := 12) (Nat.le_of_ble_eq_true rfl) (Nat.le_of_ble_eq_true rfl) ?_
        exact z_zretN (pc := 835) emb_1 (fun j h1 h2 => by rw [show j = 168 by omega]; exact hnew) (fun j hj => (hd j hj).symm) C0 hK hk hr hw hz (Option.some.inj hf) dL_told_835
