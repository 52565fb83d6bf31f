set_option maxRecDepth 100000 in
theorem wc_L_best : Cond.code yL_best cL_best 8 (some .int) ∈ lwT := lwT_t (List.mem_of_getElem? (i := 509) (by decide +kernel)) rfl
set_option maxRecDepth 100000 in
theorem wc_L_bits : Cond.code yL_bits cL_bits 3 (some .int) ∈ lwT := lwT_t (List.mem_of_getElem? (i := 451) (by decide +kernel)) rfl
set_option maxRecDepth 100000 in
theorem wc_L_canLie : Cond.code yL_canLie cL_canLie 6 (some .boolean) ∈ lwT := lwT_t (List.mem_of_getElem? (i := 512) (by decide +kernel)) rfl
set_option maxRecDepth 100000 in
theorem wc_L_cell : Cond.code yL_cell cL_cell 2 (some .int) ∈ lwT := lwT_t (List.mem_of_getElem? (i := 292) (by decide +kernel)) rfl
set_option maxRecDepth 100000 in
theorem wc_L_covers : Cond.code yL_covers cL_covers 5 (some .boolean) ∈ lwT := lwT_t (List.mem_of_getElem? (i := 415) (by decide +kernel)) rfl
set_option maxRecDepth 100000 in
theorem wc_L_high : Cond.code yL_high cL_high 2 (some .int) ∈ lwT := lwT_t (List.mem_of_getElem? (i := 454) (by decide +kernel)) rfl
set_option maxRecDepth 100000 in
theorem wc_L_look : Cond.code yL_look cL_look 10 (some .int) ∈ lwT := lwT_t (List.mem_of_getElem? (i := 515) (by decide +kernel)) rfl
set_option maxRecDepth 100000 in
theorem wc_L_low : Cond.code yL_low cL_low 2 (some .int) ∈ lwT := lwT_t (List.mem_of_getElem? (i := 297) (by decide +kernel)) rfl
set_option maxRecDepth 100000 in
theorem wc_L_wide : Cond.code yL_wide cL_wide 3 (some .int) ∈ lwT := lwT_t (List.mem_of_getElem? (i := 436) (by decide +kernel)) rfl
set_option maxRecDepth 100000 in
theorem wc_X6_add : Cond.code yX6_add cX6_add 5 (some .int) ∈ lwT := lwT_t (List.mem_of_getElem? (i := 338) (by decide +kernel)) rfl
set_option maxRecDepth 100000 in
theorem wc_X6_count : Cond.code yX6_count cX6_count 2 (some .int) ∈ lwT := lwT_t (List.mem_of_getElem? (i := 355) (by decide +kernel)) rfl
set_option maxRecDepth 100000 in
theorem wc_X6_ifPacked : Cond.code yX6_ifPacked cX6_ifPacked 4 (some .int) ∈ lwT := lwT_t (List.mem_of_getElem? (i := 544) (by decide +kernel)) rfl
set_option maxRecDepth 100000 in
theorem wc_X6_letDown : Cond.code yX6_letDown cX6_letDown 6 (some .int) ∈ lwT := lwT_t (List.mem_of_getElem? (i := 527) (by decide +kernel)) rfl
set_option maxRecDepth 100000 in
theorem wc_X6_pack : Cond.code yX6_pack cX6_pack 1 (some .int) ∈ lwT := lwT_t (List.mem_of_getElem? (i := 594) (by decide +kernel)) rfl
set_option maxRecDepth 100000 in
theorem wc_X6_place : Cond.code yX6_place cX6_place 3 (some .int) ∈ lwT := lwT_t (List.mem_of_getElem? (i := 461) (by decide +kernel)) rfl
set_option maxRecDepth 100000 in
theorem wc_X6_places : Cond.code yX6_places cX6_places 2 (some .int) ∈ lwT := lwT_t (List.mem_of_getElem? (i := 506) (by decide +kernel)) rfl
set_option maxRecDepth 100000 in
theorem wc_X6_seen : Cond.code yX6_seen cX6_seen 5 (some .int) ∈ lwT := lwT_t (List.mem_of_getElem? (i := 440) (by decide +kernel)) rfl
set_option maxRecDepth 100000 in
theorem wc_X6_setBox : Cond.code yX6_setBox cX6_setBox 5 (some .int) ∈ lwT := lwT_t (List.mem_of_getElem? (i := 305) (by decide +kernel)) rfl
set_option maxRecDepth 100000 in
theorem wc_X6_setShare : Cond.code yX6_setShare cX6_setShare 3 (some .int) ∈ lwT := lwT_t (List.mem_of_getElem? (i := 334) (by decide +kernel)) rfl
set_option maxRecDepth 100000 in
theorem wc_X6_setTray : Cond.code yX6_setTray cX6_setTray 6 (some .int) ∈ lwT := lwT_t (List.mem_of_getElem? (i := 347) (by decide +kernel)) rfl
set_option maxRecDepth 100000 in
theorem wc_X6_takeOut : Cond.code yX6_takeOut cX6_takeOut 3 (some .int) ∈ lwT := lwT_t (List.mem_of_getElem? (i := 522) (by decide +kernel)) rfl
set_option maxRecDepth 100000 in
theorem wc_X6_tray : Cond.code yX6_tray cX6_tray 3 (some .int) ∈ lwT := lwT_t (List.mem_of_getElem? (i := 419) (by decide +kernel)) rfl
set_option maxRecDepth 100000 in
theorem wi_X6_add : Cond.instanceMethod yX6_add ∈ lwT := lwT_t (List.mem_of_getElem? (i := 336) (by decide +kernel)) rfl
set_option maxRecDepth 100000 in
theorem wi_X6_count : Cond.instanceMethod yX6_count ∈ lwT := lwT_t (List.mem_of_getElem? (i := 353) (by decide +kernel)) rfl
set_option maxRecDepth 100000 in
theorem wi_X6_ifPacked : Cond.instanceMethod yX6_ifPacked ∈ lwT := lwT_t (List.mem_of_getElem? (i := 542) (by decide +kernel)) rfl
set_option maxRecDepth 100000 in
theorem wi_X6_letDown : Cond.instanceMethod yX6_letDown ∈ lwT := lwT_t (List.mem_of_getElem? (i := 525) (by decide +kernel)) rfl
set_option maxRecDepth 100000 in
theorem wi_X6_pack : Cond.instanceMethod yX6_pack ∈ lwT := lwT_t (List.mem_of_getElem? (i := 592) (by decide +kernel)) rfl
set_option maxRecDepth 100000 in
theorem wi_X6_place : Cond.instanceMethod yX6_place ∈ lwT := lwT_t (List.mem_of_getElem? (i := 459) (by decide +kernel)) rfl
set_option maxRecDepth 100000 in
theorem wi_X6_places : Cond.instanceMethod yX6_places ∈ lwT := lwT_t (List.mem_of_getElem? (i := 504) (by decide +kernel)) rfl
set_option maxRecDepth 100000 in
theorem wi_X6_seen : Cond.instanceMethod yX6_seen ∈ lwT := lwT_t (List.mem_of_getElem? (i := 438) (by decide +kernel)) rfl
set_option maxRecDepth 100000 in
theorem wi_X6_setBox : Cond.instanceMethod yX6_setBox ∈ lwT := lwT_t (List.mem_of_getElem? (i := 303) (by decide +kernel)) rfl
set_option maxRecDepth 100000 in
theorem wi_X6_setShare : Cond.instanceMethod yX6_setShare ∈ lwT := lwT_t (List.mem_of_getElem? (i := 332) (by decide +kernel)) rfl
set_option maxRecDepth 100000 in
theorem wi_X6_setTray : Cond.instanceMethod yX6_setTray ∈ lwT := lwT_t (List.mem_of_getElem? (i := 345) (by decide +kernel)) rfl
set_option maxRecDepth 100000 in
theorem wi_X6_takeOut : Cond.instanceMethod yX6_takeOut ∈ lwT := lwT_t (List.mem_of_getElem? (i := 520) (by decide +kernel)) rfl
set_option maxRecDepth 100000 in
theorem wi_X6_tray : Cond.instanceMethod yX6_tray ∈ lwT := lwT_t (List.mem_of_getElem? (i := 417) (by decide +kernel)) rfl
set_option maxRecDepth 100000 in
theorem wk_L_7 : Cond.constant RL 7 (86028157) ∈ lwT := lwT_t (List.mem_of_getElem? (i := 293) (by decide +kernel)) rfl
set_option maxRecDepth 100000 in
theorem wk_L_8 : Cond.constant RL 8 (49979693) ∈ lwT := lwT_t (List.mem_of_getElem? (i := 294) (by decide +kernel)) rfl
set_option maxRecDepth 100000 in
theorem wk_L_9 : Cond.constant RL 9 (2147483647) ∈ lwT := lwT_t (List.mem_of_getElem? (i := 298) (by decide +kernel)) rfl
set_option maxRecDepth 100000 in
theorem wm_L_10 : Cond.methodLink RL 10 yL_cell ∈ lwT := lwT_t (List.mem_of_getElem? (i := 290) (by decide +kernel)) rfl
set_option maxRecDepth 100000 in
theorem wm_L_16 : Cond.methodLink RL 16 yL_low ∈ lwT := lwT_t (List.mem_of_getElem? (i := 295) (by decide +kernel)) rfl
set_option maxRecDepth 100000 in
theorem wm_L_20 : Cond.methodLink RL 20 yX6_setBox ∈ lwT := lwT_t (List.mem_of_getElem? (i := 302) (by decide +kernel)) rfl
set_option maxRecDepth 100000 in
theorem wm_L_26 : Cond.methodLink RL 26 yX6_setShare ∈ lwT := lwT_t (List.mem_of_getElem? (i := 331) (by decide +kernel)) rfl
set_option maxRecDepth 100000 in
theorem wm_L_30 : Cond.methodLink RL 30 yX6_add ∈ lwT := lwT_t (List.mem_of_getElem? (i := 335) (by decide +kernel)) rfl
set_option maxRecDepth 100000 in
theorem wm_L_34 : Cond.methodLink RL 34 yX6_setTray ∈ lwT := lwT_t (List.mem_of_getElem? (i := 344) (by decide +kernel)) rfl
set_option maxRecDepth 100000 in
theorem wm_L_37 : Cond.methodLink RL 37 yX6_count ∈ lwT := lwT_t (List.mem_of_getElem? (i := 352) (by decide +kernel)) rfl
set_option maxRecDepth 100000 in
theorem wm_L_40 : Cond.methodLink RL 40 yX6_tray ∈ lwT := lwT_t (List.mem_of_getElem? (i := 416) (by decide +kernel)) rfl
set_option maxRecDepth 100000 in
theorem wm_L_43 : Cond.methodLink RL 43 yL_wide ∈ lwT := lwT_t (List.mem_of_getElem? (i := 434) (by decide +kernel)) rfl
set_option maxRecDepth 100000 in
theorem wm_L_47 : Cond.methodLink RL 47 yX6_seen ∈ lwT := lwT_t (List.mem_of_getElem? (i := 437) (by decide +kernel)) rfl
set_option maxRecDepth 100000 in
theorem wm_L_51 : Cond.methodLink RL 51 yL_look ∈ lwT := lwT_t (List.mem_of_getElem? (i := 513) (by decide +kernel)) rfl
set_option maxRecDepth 100000 in
theorem wm_L_55 : Cond.methodLink RL 55 yL_high ∈ lwT := lwT_t (List.mem_of_getElem? (i := 452) (by decide +kernel)) rfl
set_option maxRecDepth 100000 in
theorem wm_L_59 : Cond.methodLink RL 59 yL_covers ∈ lwT := lwT_t (List.mem_of_getElem? (i := 413) (by decide +kernel)) rfl
set_option maxRecDepth 100000 in
theorem wm_L_63 : Cond.methodLink RL 63 yL_bits ∈ lwT := lwT_t (List.mem_of_getElem? (i := 449) (by decide +kernel)) rfl
set_option maxRecDepth 100000 in
theorem wm_L_66 : Cond.methodLink RL 66 yL_canLie ∈ lwT := lwT_t (List.mem_of_getElem? (i := 510) (by decide +kernel)) rfl
set_option maxRecDepth 100000 in
theorem wm_L_70 : Cond.methodLink RL 70 yX6_place ∈ lwT := lwT_t (List.mem_of_getElem? (i := 458) (by decide +kernel)) rfl
set_option maxRecDepth 100000 in
theorem wm_L_73 : Cond.methodLink RL 73 yX6_places ∈ lwT := lwT_t (List.mem_of_getElem? (i := 503) (by decide +kernel)) rfl
set_option maxRecDepth 100000 in
theorem wm_L_76 : Cond.methodLink RL 76 yL_best ∈ lwT := lwT_t (List.mem_of_getElem? (i := 507) (by decide +kernel)) rfl
set_option maxRecDepth 100000 in
theorem wm_L_80 : Cond.methodLink RL 80 yX6_takeOut ∈ lwT := lwT_t (List.mem_of_getElem? (i := 519) (by decide +kernel)) rfl
set_option maxRecDepth 100000 in
theorem wm_L_83 : Cond.methodLink RL 83 yX6_letDown ∈ lwT := lwT_t (List.mem_of_getElem? (i := 524) (by decide +kernel)) rfl
set_option maxRecDepth 100000 in
theorem wm_L_88 : Cond.methodLink RL 88 yX6_ifPacked ∈ lwT := lwT_t (List.mem_of_getElem? (i := 541) (by decide +kernel)) rfl
set_option maxRecDepth 100000 in
theorem wm_L_92 : Cond.methodLink RL 92 yX6_pack ∈ lwT := lwT_t (List.mem_of_getElem? (i := 591) (by decide +kernel)) rfl
set_option maxRecDepth 100000 in
theorem wn_L : Cond.initialized RL ∈ lwT := lwT_t (List.mem_of_getElem? (i := 0) (by decide +kernel)) rfl
set_option maxRecDepth 100000 in
theorem ws_X6_add : Cond.selects RX6 yX6_add yX6_add ∈ lwT := lwT_t (List.mem_of_getElem? (i := 337) (by decide +kernel)) rfl
set_option maxRecDepth 100000 in
theorem ws_X6_count : Cond.selects RX6 yX6_count yX6_count ∈ lwT := lwT_t (List.mem_of_getElem? (i := 354) (by decide +kernel)) rfl
set_option maxRecDepth 100000 in
theorem ws_X6_ifPacked : Cond.selects RX6 yX6_ifPacked yX6_ifPacked ∈ lwT := lwT_t (List.mem_of_getElem? (i := 543) (by decide +kernel)) rfl
set_option maxRecDepth 100000 in
theorem ws_X6_letDown : Cond.selects RX6 yX6_letDown yX6_letDown ∈ lwT := lwT_t (List.mem_of_getElem? (i := 526) (by decide +kernel)) rfl
set_option maxRecDepth 100000 in
theorem ws_X6_pack : Cond.selects RX6 yX6_pack yX6_pack ∈ lwT := lwT_t (List.mem_of_getElem? (i := 593) (by decide +kernel)) rfl
set_option maxRecDepth 100000 in
theorem ws_X6_place : Cond.selects RX6 yX6_place yX6_place ∈ lwT := lwT_t (List.mem_of_getElem? (i := 460) (by decide +kernel)) rfl
set_option maxRecDepth 100000 in
theorem ws_X6_places : Cond.selects RX6 yX6_places yX6_places ∈ lwT := lwT_t (List.mem_of_getElem? (i := 505) (by decide +kernel)) rfl
set_option maxRecDepth 100000 in
theorem ws_X6_seen : Cond.selects RX6 yX6_seen yX6_seen ∈ lwT := lwT_t (List.mem_of_getElem? (i := 439) (by decide +kernel)) rfl
set_option maxRecDepth 100000 in
theorem ws_X6_setBox : Cond.selects RX6 yX6_setBox yX6_setBox ∈ lwT := lwT_t (List.mem_of_getElem? (i := 304) (by decide +kernel)) rfl
set_option maxRecDepth 100000 in
theorem ws_X6_setShare : Cond.selects RX6 yX6_setShare yX6_setShare ∈ lwT := lwT_t (List.mem_of_getElem? (i := 333) (by decide +kernel)) rfl
set_option maxRecDepth 100000 in
theorem ws_X6_setTray : Cond.selects RX6 yX6_setTray yX6_setTray ∈ lwT := lwT_t (List.mem_of_getElem? (i := 346) (by decide +kernel)) rfl
set_option maxRecDepth 100000 in
theorem ws_X6_takeOut : Cond.selects RX6 yX6_takeOut yX6_takeOut ∈ lwT := lwT_t (List.mem_of_getElem? (i := 521) (by decide +kernel)) rfl
set_option maxRecDepth 100000 in
theorem ws_X6_tray : Cond.selects RX6 yX6_tray yX6_tray ∈ lwT := lwT_t (List.mem_of_getElem? (i := 418) (by decide +kernel)) rfl
set_option maxRecDepth 100000 in
theorem wt_L_best : Cond.static yL_best ∈ lwT := lwT_t (List.mem_of_getElem? (i := 508) (by decide +kernel)) rfl
set_option maxRecDepth 100000 in
theorem wt_L_bits : Cond.static yL_bits ∈ lwT := lwT_t (List.mem_of_getElem? (i := 450) (by decide +kernel)) rfl
set_option maxRecDepth 100000 in
theorem wt_L_canLie : Cond.static yL_canLie ∈ lwT := lwT_t (List.mem_of_getElem? (i := 511) (by decide +kernel)) rfl
set_option maxRecDepth 100000 in
theorem wt_L_cell : Cond.static yL_cell ∈ lwT := lwT_t (List.mem_of_getElem? (i := 291) (by decide +kernel)) rfl
set_option maxRecDepth 100000 in
theorem wt_L_covers : Cond.static yL_covers ∈ lwT := lwT_t (List.mem_of_getElem? (i := 414) (by decide +kernel)) rfl
set_option maxRecDepth 100000 in
theorem wt_L_high : Cond.static yL_high ∈ lwT := lwT_t (List.mem_of_getElem? (i := 453) (by decide +kernel)) rfl
set_option maxRecDepth 100000 in
theorem wt_L_look : Cond.static yL_look ∈ lwT := lwT_t (List.mem_of_getElem? (i := 514) (by decide +kernel)) rfl
set_option maxRecDepth 100000 in
theorem wt_L_low : Cond.static yL_low ∈ lwT := lwT_t (List.mem_of_getElem? (i := 296) (by decide +kernel)) rfl
set_option maxRecDepth 100000 in
theorem wt_L_wide : Cond.static yL_wide ∈ lwT := lwT_t (List.mem_of_getElem? (i := 435) (by decide +kernel)) rfl
theorem hd_L_best : yL_best.cls ≠ "java/lang/invoke/MethodHandle" ∧ yL_best.cls ≠ "java/lang/invoke/VarHandle" ∧ (parseMethodDescriptor yL_best.desc).map (fun d => d.parameters.length) = some 3 := by decide +kernel
theorem hd_L_bits : yL_bits.cls ≠ "java/lang/invoke/MethodHandle" ∧ yL_bits.cls ≠ "java/lang/invoke/VarHandle" ∧ (parseMethodDescriptor yL_bits.desc).map (fun d => d.parameters.length) = some 1 := by decide +kernel
theorem hd_L_canLie : yL_canLie.cls ≠ "java/lang/invoke/MethodHandle" ∧ yL_canLie.cls ≠ "java/lang/invoke/VarHandle" ∧ (parseMethodDescriptor yL_canLie.desc).map (fun d => d.parameters.length) = some 5 := by decide +kernel
theorem hd_L_cell : yL_cell.cls ≠ "java/lang/invoke/MethodHandle" ∧ yL_cell.cls ≠ "java/lang/invoke/VarHandle" ∧ (parseMethodDescriptor yL_cell.desc).map (fun d => d.parameters.length) = some 2 := by decide +kernel
theorem hd_L_covers : yL_covers.cls ≠ "java/lang/invoke/MethodHandle" ∧ yL_covers.cls ≠ "java/lang/invoke/VarHandle" ∧ (parseMethodDescriptor yL_covers.desc).map (fun d => d.parameters.length) = some 4 := by decide +kernel
theorem hd_L_high : yL_high.cls ≠ "java/lang/invoke/MethodHandle" ∧ yL_high.cls ≠ "java/lang/invoke/VarHandle" ∧ (parseMethodDescriptor yL_high.desc).map (fun d => d.parameters.length) = some 2 := by decide +kernel
theorem hd_L_look : yL_look.cls ≠ "java/lang/invoke/MethodHandle" ∧ yL_look.cls ≠ "java/lang/invoke/VarHandle" ∧ (parseMethodDescriptor yL_look.desc).map (fun d => d.parameters.length) = some 5 := by decide +kernel
theorem hd_L_low : yL_low.cls ≠ "java/lang/invoke/MethodHandle" ∧ yL_low.cls ≠ "java/lang/invoke/VarHandle" ∧ (parseMethodDescriptor yL_low.desc).map (fun d => d.parameters.length) = some 2 := by decide +kernel
theorem hd_L_wide : yL_wide.cls ≠ "java/lang/invoke/MethodHandle" ∧ yL_wide.cls ≠ "java/lang/invoke/VarHandle" ∧ (parseMethodDescriptor yL_wide.desc).map (fun d => d.parameters.length) = some 3 := by decide +kernel
theorem hd_X6_add : yX6_add.cls = RX6 ∧ yX6_add.cls ≠ "java/lang/invoke/MethodHandle" ∧ yX6_add.cls ≠ "java/lang/invoke/VarHandle" ∧ (parseMethodDescriptor yX6_add.desc).map (fun d => d.parameters.length) = some 4 := by decide +kernel
theorem hd_X6_count : yX6_count.cls = RX6 ∧ yX6_count.cls ≠ "java/lang/invoke/MethodHandle" ∧ yX6_count.cls ≠ "java/lang/invoke/VarHandle" ∧ (parseMethodDescriptor yX6_count.desc).map (fun d => d.parameters.length) = some 1 := by decide +kernel
theorem hd_X6_ifPacked : yX6_ifPacked.cls = RX6 ∧ yX6_ifPacked.cls ≠ "java/lang/invoke/MethodHandle" ∧ yX6_ifPacked.cls ≠ "java/lang/invoke/VarHandle" ∧ (parseMethodDescriptor yX6_ifPacked.desc).map (fun d => d.parameters.length) = some 2 := by decide +kernel
theorem hd_X6_letDown : yX6_letDown.cls = RX6 ∧ yX6_letDown.cls ≠ "java/lang/invoke/MethodHandle" ∧ yX6_letDown.cls ≠ "java/lang/invoke/VarHandle" ∧ (parseMethodDescriptor yX6_letDown.desc).map (fun d => d.parameters.length) = some 4 := by decide +kernel
theorem hd_X6_pack : yX6_pack.cls = RX6 ∧ yX6_pack.cls ≠ "java/lang/invoke/MethodHandle" ∧ yX6_pack.cls ≠ "java/lang/invoke/VarHandle" ∧ (parseMethodDescriptor yX6_pack.desc).map (fun d => d.parameters.length) = some 0 := by decide +kernel
theorem hd_X6_place : yX6_place.cls = RX6 ∧ yX6_place.cls ≠ "java/lang/invoke/MethodHandle" ∧ yX6_place.cls ≠ "java/lang/invoke/VarHandle" ∧ (parseMethodDescriptor yX6_place.desc).map (fun d => d.parameters.length) = some 2 := by decide +kernel
theorem hd_X6_places : yX6_places.cls = RX6 ∧ yX6_places.cls ≠ "java/lang/invoke/MethodHandle" ∧ yX6_places.cls ≠ "java/lang/invoke/VarHandle" ∧ (parseMethodDescriptor yX6_places.desc).map (fun d => d.parameters.length) = some 1 := by decide +kernel
theorem hd_X6_seen : yX6_seen.cls = RX6 ∧ yX6_seen.cls ≠ "java/lang/invoke/MethodHandle" ∧ yX6_seen.cls ≠ "java/lang/invoke/VarHandle" ∧ (parseMethodDescriptor yX6_seen.desc).map (fun d => d.parameters.length) = some 3 := by decide +kernel
theorem hd_X6_setBox : yX6_setBox.cls = RX6 ∧ yX6_setBox.cls ≠ "java/lang/invoke/MethodHandle" ∧ yX6_setBox.cls ≠ "java/lang/invoke/VarHandle" ∧ (parseMethodDescriptor yX6_setBox.desc).map (fun d => d.parameters.length) = some 3 := by decide +kernel
theorem hd_X6_setShare : yX6_setShare.cls = RX6 ∧ yX6_setShare.cls ≠ "java/lang/invoke/MethodHandle" ∧ yX6_setShare.cls ≠ "java/lang/invoke/VarHandle" ∧ (parseMethodDescriptor yX6_setShare.desc).map (fun d => d.parameters.length) = some 1 := by decide +kernel
theorem hd_X6_setTray : yX6_setTray.cls = RX6 ∧ yX6_setTray.cls ≠ "java/lang/invoke/MethodHandle" ∧ yX6_setTray.cls ≠ "java/lang/invoke/VarHandle" ∧ (parseMethodDescriptor yX6_setTray.desc).map (fun d => d.parameters.length) = some 3 := by decide +kernel
theorem hd_X6_takeOut : yX6_takeOut.cls = RX6 ∧ yX6_takeOut.cls ≠ "java/lang/invoke/MethodHandle" ∧ yX6_takeOut.cls ≠ "java/lang/invoke/VarHandle" ∧ (parseMethodDescriptor yX6_takeOut.desc).map (fun d => d.parameters.length) = some 1 := by decide +kernel
theorem hd_X6_tray : yX6_tray.cls = RX6 ∧ yX6_tray.cls ≠ "java/lang/invoke/MethodHandle" ∧ yX6_tray.cls ≠ "java/lang/invoke/VarHandle" ∧ (parseMethodDescriptor yX6_tray.desc).map (fun d => d.parameters.length) = some 2 := by decide +kernel
