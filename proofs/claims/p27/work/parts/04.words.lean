theorem mem_places {big : List Cond} (ws : List Cond) (ps : List Nat) (hp : ws = ps.filterMap (fun i => big[i]?)) : ∀ w ∈ ws, w ∈ big := by
  intro w hw
  rw [hp] at hw
  obtain ⟨i, -, hi⟩ := List.mem_filterMap.mp hw
  exact List.mem_of_getElem? hi
theorem lwT_w {ws : List Cond} (ps : List Nat) (hp : ws = ps.filterMap (fun i => tables_1[i]?)) (hg : ws.all goodWord = true) : ∀ w ∈ ws, w ∈ lwT := fun w hw => lwT_t (mem_places ws ps hp w hw) (List.all_eq_true.mp hg w hw)
set_option maxRecDepth 100000 in
theorem inX0 : ∀ w ∈ u_ws RX0 TX0 6, w ∈ lwT := lwT_w [115, 117, 119, 121, 123, 125] (by decide +kernel) (by decide +kernel)
set_option maxRecDepth 100000 in
theorem inX1 : ∀ w ∈ u_ws RX1 TX1 9, w ∈ lwT := lwT_w [202, 204, 206, 208, 210, 212, 214, 216, 218] (by decide +kernel) (by decide +kernel)
set_option maxRecDepth 100000 in
theorem inX2 : ∀ w ∈ u_ws RX2 TX2 3, w ∈ lwT := lwT_w [141, 143, 145] (by decide +kernel) (by decide +kernel)
set_option maxRecDepth 100000 in
theorem inX3 : ∀ w ∈ u_ws RX3 TX3 6, w ∈ lwT := lwT_w [241, 243, 245, 247, 249, 251] (by decide +kernel) (by decide +kernel)
set_option maxRecDepth 100000 in
theorem inX4 : ∀ w ∈ u_ws RX4 TX4 6, w ∈ lwT := lwT_w [160, 162, 164, 166, 168, 170] (by decide +kernel) (by decide +kernel)
set_option maxRecDepth 100000 in
theorem inX5 : ∀ w ∈ u_ws RX5 TX5 14, w ∈ lwT := lwT_w [67, 69, 71, 73, 75, 77, 79, 81, 83, 85, 87, 89, 91, 93] (by decide +kernel) (by decide +kernel)
set_option maxRecDepth 100000 in
theorem inX6 : ∀ w ∈ u_ws RX6 TX6 5, w ∈ lwT := lwT_w [259, 261, 263, 265, 267] (by decide +kernel) (by decide +kernel)
set_option maxRecDepth 100000 in
theorem wc_J6_bitCount_0f7a4 : Cond.code yJ6_bitCount_0f7a4 cJ6_bitCount_0f7a4 1 (some .int) ∈ lwT := lwT_t (List.mem_of_getElem? (i := 315) (by decide +kernel)) rfl
set_option maxRecDepth 100000 in
theorem wc_J9_max_7cf53 : Cond.code yJ9_max_7cf53 cJ9_max_7cf53 2 (some .int) ∈ lwT := lwT_t (List.mem_of_getElem? (i := 378) (by decide +kernel)) rfl
set_option maxRecDepth 100000 in
theorem wc_X0_above : Cond.code yX0_above cX0_above 8 (some .int) ∈ lwT := lwT_t (List.mem_of_getElem? (i := 400) (by decide +kernel)) rfl
set_option maxRecDepth 100000 in
theorem wc_X0_air : Cond.code yX0_air cX0_air 3 (some .int) ∈ lwT := lwT_t (List.mem_of_getElem? (i := 382) (by decide +kernel)) rfl
set_option maxRecDepth 100000 in
theorem wc_X0_clear : Cond.code yX0_clear cX0_clear 2 none ∈ lwT := lwT_t (List.mem_of_getElem? (i := 326) (by decide +kernel)) rfl
set_option maxRecDepth 100000 in
theorem wc_X0_copyFrom : Cond.code yX0_copyFrom cX0_copyFrom 2 none ∈ lwT := lwT_t (List.mem_of_getElem? (i := 281) (by decide +kernel)) rfl
set_option maxRecDepth 100000 in
theorem wc_X0_copyTrays : Cond.code yX0_copyTrays cX0_copyTrays 3 none ∈ lwT := lwT_t (List.mem_of_getElem? (i := 285) (by decide +kernel)) rfl
set_option maxRecDepth 100000 in
theorem wc_X0_encloses : Cond.code yX0_encloses cX0_encloses 5 (some .boolean) ∈ lwT := lwT_t (List.mem_of_getElem? (i := 473) (by decide +kernel)) rfl
set_option maxRecDepth 100000 in
theorem wc_X0_faultOf : Cond.code yX0_faultOf cX0_faultOf 2 (some .int) ∈ lwT := lwT_t (List.mem_of_getElem? (i := 432) (by decide +kernel)) rfl
set_option maxRecDepth 100000 in
theorem wc_X0_faults : Cond.code yX0_faults cX0_faults 4 (some .int) ∈ lwT := lwT_t (List.mem_of_getElem? (i := 395) (by decide +kernel)) rfl
set_option maxRecDepth 100000 in
theorem wc_X0_filledHeight : Cond.code yX0_filledHeight cX0_filledHeight 3 (some .int) ∈ lwT := lwT_t (List.mem_of_getElem? (i := 375) (by decide +kernel)) rfl
set_option maxRecDepth 100000 in
theorem wc_X0_freeTrays : Cond.code yX0_freeTrays cX0_freeTrays 3 (some .int) ∈ lwT := lwT_t (List.mem_of_getElem? (i := 359) (by decide +kernel)) rfl
set_option maxRecDepth 100000 in
theorem wc_X0_has : Cond.code yX0_has cX0_has 2 (some .boolean) ∈ lwT := lwT_t (List.mem_of_getElem? (i := 351) (by decide +kernel)) rfl
set_option maxRecDepth 100000 in
theorem wc_X0_highestFloor : Cond.code yX0_highestFloor cX0_highestFloor 2 (some .int) ∈ lwT := lwT_t (List.mem_of_getElem? (i := 490) (by decide +kernel)) rfl
set_option maxRecDepth 100000 in
theorem wc_X0_inside : Cond.code yX0_inside cX0_inside 3 (some .int) ∈ lwT := lwT_t (List.mem_of_getElem? (i := 312) (by decide +kernel)) rfl
set_option maxRecDepth 100000 in
theorem wc_X0_isFree : Cond.code yX0_isFree cX0_isFree 2 (some .boolean) ∈ lwT := lwT_t (List.mem_of_getElem? (i := 363) (by decide +kernel)) rfl
set_option maxRecDepth 100000 in
theorem wc_X0_lateOnes : Cond.code yX0_lateOnes cX0_lateOnes 5 (some .int) ∈ lwT := lwT_t (List.mem_of_getElem? (i := 404) (by decide +kernel)) rfl
set_option maxRecDepth 100000 in
theorem wc_X0_lifts : Cond.code yX0_lifts cX0_lifts 4 (some .int) ∈ lwT := lwT_t (List.mem_of_getElem? (i := 408) (by decide +kernel)) rfl
set_option maxRecDepth 100000 in
theorem wc_X0_lyingOn : Cond.code yX0_lyingOn cX0_lyingOn 4 (some .int) ∈ lwT := lwT_t (List.mem_of_getElem? (i := 367) (by decide +kernel)) rfl
set_option maxRecDepth 100000 in
theorem wc_X0_uppermost : Cond.code yX0_uppermost cX0_uppermost 6 (some .int) ∈ lwT := lwT_t (List.mem_of_getElem? (i := 444) (by decide +kernel)) rfl
set_option maxRecDepth 100000 in
theorem wc_X1_holds : Cond.code yX1_holds cX1_holds 12 (some .boolean) ∈ lwT := lwT_t (List.mem_of_getElem? (i := 494) (by decide +kernel)) rfl
set_option maxRecDepth 100000 in
theorem wc_X1_keep : Cond.code yX1_keep cX1_keep 4 none ∈ lwT := lwT_t (List.mem_of_getElem? (i := 501) (by decide +kernel)) rfl
set_option maxRecDepth 100000 in
theorem wc_X1_raise : Cond.code yX1_raise cX1_raise 6 none ∈ lwT := lwT_t (List.mem_of_getElem? (i := 469) (by decide +kernel)) rfl
set_option maxRecDepth 100000 in
theorem wc_X1_search : Cond.code yX1_search cX1_search 9 none ∈ lwT := lwT_t (List.mem_of_getElem? (i := 486) (by decide +kernel)) rfl
set_option maxRecDepth 100000 in
theorem wc_X1_survey : Cond.code yX1_survey cX1_survey 3 none ∈ lwT := lwT_t (List.mem_of_getElem? (i := 465) (by decide +kernel)) rfl
set_option maxRecDepth 100000 in
theorem wc_X2_record : Cond.code yX2_record cX2_record 2 none ∈ lwT := lwT_t (List.mem_of_getElem? (i := 322) (by decide +kernel)) rfl
set_option maxRecDepth 100000 in
theorem wc_X2_restore : Cond.code yX2_restore cX2_restore 2 none ∈ lwT := lwT_t (List.mem_of_getElem? (i := 277) (by decide +kernel)) rfl
set_option maxRecDepth 100000 in
theorem wc_X3_isBefore : Cond.code yX3_isBefore cX3_isBefore 2 (some .boolean) ∈ lwT := lwT_t (List.mem_of_getElem? (i := 589) (by decide +kernel)) rfl
set_option maxRecDepth 100000 in
theorem wc_X3_isTriedBetter : Cond.code yX3_isTriedBetter cX3_isTriedBetter 2 (some .boolean) ∈ lwT := lwT_t (List.mem_of_getElem? (i := 571) (by decide +kernel)) rfl
set_option maxRecDepth 100000 in
theorem wc_X3_letDownFrom : Cond.code yX3_letDownFrom cX3_letDownFrom 5 none ∈ lwT := lwT_t (List.mem_of_getElem? (i := 553) (by decide +kernel)) rfl
set_option maxRecDepth 100000 in
theorem wc_X3_measure : Cond.code yX3_measure cX3_measure 2 none ∈ lwT := lwT_t (List.mem_of_getElem? (i := 562) (by decide +kernel)) rfl
set_option maxRecDepth 100000 in
theorem wc_X3_packByBest : Cond.code yX3_packByBest cX3_packByBest 4 none ∈ lwT := lwT_t (List.mem_of_getElem? (i := 548) (by decide +kernel)) rfl
set_option maxRecDepth 100000 in
theorem wc_X3_packUsually : Cond.code yX3_packUsually cX3_packUsually 4 none ∈ lwT := lwT_t (List.mem_of_getElem? (i := 586) (by decide +kernel)) rfl
set_option maxRecDepth 100000 in
theorem wc_X3_stepToNextOrder : Cond.code yX3_stepToNextOrder cX3_stepToNextOrder 5 (some .int) ∈ lwT := lwT_t (List.mem_of_getElem? (i := 578) (by decide +kernel)) rfl
set_option maxRecDepth 100000 in
theorem wc_X3_swap : Cond.code yX3_swap cX3_swap 4 none ∈ lwT := lwT_t (List.mem_of_getElem? (i := 582) (by decide +kernel)) rfl
set_option maxRecDepth 100000 in
theorem wc_X5_alongX : Cond.code yX5_alongX cX5_alongX 2 (some .int) ∈ lwT := lwT_t (List.mem_of_getElem? (i := 477) (by decide +kernel)) rfl
set_option maxRecDepth 100000 in
theorem wc_X5_alongY : Cond.code yX5_alongY cX5_alongY 2 (some .int) ∈ lwT := lwT_t (List.mem_of_getElem? (i := 481) (by decide +kernel)) rfl
set_option maxRecDepth 100000 in
theorem wc_X5_area : Cond.code yX5_area cX5_area 1 (some .int) ∈ lwT := lwT_t (List.mem_of_getElem? (i := 387) (by decide +kernel)) rfl
set_option maxRecDepth 100000 in
theorem wc_X5_become : Cond.code yX5_become cX5_become 5 none ∈ lwT := lwT_t (List.mem_of_getElem? (i := 342) (by decide +kernel)) rfl
set_option maxRecDepth 100000 in
theorem wc_X5_copyFrom : Cond.code yX5_copyFrom cX5_copyFrom 2 none ∈ lwT := lwT_t (List.mem_of_getElem? (i := 289) (by decide +kernel)) rfl
set_option maxRecDepth 100000 in
theorem wc_X5_covers : Cond.code yX5_covers cX5_covers 3 (some .boolean) ∈ lwT := lwT_t (List.mem_of_getElem? (i := 448) (by decide +kernel)) rfl
set_option maxRecDepth 100000 in
theorem wc_X5_leave : Cond.code yX5_leave cX5_leave 1 none ∈ lwT := lwT_t (List.mem_of_getElem? (i := 330) (by decide +kernel)) rfl
set_option maxRecDepth 100000 in
theorem wc_X5_lie : Cond.code yX5_lie cX5_lie 6 none ∈ lwT := lwT_t (List.mem_of_getElem? (i := 534) (by decide +kernel)) rfl
set_option maxRecDepth 100000 in
theorem wc_X5_liesOn : Cond.code yX5_liesOn cX5_liesOn 2 (some .boolean) ∈ lwT := lwT_t (List.mem_of_getElem? (i := 371) (by decide +kernel)) rfl
set_option maxRecDepth 100000 in
theorem wc_X5_property : Cond.code yX5_property cX5_property 2 (some .int) ∈ lwT := lwT_t (List.mem_of_getElem? (i := 423) (by decide +kernel)) rfl
set_option maxRecDepth 100000 in
theorem wc_X5_tall : Cond.code yX5_tall cX5_tall 1 (some .int) ∈ lwT := lwT_t (List.mem_of_getElem? (i := 391) (by decide +kernel)) rfl
set_option maxRecDepth 100000 in
theorem wc_X6_isWithin : Cond.code yX6_isWithin cX6_isWithin 3 (some .boolean) ∈ lwT := lwT_t (List.mem_of_getElem? (i := 308) (by decide +kernel)) rfl
set_option maxRecDepth 100000 in
theorem wc_X6_placedProperty : Cond.code yX6_placedProperty cX6_placedProperty 4 (some .int) ∈ lwT := lwT_t (List.mem_of_getElem? (i := 427) (by decide +kernel)) rfl
set_option maxRecDepth 100000 in
theorem wc_X6_takeOverPacked : Cond.code yX6_takeOverPacked cX6_takeOverPacked 1 (some .int) ∈ lwT := lwT_t (List.mem_of_getElem? (i := 598) (by decide +kernel)) rfl
set_option maxRecDepth 100000 in
theorem wf_X0_15 : Cond.fieldLink RX0 15 "TrayBox$Box" "length" "I" ∈ lwT := lwT_t (List.mem_of_getElem? (i := 99) (by decide +kernel)) rfl
set_option maxRecDepth 100000 in
theorem wf_X0_18 : Cond.fieldLink RX0 18 "TrayBox$Box" "depth" "I" ∈ lwT := lwT_t (List.mem_of_getElem? (i := 102) (by decide +kernel)) rfl
set_option maxRecDepth 100000 in
theorem wf_X0_21 : Cond.fieldLink RX0 21 "TrayBox$Box" "share" "I" ∈ lwT := lwT_t (List.mem_of_getElem? (i := 104) (by decide +kernel)) rfl
set_option maxRecDepth 100000 in
theorem wf_X0_26 : Cond.fieldLink RX0 26 "TrayBox$Box" "row" "[LTrayBox$Tray;" ∈ lwT := lwT_t (List.mem_of_getElem? (i := 111) (by decide +kernel)) rfl
set_option maxRecDepth 100000 in
theorem wf_X0_35 : Cond.fieldLink RX0 35 "TrayBox$Box" "trays" "I" ∈ lwT := lwT_t (List.mem_of_getElem? (i := 109) (by decide +kernel)) rfl
set_option maxRecDepth 100000 in
theorem wf_X0_56 : Cond.fieldLink RX0 56 "TrayBox$Tray" "inside" "Z" ∈ lwT := lwT_t (List.mem_of_getElem? (i := 45) (by decide +kernel)) rfl
set_option maxRecDepth 100000 in
theorem wf_X0_64 : Cond.fieldLink RX0 64 "TrayBox$Tray" "top" "I" ∈ lwT := lwT_t (List.mem_of_getElem? (i := 63) (by decide +kernel)) rfl
set_option maxRecDepth 100000 in
theorem wf_X0_81 : Cond.fieldLink RX0 81 "TrayBox$Tray" "turn" "I" ∈ lwT := lwT_t (List.mem_of_getElem? (i := 40) (by decide +kernel)) rfl
set_option maxRecDepth 100000 in
theorem wf_X0_9 : Cond.fieldLink RX0 9 "TrayBox$Box" "width" "I" ∈ lwT := lwT_t (List.mem_of_getElem? (i := 96) (by decide +kernel)) rfl
set_option maxRecDepth 100000 in
theorem wf_X1_106 : Cond.fieldLink RX1 106 "TrayBox$Finder" "bestX" "I" ∈ lwT := lwT_t (List.mem_of_getElem? (i := 189) (by decide +kernel)) rfl
set_option maxRecDepth 100000 in
theorem wf_X1_109 : Cond.fieldLink RX1 109 "TrayBox$Finder" "bestY" "I" ∈ lwT := lwT_t (List.mem_of_getElem? (i := 192) (by decide +kernel)) rfl
set_option maxRecDepth 100000 in
theorem wf_X1_112 : Cond.fieldLink RX1 112 "TrayBox$Finder" "bestTurned" "Z" ∈ lwT := lwT_t (List.mem_of_getElem? (i := 195) (by decide +kernel)) rfl
set_option maxRecDepth 100000 in
theorem wf_X1_115 : Cond.fieldLink RX1 115 "TrayBox$Finder" "bestFloor" "I" ∈ lwT := lwT_t (List.mem_of_getElem? (i := 198) (by decide +kernel)) rfl
set_option maxRecDepth 100000 in
theorem wf_X1_118 : Cond.fieldLink RX1 118 "TrayBox$Finder" "bestRest" "I" ∈ lwT := lwT_t (List.mem_of_getElem? (i := 201) (by decide +kernel)) rfl
set_option maxRecDepth 100000 in
theorem wf_X1_15 : Cond.fieldLink RX1 15 "TrayBox$Box" "trays" "I" ∈ lwT := lwT_t (List.mem_of_getElem? (i := 108) (by decide +kernel)) rfl
set_option maxRecDepth 100000 in
theorem wf_X1_21 : Cond.fieldLink RX1 21 "TrayBox$Box" "row" "[LTrayBox$Tray;" ∈ lwT := lwT_t (List.mem_of_getElem? (i := 113) (by decide +kernel)) rfl
set_option maxRecDepth 100000 in
theorem wf_X1_29 : Cond.fieldLink RX1 29 "TrayBox$Tray" "inside" "Z" ∈ lwT := lwT_t (List.mem_of_getElem? (i := 43) (by decide +kernel)) rfl
set_option maxRecDepth 100000 in
theorem wf_X1_35 : Cond.fieldLink RX1 35 "TrayBox$Tray" "x" "I" ∈ lwT := lwT_t (List.mem_of_getElem? (i := 49) (by decide +kernel)) rfl
set_option maxRecDepth 100000 in
theorem wf_X1_38 : Cond.fieldLink RX1 38 "TrayBox$Tray" "y" "I" ∈ lwT := lwT_t (List.mem_of_getElem? (i := 52) (by decide +kernel)) rfl
set_option maxRecDepth 100000 in
theorem wf_X1_41 : Cond.fieldLink RX1 41 "TrayBox$Tray" "turned" "Z" ∈ lwT := lwT_t (List.mem_of_getElem? (i := 47) (by decide +kernel)) rfl
set_option maxRecDepth 100000 in
theorem wf_X1_48 : Cond.fieldLink RX1 48 "TrayBox$Tray" "endY" "I" ∈ lwT := lwT_t (List.mem_of_getElem? (i := 57) (by decide +kernel)) rfl
set_option maxRecDepth 100000 in
theorem wf_X1_51 : Cond.fieldLink RX1 51 "TrayBox$Tray" "endX" "I" ∈ lwT := lwT_t (List.mem_of_getElem? (i := 55) (by decide +kernel)) rfl
set_option maxRecDepth 100000 in
theorem wf_X1_54 : Cond.fieldLink RX1 54 "TrayBox$Tray" "top" "I" ∈ lwT := lwT_t (List.mem_of_getElem? (i := 61) (by decide +kernel)) rfl
set_option maxRecDepth 100000 in
theorem wf_X1_63 : Cond.fieldLink RX1 63 "TrayBox$Finder" "floor" "I" ∈ lwT := lwT_t (List.mem_of_getElem? (i := 181) (by decide +kernel)) rfl
set_option maxRecDepth 100000 in
theorem wf_X1_66 : Cond.fieldLink RX1 66 "TrayBox$Finder" "rest" "I" ∈ lwT := lwT_t (List.mem_of_getElem? (i := 183) (by decide +kernel)) rfl
set_option maxRecDepth 100000 in
theorem wf_X1_76 : Cond.fieldLink RX1 76 "TrayBox$Box" "share" "I" ∈ lwT := lwT_t (List.mem_of_getElem? (i := 106) (by decide +kernel)) rfl
set_option maxRecDepth 100000 in
theorem wf_X1_83 : Cond.fieldLink RX1 83 "TrayBox$Finder" "found" "I" ∈ lwT := lwT_t (List.mem_of_getElem? (i := 185) (by decide +kernel)) rfl
set_option maxRecDepth 100000 in
theorem wf_X1_9 : Cond.fieldLink RX1 9 "TrayBox$Finder" "tops" "[I" ∈ lwT := lwT_t (List.mem_of_getElem? (i := 180) (by decide +kernel)) rfl
set_option maxRecDepth 100000 in
theorem wf_X1_90 : Cond.fieldLink RX1 90 "TrayBox$Tray" "width" "I" ∈ lwT := lwT_t (List.mem_of_getElem? (i := 33) (by decide +kernel)) rfl
set_option maxRecDepth 100000 in
theorem wf_X1_93 : Cond.fieldLink RX1 93 "TrayBox$Tray" "length" "I" ∈ lwT := lwT_t (List.mem_of_getElem? (i := 35) (by decide +kernel)) rfl
set_option maxRecDepth 100000 in
theorem wf_X1_96 : Cond.fieldLink RX1 96 "TrayBox$Box" "length" "I" ∈ lwT := lwT_t (List.mem_of_getElem? (i := 101) (by decide +kernel)) rfl
set_option maxRecDepth 100000 in
theorem wf_X1_97 : Cond.fieldLink RX1 97 "TrayBox$Box" "width" "I" ∈ lwT := lwT_t (List.mem_of_getElem? (i := 98) (by decide +kernel)) rfl
set_option maxRecDepth 100000 in
theorem wf_X2_11 : Cond.fieldLink RX2 11 "TrayBox$History" "ring" "[LTrayBox$Box;" ∈ lwT := lwT_t (List.mem_of_getElem? (i := 140) (by decide +kernel)) rfl
set_option maxRecDepth 100000 in
theorem wf_X2_18 : Cond.fieldLink RX2 18 "TrayBox$History" "size" "I" ∈ lwT := lwT_t (List.mem_of_getElem? (i := 137) (by decide +kernel)) rfl
set_option maxRecDepth 100000 in
theorem wf_X2_22 : Cond.fieldLink RX2 22 "TrayBox$History" "oldest" "I" ∈ lwT := lwT_t (List.mem_of_getElem? (i := 139) (by decide +kernel)) rfl
set_option maxRecDepth 100000 in
theorem wf_X3_100 : Cond.fieldLink RX3 100 "TrayBox$Finder" "bestY" "I" ∈ lwT := lwT_t (List.mem_of_getElem? (i := 191) (by decide +kernel)) rfl
set_option maxRecDepth 100000 in
theorem wf_X3_103 : Cond.fieldLink RX3 103 "TrayBox$Finder" "bestTurned" "Z" ∈ lwT := lwT_t (List.mem_of_getElem? (i := 194) (by decide +kernel)) rfl
set_option maxRecDepth 100000 in
theorem wf_X3_107 : Cond.fieldLink RX3 107 "TrayBox$Finder" "bestFloor" "I" ∈ lwT := lwT_t (List.mem_of_getElem? (i := 197) (by decide +kernel)) rfl
set_option maxRecDepth 100000 in
theorem wf_X3_110 : Cond.fieldLink RX3 110 "TrayBox$Finder" "bestRest" "I" ∈ lwT := lwT_t (List.mem_of_getElem? (i := 200) (by decide +kernel)) rfl
set_option maxRecDepth 100000 in
theorem wf_X3_15 : Cond.fieldLink RX3 15 "TrayBox$Packer" "figures" "[I" ∈ lwT := lwT_t (List.mem_of_getElem? (i := 234) (by decide +kernel)) rfl
set_option maxRecDepth 100000 in
theorem wf_X3_21 : Cond.fieldLink RX3 21 "TrayBox$Packer" "trial" "LTrayBox$Box;" ∈ lwT := lwT_t (List.mem_of_getElem? (i := 236) (by decide +kernel)) rfl
set_option maxRecDepth 100000 in
theorem wf_X3_25 : Cond.fieldLink RX3 25 "TrayBox$Packer" "triedOrder" "[I" ∈ lwT := lwT_t (List.mem_of_getElem? (i := 238) (by decide +kernel)) rfl
set_option maxRecDepth 100000 in
theorem wf_X3_28 : Cond.fieldLink RX3 28 "TrayBox$Packer" "triedFigures" "[I" ∈ lwT := lwT_t (List.mem_of_getElem? (i := 239) (by decide +kernel)) rfl
set_option maxRecDepth 100000 in
theorem wf_X3_34 : Cond.fieldLink RX3 34 "TrayBox$Packer" "finder" "LTrayBox$Finder;" ∈ lwT := lwT_t (List.mem_of_getElem? (i := 240) (by decide +kernel)) rfl
set_option maxRecDepth 100000 in
theorem wf_X3_42 : Cond.fieldLink RX3 42 "TrayBox$Box" "trays" "I" ∈ lwT := lwT_t (List.mem_of_getElem? (i := 107) (by decide +kernel)) rfl
set_option maxRecDepth 100000 in
theorem wf_X3_46 : Cond.fieldLink RX3 46 "TrayBox$Box" "row" "[LTrayBox$Tray;" ∈ lwT := lwT_t (List.mem_of_getElem? (i := 112) (by decide +kernel)) rfl
set_option maxRecDepth 100000 in
theorem wf_X3_62 : Cond.fieldLink RX3 62 "TrayBox$Tray" "turn" "I" ∈ lwT := lwT_t (List.mem_of_getElem? (i := 38) (by decide +kernel)) rfl
set_option maxRecDepth 100000 in
theorem wf_X3_9 : Cond.fieldLink RX3 9 "TrayBox$Packer" "order" "[I" ∈ lwT := lwT_t (List.mem_of_getElem? (i := 232) (by decide +kernel)) rfl
set_option maxRecDepth 100000 in
theorem wf_X3_94 : Cond.fieldLink RX3 94 "TrayBox$Finder" "found" "I" ∈ lwT := lwT_t (List.mem_of_getElem? (i := 186) (by decide +kernel)) rfl
set_option maxRecDepth 100000 in
theorem wf_X3_97 : Cond.fieldLink RX3 97 "TrayBox$Finder" "bestX" "I" ∈ lwT := lwT_t (List.mem_of_getElem? (i := 188) (by decide +kernel)) rfl
set_option maxRecDepth 100000 in
theorem wf_X5_13 : Cond.fieldLink RX5 13 "TrayBox$Tray" "length" "I" ∈ lwT := lwT_t (List.mem_of_getElem? (i := 34) (by decide +kernel)) rfl
set_option maxRecDepth 100000 in
theorem wf_X5_16 : Cond.fieldLink RX5 16 "TrayBox$Tray" "height" "I" ∈ lwT := lwT_t (List.mem_of_getElem? (i := 36) (by decide +kernel)) rfl
set_option maxRecDepth 100000 in
theorem wf_X5_19 : Cond.fieldLink RX5 19 "TrayBox$Tray" "turn" "I" ∈ lwT := lwT_t (List.mem_of_getElem? (i := 37) (by decide +kernel)) rfl
set_option maxRecDepth 100000 in
theorem wf_X5_22 : Cond.fieldLink RX5 22 "TrayBox$Tray" "lid" "I" ∈ lwT := lwT_t (List.mem_of_getElem? (i := 41) (by decide +kernel)) rfl
set_option maxRecDepth 100000 in
theorem wf_X5_28 : Cond.fieldLink RX5 28 "TrayBox$Tray" "inside" "Z" ∈ lwT := lwT_t (List.mem_of_getElem? (i := 44) (by decide +kernel)) rfl
set_option maxRecDepth 100000 in
theorem wf_X5_32 : Cond.fieldLink RX5 32 "TrayBox$Tray" "turned" "Z" ∈ lwT := lwT_t (List.mem_of_getElem? (i := 48) (by decide +kernel)) rfl
set_option maxRecDepth 100000 in
theorem wf_X5_35 : Cond.fieldLink RX5 35 "TrayBox$Tray" "x" "I" ∈ lwT := lwT_t (List.mem_of_getElem? (i := 50) (by decide +kernel)) rfl
set_option maxRecDepth 100000 in
theorem wf_X5_38 : Cond.fieldLink RX5 38 "TrayBox$Tray" "y" "I" ∈ lwT := lwT_t (List.mem_of_getElem? (i := 53) (by decide +kernel)) rfl
set_option maxRecDepth 100000 in
theorem wf_X5_41 : Cond.fieldLink RX5 41 "TrayBox$Tray" "endX" "I" ∈ lwT := lwT_t (List.mem_of_getElem? (i := 56) (by decide +kernel)) rfl
set_option maxRecDepth 100000 in
theorem wf_X5_44 : Cond.fieldLink RX5 44 "TrayBox$Tray" "endY" "I" ∈ lwT := lwT_t (List.mem_of_getElem? (i := 58) (by decide +kernel)) rfl
set_option maxRecDepth 100000 in
theorem wf_X5_47 : Cond.fieldLink RX5 47 "TrayBox$Tray" "floor" "I" ∈ lwT := lwT_t (List.mem_of_getElem? (i := 59) (by decide +kernel)) rfl
set_option maxRecDepth 100000 in
theorem wf_X5_50 : Cond.fieldLink RX5 50 "TrayBox$Tray" "top" "I" ∈ lwT := lwT_t (List.mem_of_getElem? (i := 62) (by decide +kernel)) rfl
set_option maxRecDepth 100000 in
theorem wf_X5_53 : Cond.fieldLink RX5 53 "TrayBox$Tray" "rest" "I" ∈ lwT := lwT_t (List.mem_of_getElem? (i := 65) (by decide +kernel)) rfl
set_option maxRecDepth 100000 in
theorem wf_X5_7 : Cond.fieldLink RX5 7 "TrayBox$Tray" "width" "I" ∈ lwT := lwT_t (List.mem_of_getElem? (i := 32) (by decide +kernel)) rfl
set_option maxRecDepth 100000 in
theorem wf_X6_10 : Cond.fieldLink RX6 10 "TrayBox" "box" "LTrayBox$Box;" ∈ lwT := lwT_t (List.mem_of_getElem? (i := 254) (by decide +kernel)) rfl
set_option maxRecDepth 100000 in
theorem wf_X6_112 : Cond.fieldLink RX6 112 "TrayBox$Tray" "inside" "Z" ∈ lwT := lwT_t (List.mem_of_getElem? (i := 46) (by decide +kernel)) rfl
set_option maxRecDepth 100000 in
theorem wf_X6_119 : Cond.fieldLink RX6 119 "TrayBox$Tray" "turn" "I" ∈ lwT := lwT_t (List.mem_of_getElem? (i := 39) (by decide +kernel)) rfl
set_option maxRecDepth 100000 in
theorem wf_X6_122 : Cond.fieldLink RX6 122 "TrayBox$Tray" "lid" "I" ∈ lwT := lwT_t (List.mem_of_getElem? (i := 42) (by decide +kernel)) rfl
set_option maxRecDepth 100000 in
theorem wf_X6_140 : Cond.fieldLink RX6 140 "TrayBox$Finder" "floor" "I" ∈ lwT := lwT_t (List.mem_of_getElem? (i := 182) (by decide +kernel)) rfl
set_option maxRecDepth 100000 in
theorem wf_X6_143 : Cond.fieldLink RX6 143 "TrayBox$Finder" "rest" "I" ∈ lwT := lwT_t (List.mem_of_getElem? (i := 184) (by decide +kernel)) rfl
set_option maxRecDepth 100000 in
theorem wf_X6_150 : Cond.fieldLink RX6 150 "TrayBox$Tray" "floor" "I" ∈ lwT := lwT_t (List.mem_of_getElem? (i := 60) (by decide +kernel)) rfl
set_option maxRecDepth 100000 in
theorem wf_X6_167 : Cond.fieldLink RX6 167 "TrayBox$Tray" "top" "I" ∈ lwT := lwT_t (List.mem_of_getElem? (i := 64) (by decide +kernel)) rfl
set_option maxRecDepth 100000 in
theorem wf_X6_174 : Cond.fieldLink RX6 174 "TrayBox$Finder" "found" "I" ∈ lwT := lwT_t (List.mem_of_getElem? (i := 187) (by decide +kernel)) rfl
set_option maxRecDepth 100000 in
theorem wf_X6_177 : Cond.fieldLink RX6 177 "TrayBox$Finder" "bestX" "I" ∈ lwT := lwT_t (List.mem_of_getElem? (i := 190) (by decide +kernel)) rfl
set_option maxRecDepth 100000 in
theorem wf_X6_180 : Cond.fieldLink RX6 180 "TrayBox$Finder" "bestY" "I" ∈ lwT := lwT_t (List.mem_of_getElem? (i := 193) (by decide +kernel)) rfl
set_option maxRecDepth 100000 in
theorem wf_X6_183 : Cond.fieldLink RX6 183 "TrayBox$Finder" "bestTurned" "Z" ∈ lwT := lwT_t (List.mem_of_getElem? (i := 196) (by decide +kernel)) rfl
set_option maxRecDepth 100000 in
theorem wf_X6_186 : Cond.fieldLink RX6 186 "TrayBox$Finder" "bestFloor" "I" ∈ lwT := lwT_t (List.mem_of_getElem? (i := 199) (by decide +kernel)) rfl
set_option maxRecDepth 100000 in
theorem wf_X6_19 : Cond.fieldLink RX6 19 "TrayBox" "history" "LTrayBox$History;" ∈ lwT := lwT_t (List.mem_of_getElem? (i := 255) (by decide +kernel)) rfl
set_option maxRecDepth 100000 in
theorem wf_X6_201 : Cond.fieldLink RX6 201 "TrayBox$Packer" "figures" "[I" ∈ lwT := lwT_t (List.mem_of_getElem? (i := 235) (by decide +kernel)) rfl
set_option maxRecDepth 100000 in
theorem wf_X6_205 : Cond.fieldLink RX6 205 "TrayBox$Packer" "order" "[I" ∈ lwT := lwT_t (List.mem_of_getElem? (i := 233) (by decide +kernel)) rfl
set_option maxRecDepth 100000 in
theorem wf_X6_211 : Cond.fieldLink RX6 211 "TrayBox$History" "size" "I" ∈ lwT := lwT_t (List.mem_of_getElem? (i := 138) (by decide +kernel)) rfl
set_option maxRecDepth 100000 in
theorem wf_X6_252 : Cond.fieldLink RX6 252 "TrayBox$Tray" "x" "I" ∈ lwT := lwT_t (List.mem_of_getElem? (i := 51) (by decide +kernel)) rfl
set_option maxRecDepth 100000 in
theorem wf_X6_255 : Cond.fieldLink RX6 255 "TrayBox$Tray" "y" "I" ∈ lwT := lwT_t (List.mem_of_getElem? (i := 54) (by decide +kernel)) rfl
set_option maxRecDepth 100000 in
theorem wf_X6_26 : Cond.fieldLink RX6 26 "TrayBox" "text" "LTrayBox$Text;" ∈ lwT := lwT_t (List.mem_of_getElem? (i := 256) (by decide +kernel)) rfl
set_option maxRecDepth 100000 in
theorem wf_X6_264 : Cond.fieldLink RX6 264 "TrayBox$Tray" "rest" "I" ∈ lwT := lwT_t (List.mem_of_getElem? (i := 66) (by decide +kernel)) rfl
set_option maxRecDepth 100000 in
theorem wf_X6_265 : Cond.fieldLink RX6 265 "TrayBox$Packer" "trial" "LTrayBox$Box;" ∈ lwT := lwT_t (List.mem_of_getElem? (i := 237) (by decide +kernel)) rfl
set_option maxRecDepth 100000 in
theorem wf_X6_33 : Cond.fieldLink RX6 33 "TrayBox" "finder" "LTrayBox$Finder;" ∈ lwT := lwT_t (List.mem_of_getElem? (i := 257) (by decide +kernel)) rfl
set_option maxRecDepth 100000 in
theorem wf_X6_40 : Cond.fieldLink RX6 40 "TrayBox" "packer" "LTrayBox$Packer;" ∈ lwT := lwT_t (List.mem_of_getElem? (i := 258) (by decide +kernel)) rfl
set_option maxRecDepth 100000 in
theorem wf_X6_65 : Cond.fieldLink RX6 65 "TrayBox$Box" "width" "I" ∈ lwT := lwT_t (List.mem_of_getElem? (i := 97) (by decide +kernel)) rfl
set_option maxRecDepth 100000 in
theorem wf_X6_69 : Cond.fieldLink RX6 69 "TrayBox$Box" "length" "I" ∈ lwT := lwT_t (List.mem_of_getElem? (i := 100) (by decide +kernel)) rfl
set_option maxRecDepth 100000 in
theorem wf_X6_72 : Cond.fieldLink RX6 72 "TrayBox$Box" "depth" "I" ∈ lwT := lwT_t (List.mem_of_getElem? (i := 103) (by decide +kernel)) rfl
set_option maxRecDepth 100000 in
theorem wf_X6_75 : Cond.fieldLink RX6 75 "TrayBox$Box" "share" "I" ∈ lwT := lwT_t (List.mem_of_getElem? (i := 105) (by decide +kernel)) rfl
set_option maxRecDepth 100000 in
theorem wf_X6_78 : Cond.fieldLink RX6 78 "TrayBox$Text" "length" "I" ∈ lwT := lwT_t (List.mem_of_getElem? (i := 156) (by decide +kernel)) rfl
set_option maxRecDepth 100000 in
theorem wf_X6_95 : Cond.fieldLink RX6 95 "TrayBox$Box" "trays" "I" ∈ lwT := lwT_t (List.mem_of_getElem? (i := 110) (by decide +kernel)) rfl
set_option maxRecDepth 100000 in
theorem wf_X6_98 : Cond.fieldLink RX6 98 "TrayBox$Box" "row" "[LTrayBox$Tray;" ∈ lwT := lwT_t (List.mem_of_getElem? (i := 114) (by decide +kernel)) rfl
set_option maxRecDepth 100000 in
theorem wi_X0_above : Cond.instanceMethod yX0_above ∈ lwT := lwT_t (List.mem_of_getElem? (i := 398) (by decide +kernel)) rfl
set_option maxRecDepth 100000 in
theorem wi_X0_air : Cond.instanceMethod yX0_air ∈ lwT := lwT_t (List.mem_of_getElem? (i := 380) (by decide +kernel)) rfl
set_option maxRecDepth 100000 in
theorem wi_X0_clear : Cond.instanceMethod yX0_clear ∈ lwT := lwT_t (List.mem_of_getElem? (i := 324) (by decide +kernel)) rfl
set_option maxRecDepth 100000 in
theorem wi_X0_copyFrom : Cond.instanceMethod yX0_copyFrom ∈ lwT := lwT_t (List.mem_of_getElem? (i := 279) (by decide +kernel)) rfl
set_option maxRecDepth 100000 in
theorem wi_X0_copyTrays : Cond.instanceMethod yX0_copyTrays ∈ lwT := lwT_t (List.mem_of_getElem? (i := 283) (by decide +kernel)) rfl
set_option maxRecDepth 100000 in
theorem wi_X0_encloses : Cond.instanceMethod yX0_encloses ∈ lwT := lwT_t (List.mem_of_getElem? (i := 471) (by decide +kernel)) rfl
set_option maxRecDepth 100000 in
theorem wi_X0_faultOf : Cond.instanceMethod yX0_faultOf ∈ lwT := lwT_t (List.mem_of_getElem? (i := 430) (by decide +kernel)) rfl
set_option maxRecDepth 100000 in
theorem wi_X0_faults : Cond.instanceMethod yX0_faults ∈ lwT := lwT_t (List.mem_of_getElem? (i := 393) (by decide +kernel)) rfl
set_option maxRecDepth 100000 in
theorem wi_X0_filledHeight : Cond.instanceMethod yX0_filledHeight ∈ lwT := lwT_t (List.mem_of_getElem? (i := 373) (by decide +kernel)) rfl
set_option maxRecDepth 100000 in
theorem wi_X0_freeTrays : Cond.instanceMethod yX0_freeTrays ∈ lwT := lwT_t (List.mem_of_getElem? (i := 357) (by decide +kernel)) rfl
set_option maxRecDepth 100000 in
theorem wi_X0_has : Cond.instanceMethod yX0_has ∈ lwT := lwT_t (List.mem_of_getElem? (i := 349) (by decide +kernel)) rfl
set_option maxRecDepth 100000 in
theorem wi_X0_highestFloor : Cond.instanceMethod yX0_highestFloor ∈ lwT := lwT_t (List.mem_of_getElem? (i := 488) (by decide +kernel)) rfl
set_option maxRecDepth 100000 in
theorem wi_X0_inside : Cond.instanceMethod yX0_inside ∈ lwT := lwT_t (List.mem_of_getElem? (i := 310) (by decide +kernel)) rfl
set_option maxRecDepth 100000 in
theorem wi_X0_isFree : Cond.instanceMethod yX0_isFree ∈ lwT := lwT_t (List.mem_of_getElem? (i := 361) (by decide +kernel)) rfl
set_option maxRecDepth 100000 in
theorem wi_X0_lateOnes : Cond.instanceMethod yX0_lateOnes ∈ lwT := lwT_t (List.mem_of_getElem? (i := 403) (by decide +kernel)) rfl
set_option maxRecDepth 100000 in
theorem wi_X0_lifts : Cond.instanceMethod yX0_lifts ∈ lwT := lwT_t (List.mem_of_getElem? (i := 406) (by decide +kernel)) rfl
set_option maxRecDepth 100000 in
theorem wi_X0_lyingOn : Cond.instanceMethod yX0_lyingOn ∈ lwT := lwT_t (List.mem_of_getElem? (i := 366) (by decide +kernel)) rfl
set_option maxRecDepth 100000 in
theorem wi_X0_uppermost : Cond.instanceMethod yX0_uppermost ∈ lwT := lwT_t (List.mem_of_getElem? (i := 442) (by decide +kernel)) rfl
set_option maxRecDepth 100000 in
theorem wi_X1_holds : Cond.instanceMethod yX1_holds ∈ lwT := lwT_t (List.mem_of_getElem? (i := 492) (by decide +kernel)) rfl
set_option maxRecDepth 100000 in
theorem wi_X1_keep : Cond.instanceMethod yX1_keep ∈ lwT := lwT_t (List.mem_of_getElem? (i := 500) (by decide +kernel)) rfl
set_option maxRecDepth 100000 in
theorem wi_X1_raise : Cond.instanceMethod yX1_raise ∈ lwT := lwT_t (List.mem_of_getElem? (i := 467) (by decide +kernel)) rfl
set_option maxRecDepth 100000 in
theorem wi_X1_search : Cond.instanceMethod yX1_search ∈ lwT := lwT_t (List.mem_of_getElem? (i := 484) (by decide +kernel)) rfl
set_option maxRecDepth 100000 in
theorem wi_X1_survey : Cond.instanceMethod yX1_survey ∈ lwT := lwT_t (List.mem_of_getElem? (i := 463) (by decide +kernel)) rfl
set_option maxRecDepth 100000 in
theorem wi_X2_record : Cond.instanceMethod yX2_record ∈ lwT := lwT_t (List.mem_of_getElem? (i := 320) (by decide +kernel)) rfl
set_option maxRecDepth 100000 in
theorem wi_X2_restore : Cond.instanceMethod yX2_restore ∈ lwT := lwT_t (List.mem_of_getElem? (i := 275) (by decide +kernel)) rfl
set_option maxRecDepth 100000 in
theorem wi_X3_isTriedBetter : Cond.instanceMethod yX3_isTriedBetter ∈ lwT := lwT_t (List.mem_of_getElem? (i := 570) (by decide +kernel)) rfl
set_option maxRecDepth 100000 in
theorem wi_X3_letDownFrom : Cond.instanceMethod yX3_letDownFrom ∈ lwT := lwT_t (List.mem_of_getElem? (i := 552) (by decide +kernel)) rfl
set_option maxRecDepth 100000 in
theorem wi_X3_measure : Cond.instanceMethod yX3_measure ∈ lwT := lwT_t (List.mem_of_getElem? (i := 561) (by decide +kernel)) rfl
set_option maxRecDepth 100000 in
theorem wi_X3_packByBest : Cond.instanceMethod yX3_packByBest ∈ lwT := lwT_t (List.mem_of_getElem? (i := 546) (by decide +kernel)) rfl
set_option maxRecDepth 100000 in
theorem wi_X3_packUsually : Cond.instanceMethod yX3_packUsually ∈ lwT := lwT_t (List.mem_of_getElem? (i := 584) (by decide +kernel)) rfl
set_option maxRecDepth 100000 in
theorem wi_X3_stepToNextOrder : Cond.instanceMethod yX3_stepToNextOrder ∈ lwT := lwT_t (List.mem_of_getElem? (i := 577) (by decide +kernel)) rfl
set_option maxRecDepth 100000 in
theorem wi_X3_swap : Cond.instanceMethod yX3_swap ∈ lwT := lwT_t (List.mem_of_getElem? (i := 581) (by decide +kernel)) rfl
set_option maxRecDepth 100000 in
theorem wi_X5_alongX : Cond.instanceMethod yX5_alongX ∈ lwT := lwT_t (List.mem_of_getElem? (i := 475) (by decide +kernel)) rfl
set_option maxRecDepth 100000 in
theorem wi_X5_alongY : Cond.instanceMethod yX5_alongY ∈ lwT := lwT_t (List.mem_of_getElem? (i := 479) (by decide +kernel)) rfl
set_option maxRecDepth 100000 in
theorem wi_X5_area : Cond.instanceMethod yX5_area ∈ lwT := lwT_t (List.mem_of_getElem? (i := 385) (by decide +kernel)) rfl
set_option maxRecDepth 100000 in
theorem wi_X5_become : Cond.instanceMethod yX5_become ∈ lwT := lwT_t (List.mem_of_getElem? (i := 340) (by decide +kernel)) rfl
set_option maxRecDepth 100000 in
theorem wi_X5_copyFrom : Cond.instanceMethod yX5_copyFrom ∈ lwT := lwT_t (List.mem_of_getElem? (i := 287) (by decide +kernel)) rfl
set_option maxRecDepth 100000 in
theorem wi_X5_covers : Cond.instanceMethod yX5_covers ∈ lwT := lwT_t (List.mem_of_getElem? (i := 446) (by decide +kernel)) rfl
set_option maxRecDepth 100000 in
theorem wi_X5_leave : Cond.instanceMethod yX5_leave ∈ lwT := lwT_t (List.mem_of_getElem? (i := 328) (by decide +kernel)) rfl
set_option maxRecDepth 100000 in
theorem wi_X5_lie : Cond.instanceMethod yX5_lie ∈ lwT := lwT_t (List.mem_of_getElem? (i := 532) (by decide +kernel)) rfl
set_option maxRecDepth 100000 in
theorem wi_X5_liesOn : Cond.instanceMethod yX5_liesOn ∈ lwT := lwT_t (List.mem_of_getElem? (i := 369) (by decide +kernel)) rfl
set_option maxRecDepth 100000 in
theorem wi_X5_property : Cond.instanceMethod yX5_property ∈ lwT := lwT_t (List.mem_of_getElem? (i := 421) (by decide +kernel)) rfl
set_option maxRecDepth 100000 in
theorem wi_X5_tall : Cond.instanceMethod yX5_tall ∈ lwT := lwT_t (List.mem_of_getElem? (i := 389) (by decide +kernel)) rfl
set_option maxRecDepth 100000 in
theorem wi_X6_placedProperty : Cond.instanceMethod yX6_placedProperty ∈ lwT := lwT_t (List.mem_of_getElem? (i := 426) (by decide +kernel)) rfl
set_option maxRecDepth 100000 in
theorem wi_X6_takeOverPacked : Cond.instanceMethod yX6_takeOverPacked ∈ lwT := lwT_t (List.mem_of_getElem? (i := 597) (by decide +kernel)) rfl
set_option maxRecDepth 100000 in
theorem wk_J6_265 : Cond.constant RJ6 265 (1431655765) ∈ lwT := lwT_t (List.mem_of_getElem? (i := 316) (by decide +kernel)) rfl
set_option maxRecDepth 100000 in
theorem wk_J6_266 : Cond.constant RJ6 266 (858993459) ∈ lwT := lwT_t (List.mem_of_getElem? (i := 317) (by decide +kernel)) rfl
set_option maxRecDepth 100000 in
theorem wk_J6_267 : Cond.constant RJ6 267 (252645135) ∈ lwT := lwT_t (List.mem_of_getElem? (i := 318) (by decide +kernel)) rfl
set_option maxRecDepth 100000 in
theorem wm_X0_101 : Cond.methodLink RX0 101 yX0_filledHeight ∈ lwT := lwT_t (List.mem_of_getElem? (i := 383) (by decide +kernel)) rfl
set_option maxRecDepth 100000 in
theorem wm_X0_104 : Cond.methodLink RX0 104 yX5_area ∈ lwT := lwT_t (List.mem_of_getElem? (i := 384) (by decide +kernel)) rfl
set_option maxRecDepth 100000 in
theorem wm_X0_31 : Cond.methodLink RX0 31 yX0_copyTrays ∈ lwT := lwT_t (List.mem_of_getElem? (i := 282) (by decide +kernel)) rfl
set_option maxRecDepth 100000 in
theorem wm_X0_38 : Cond.methodLink RX0 38 yX5_copyFrom ∈ lwT := lwT_t (List.mem_of_getElem? (i := 286) (by decide +kernel)) rfl
set_option maxRecDepth 100000 in
theorem wm_X0_42 : Cond.methodLink RX0 42 yX5_leave ∈ lwT := lwT_t (List.mem_of_getElem? (i := 327) (by decide +kernel)) rfl
set_option maxRecDepth 100000 in
theorem wm_X0_45 : Cond.methodLink RX0 45 yX5_alongX ∈ lwT := lwT_t (List.mem_of_getElem? (i := 474) (by decide +kernel)) rfl
set_option maxRecDepth 100000 in
theorem wm_X0_49 : Cond.methodLink RX0 49 yX5_alongY ∈ lwT := lwT_t (List.mem_of_getElem? (i := 478) (by decide +kernel)) rfl
set_option maxRecDepth 100000 in
theorem wm_X0_52 : Cond.methodLink RX0 52 yX5_tall ∈ lwT := lwT_t (List.mem_of_getElem? (i := 388) (by decide +kernel)) rfl
set_option maxRecDepth 100000 in
theorem wm_X0_60 : Cond.methodLink RX0 60 yX5_covers ∈ lwT := lwT_t (List.mem_of_getElem? (i := 445) (by decide +kernel)) rfl
set_option maxRecDepth 100000 in
theorem wm_X0_67 : Cond.methodLink RX0 67 yX0_lyingOn ∈ lwT := lwT_t (List.mem_of_getElem? (i := 364) (by decide +kernel)) rfl
set_option maxRecDepth 100000 in
theorem wm_X0_71 : Cond.methodLink RX0 71 yX5_liesOn ∈ lwT := lwT_t (List.mem_of_getElem? (i := 368) (by decide +kernel)) rfl
set_option maxRecDepth 100000 in
theorem wm_X0_75 : Cond.methodLink RX0 75 yX0_inside ∈ lwT := lwT_t (List.mem_of_getElem? (i := 396) (by decide +kernel)) rfl
set_option maxRecDepth 100000 in
theorem wm_X0_77 : Cond.methodLink RX0 77 yX0_above ∈ lwT := lwT_t (List.mem_of_getElem? (i := 397) (by decide +kernel)) rfl
set_option maxRecDepth 100000 in
theorem wm_X0_84 : Cond.methodLink RX0 84 yX0_lateOnes ∈ lwT := lwT_t (List.mem_of_getElem? (i := 401) (by decide +kernel)) rfl
set_option maxRecDepth 100000 in
theorem wm_X0_87 : Cond.methodLink RX0 87 yJ6_bitCount_0f7a4 ∈ lwT := lwT_t (List.mem_of_getElem? (i := 409) (by decide +kernel)) rfl
set_option maxRecDepth 100000 in
theorem wm_X0_92 : Cond.methodLink RX0 92 yX0_isFree ∈ lwT := lwT_t (List.mem_of_getElem? (i := 360) (by decide +kernel)) rfl
set_option maxRecDepth 100000 in
theorem wm_X0_96 : Cond.methodLink RX0 96 yJ9_max_7cf53 ∈ lwT := lwT_t (List.mem_of_getElem? (i := 376) (by decide +kernel)) rfl
set_option maxRecDepth 100000 in
theorem wm_X1_102 : Cond.methodLink RX1 102 yX1_keep ∈ lwT := lwT_t (List.mem_of_getElem? (i := 498) (by decide +kernel)) rfl
set_option maxRecDepth 100000 in
theorem wm_X1_25 : Cond.methodLink RX1 25 yX1_raise ∈ lwT := lwT_t (List.mem_of_getElem? (i := 466) (by decide +kernel)) rfl
set_option maxRecDepth 100000 in
theorem wm_X1_44 : Cond.methodLink RX1 44 yX0_encloses ∈ lwT := lwT_t (List.mem_of_getElem? (i := 470) (by decide +kernel)) rfl
set_option maxRecDepth 100000 in
theorem wm_X1_57 : Cond.methodLink RX1 57 yJ9_max_7cf53 ∈ lwT := lwT_t (List.mem_of_getElem? (i := 482) (by decide +kernel)) rfl
set_option maxRecDepth 100000 in
theorem wm_X1_69 : Cond.methodLink RX1 69 yX5_alongX ∈ lwT := lwT_t (List.mem_of_getElem? (i := 495) (by decide +kernel)) rfl
set_option maxRecDepth 100000 in
theorem wm_X1_73 : Cond.methodLink RX1 73 yX5_alongY ∈ lwT := lwT_t (List.mem_of_getElem? (i := 496) (by decide +kernel)) rfl
set_option maxRecDepth 100000 in
theorem wm_X1_79 : Cond.methodLink RX1 79 yX5_area ∈ lwT := lwT_t (List.mem_of_getElem? (i := 497) (by decide +kernel)) rfl
set_option maxRecDepth 100000 in
theorem wm_X1_86 : Cond.methodLink RX1 86 yX0_highestFloor ∈ lwT := lwT_t (List.mem_of_getElem? (i := 487) (by decide +kernel)) rfl
set_option maxRecDepth 100000 in
theorem wm_X1_98 : Cond.methodLink RX1 98 yX1_holds ∈ lwT := lwT_t (List.mem_of_getElem? (i := 491) (by decide +kernel)) rfl
set_option maxRecDepth 100000 in
theorem wm_X2_25 : Cond.methodLink RX2 25 yX0_copyFrom ∈ lwT := lwT_t (List.mem_of_getElem? (i := 278) (by decide +kernel)) rfl
set_option maxRecDepth 100000 in
theorem wm_X3_113 : Cond.methodLink RX3 113 yX5_lie ∈ lwT := lwT_t (List.mem_of_getElem? (i := 557) (by decide +kernel)) rfl
set_option maxRecDepth 100000 in
theorem wm_X3_117 : Cond.methodLink RX3 117 yX1_raise ∈ lwT := lwT_t (List.mem_of_getElem? (i := 558) (by decide +kernel)) rfl
set_option maxRecDepth 100000 in
theorem wm_X3_121 : Cond.methodLink RX3 121 yX0_inside ∈ lwT := lwT_t (List.mem_of_getElem? (i := 563) (by decide +kernel)) rfl
set_option maxRecDepth 100000 in
theorem wm_X3_124 : Cond.methodLink RX3 124 yJ6_bitCount_0f7a4 ∈ lwT := lwT_t (List.mem_of_getElem? (i := 564) (by decide +kernel)) rfl
set_option maxRecDepth 100000 in
theorem wm_X3_130 : Cond.methodLink RX3 130 yX0_faults ∈ lwT := lwT_t (List.mem_of_getElem? (i := 565) (by decide +kernel)) rfl
set_option maxRecDepth 100000 in
theorem wm_X3_133 : Cond.methodLink RX3 133 yX0_filledHeight ∈ lwT := lwT_t (List.mem_of_getElem? (i := 566) (by decide +kernel)) rfl
set_option maxRecDepth 100000 in
theorem wm_X3_136 : Cond.methodLink RX3 136 yX0_air ∈ lwT := lwT_t (List.mem_of_getElem? (i := 567) (by decide +kernel)) rfl
set_option maxRecDepth 100000 in
theorem wm_X3_139 : Cond.methodLink RX3 139 yX3_swap ∈ lwT := lwT_t (List.mem_of_getElem? (i := 579) (by decide +kernel)) rfl
set_option maxRecDepth 100000 in
theorem wm_X3_38 : Cond.methodLink RX3 38 yX0_copyFrom ∈ lwT := lwT_t (List.mem_of_getElem? (i := 549) (by decide +kernel)) rfl
set_option maxRecDepth 100000 in
theorem wm_X3_50 : Cond.methodLink RX3 50 yX3_isBefore ∈ lwT := lwT_t (List.mem_of_getElem? (i := 587) (by decide +kernel)) rfl
set_option maxRecDepth 100000 in
theorem wm_X3_54 : Cond.methodLink RX3 54 yX3_letDownFrom ∈ lwT := lwT_t (List.mem_of_getElem? (i := 550) (by decide +kernel)) rfl
set_option maxRecDepth 100000 in
theorem wm_X3_58 : Cond.methodLink RX3 58 yX3_measure ∈ lwT := lwT_t (List.mem_of_getElem? (i := 559) (by decide +kernel)) rfl
set_option maxRecDepth 100000 in
theorem wm_X3_67 : Cond.methodLink RX3 67 yX5_area ∈ lwT := lwT_t (List.mem_of_getElem? (i := 590) (by decide +kernel)) rfl
set_option maxRecDepth 100000 in
theorem wm_X3_71 : Cond.methodLink RX3 71 yX3_isTriedBetter ∈ lwT := lwT_t (List.mem_of_getElem? (i := 568) (by decide +kernel)) rfl
set_option maxRecDepth 100000 in
theorem wm_X3_75 : Cond.methodLink RX3 75 arraycopyName ∈ lwT := lwT_t (List.mem_of_getElem? (i := 572) (by decide +kernel)) rfl
set_option maxRecDepth 100000 in
theorem wm_X3_81 : Cond.methodLink RX3 81 yX3_stepToNextOrder ∈ lwT := lwT_t (List.mem_of_getElem? (i := 575) (by decide +kernel)) rfl
set_option maxRecDepth 100000 in
theorem wm_X3_84 : Cond.methodLink RX3 84 yX5_leave ∈ lwT := lwT_t (List.mem_of_getElem? (i := 554) (by decide +kernel)) rfl
set_option maxRecDepth 100000 in
theorem wm_X3_87 : Cond.methodLink RX3 87 yX1_survey ∈ lwT := lwT_t (List.mem_of_getElem? (i := 555) (by decide +kernel)) rfl
set_option maxRecDepth 100000 in
theorem wm_X3_90 : Cond.methodLink RX3 90 yX1_search ∈ lwT := lwT_t (List.mem_of_getElem? (i := 556) (by decide +kernel)) rfl
set_option maxRecDepth 100000 in
theorem wm_X5_25 : Cond.methodLink RX5 25 yX5_leave ∈ lwT := lwT_t (List.mem_of_getElem? (i := 343) (by decide +kernel)) rfl
set_option maxRecDepth 100000 in
theorem wm_X5_56 : Cond.methodLink RX5 56 yX5_alongX ∈ lwT := lwT_t (List.mem_of_getElem? (i := 535) (by decide +kernel)) rfl
set_option maxRecDepth 100000 in
theorem wm_X5_60 : Cond.methodLink RX5 60 yX5_alongY ∈ lwT := lwT_t (List.mem_of_getElem? (i := 536) (by decide +kernel)) rfl
set_option maxRecDepth 100000 in
theorem wm_X5_63 : Cond.methodLink RX5 63 yX5_tall ∈ lwT := lwT_t (List.mem_of_getElem? (i := 537) (by decide +kernel)) rfl
set_option maxRecDepth 100000 in
theorem wm_X6_102 : Cond.methodLink RX6 102 yX5_become ∈ lwT := lwT_t (List.mem_of_getElem? (i := 339) (by decide +kernel)) rfl
set_option maxRecDepth 100000 in
theorem wm_X6_108 : Cond.methodLink RX6 108 yX0_has ∈ lwT := lwT_t (List.mem_of_getElem? (i := 348) (by decide +kernel)) rfl
set_option maxRecDepth 100000 in
theorem wm_X6_125 : Cond.methodLink RX6 125 yX0_encloses ∈ lwT := lwT_t (List.mem_of_getElem? (i := 528) (by decide +kernel)) rfl
set_option maxRecDepth 100000 in
theorem wm_X6_129 : Cond.methodLink RX6 129 yX1_survey ∈ lwT := lwT_t (List.mem_of_getElem? (i := 462) (by decide +kernel)) rfl
set_option maxRecDepth 100000 in
theorem wm_X6_132 : Cond.methodLink RX6 132 yX0_highestFloor ∈ lwT := lwT_t (List.mem_of_getElem? (i := 529) (by decide +kernel)) rfl
set_option maxRecDepth 100000 in
theorem wm_X6_136 : Cond.methodLink RX6 136 yX1_holds ∈ lwT := lwT_t (List.mem_of_getElem? (i := 530) (by decide +kernel)) rfl
set_option maxRecDepth 100000 in
theorem wm_X6_146 : Cond.methodLink RX6 146 yX5_lie ∈ lwT := lwT_t (List.mem_of_getElem? (i := 531) (by decide +kernel)) rfl
set_option maxRecDepth 100000 in
theorem wm_X6_151 : Cond.methodLink RX6 151 yX0_isFree ∈ lwT := lwT_t (List.mem_of_getElem? (i := 433) (by decide +kernel)) rfl
set_option maxRecDepth 100000 in
theorem wm_X6_154 : Cond.methodLink RX6 154 yX5_leave ∈ lwT := lwT_t (List.mem_of_getElem? (i := 523) (by decide +kernel)) rfl
set_option maxRecDepth 100000 in
theorem wm_X6_157 : Cond.methodLink RX6 157 yX5_property ∈ lwT := lwT_t (List.mem_of_getElem? (i := 420) (by decide +kernel)) rfl
set_option maxRecDepth 100000 in
theorem wm_X6_160 : Cond.methodLink RX6 160 yX6_placedProperty ∈ lwT := lwT_t (List.mem_of_getElem? (i := 424) (by decide +kernel)) rfl
set_option maxRecDepth 100000 in
theorem wm_X6_164 : Cond.methodLink RX6 164 yX0_uppermost ∈ lwT := lwT_t (List.mem_of_getElem? (i := 441) (by decide +kernel)) rfl
set_option maxRecDepth 100000 in
theorem wm_X6_170 : Cond.methodLink RX6 170 yX1_search ∈ lwT := lwT_t (List.mem_of_getElem? (i := 483) (by decide +kernel)) rfl
set_option maxRecDepth 100000 in
theorem wm_X6_189 : Cond.methodLink RX6 189 yX5_tall ∈ lwT := lwT_t (List.mem_of_getElem? (i := 502) (by decide +kernel)) rfl
set_option maxRecDepth 100000 in
theorem wm_X6_192 : Cond.methodLink RX6 192 yX3_packUsually ∈ lwT := lwT_t (List.mem_of_getElem? (i := 583) (by decide +kernel)) rfl
set_option maxRecDepth 100000 in
theorem wm_X6_195 : Cond.methodLink RX6 195 yX6_takeOverPacked ∈ lwT := lwT_t (List.mem_of_getElem? (i := 595) (by decide +kernel)) rfl
set_option maxRecDepth 100000 in
theorem wm_X6_198 : Cond.methodLink RX6 198 yX3_packByBest ∈ lwT := lwT_t (List.mem_of_getElem? (i := 545) (by decide +kernel)) rfl
set_option maxRecDepth 100000 in
theorem wm_X6_214 : Cond.methodLink RX6 214 yX2_restore ∈ lwT := lwT_t (List.mem_of_getElem? (i := 274) (by decide +kernel)) rfl
set_option maxRecDepth 100000 in
theorem wm_X6_217 : Cond.methodLink RX6 217 yX0_freeTrays ∈ lwT := lwT_t (List.mem_of_getElem? (i := 356) (by decide +kernel)) rfl
set_option maxRecDepth 100000 in
theorem wm_X6_220 : Cond.methodLink RX6 220 yX0_filledHeight ∈ lwT := lwT_t (List.mem_of_getElem? (i := 372) (by decide +kernel)) rfl
set_option maxRecDepth 100000 in
theorem wm_X6_223 : Cond.methodLink RX6 223 yX0_air ∈ lwT := lwT_t (List.mem_of_getElem? (i := 379) (by decide +kernel)) rfl
set_option maxRecDepth 100000 in
theorem wm_X6_226 : Cond.methodLink RX6 226 yX0_faults ∈ lwT := lwT_t (List.mem_of_getElem? (i := 392) (by decide +kernel)) rfl
set_option maxRecDepth 100000 in
theorem wm_X6_229 : Cond.methodLink RX6 229 yX0_lifts ∈ lwT := lwT_t (List.mem_of_getElem? (i := 405) (by decide +kernel)) rfl
set_option maxRecDepth 100000 in
theorem wm_X6_258 : Cond.methodLink RX6 258 yX0_above ∈ lwT := lwT_t (List.mem_of_getElem? (i := 428) (by decide +kernel)) rfl
set_option maxRecDepth 100000 in
theorem wm_X6_261 : Cond.methodLink RX6 261 yX0_faultOf ∈ lwT := lwT_t (List.mem_of_getElem? (i := 429) (by decide +kernel)) rfl
set_option maxRecDepth 100000 in
theorem wm_X6_44 : Cond.methodLink RX6 44 yX6_isWithin ∈ lwT := lwT_t (List.mem_of_getElem? (i := 306) (by decide +kernel)) rfl
set_option maxRecDepth 100000 in
theorem wm_X6_48 : Cond.methodLink RX6 48 yX0_inside ∈ lwT := lwT_t (List.mem_of_getElem? (i := 309) (by decide +kernel)) rfl
set_option maxRecDepth 100000 in
theorem wm_X6_52 : Cond.methodLink RX6 52 yJ6_bitCount_0f7a4 ∈ lwT := lwT_t (List.mem_of_getElem? (i := 313) (by decide +kernel)) rfl
set_option maxRecDepth 100000 in
theorem wm_X6_58 : Cond.methodLink RX6 58 yX2_record ∈ lwT := lwT_t (List.mem_of_getElem? (i := 319) (by decide +kernel)) rfl
set_option maxRecDepth 100000 in
theorem wm_X6_62 : Cond.methodLink RX6 62 yX0_clear ∈ lwT := lwT_t (List.mem_of_getElem? (i := 323) (by decide +kernel)) rfl
set_option maxRecDepth 100000 in
theorem wm_X6_89 : Cond.methodLink RX6 89 yX0_copyTrays ∈ lwT := lwT_t (List.mem_of_getElem? (i := 599) (by decide +kernel)) rfl
set_option maxRecDepth 100000 in
theorem wn_J6 : Cond.initialized RJ6 ∈ lwT := lwT_t (List.mem_of_getElem? (i := 8) (by decide +kernel)) rfl
set_option maxRecDepth 100000 in
theorem wn_J9 : Cond.initialized RJ9 ∈ lwT := lwT_t (List.mem_of_getElem? (i := 9) (by decide +kernel)) rfl
set_option maxRecDepth 100000 in
theorem wn_Sys : Cond.initialized "java/lang/System" ∈ lwT := lwT_t (List.mem_of_getElem? (i := 10) (by decide +kernel)) rfl
set_option maxRecDepth 100000 in
theorem wn_X0 : Cond.initialized RX0 ∈ lwT := lwT_t (List.mem_of_getElem? (i := 2) (by decide +kernel)) rfl
set_option maxRecDepth 100000 in
theorem wn_X1 : Cond.initialized RX1 ∈ lwT := lwT_t (List.mem_of_getElem? (i := 6) (by decide +kernel)) rfl
set_option maxRecDepth 100000 in
theorem wn_X2 : Cond.initialized RX2 ∈ lwT := lwT_t (List.mem_of_getElem? (i := 4) (by decide +kernel)) rfl
set_option maxRecDepth 100000 in
theorem wn_X3 : Cond.initialized RX3 ∈ lwT := lwT_t (List.mem_of_getElem? (i := 7) (by decide +kernel)) rfl
set_option maxRecDepth 100000 in
theorem wn_X5 : Cond.initialized RX5 ∈ lwT := lwT_t (List.mem_of_getElem? (i := 3) (by decide +kernel)) rfl
set_option maxRecDepth 100000 in
theorem wn_X6 : Cond.initialized RX6 ∈ lwT := lwT_t (List.mem_of_getElem? (i := 1) (by decide +kernel)) rfl
set_option maxRecDepth 100000 in
theorem wnat_acopy : Cond.native arraycopyName ∈ lwT := lwT_t (List.mem_of_getElem? (i := 574) (by decide +kernel)) rfl
set_option maxRecDepth 100000 in
theorem ws_X0_above : Cond.selects RX0 yX0_above yX0_above ∈ lwT := lwT_t (List.mem_of_getElem? (i := 399) (by decide +kernel)) rfl
set_option maxRecDepth 100000 in
theorem ws_X0_air : Cond.selects RX0 yX0_air yX0_air ∈ lwT := lwT_t (List.mem_of_getElem? (i := 381) (by decide +kernel)) rfl
set_option maxRecDepth 100000 in
theorem ws_X0_clear : Cond.selects RX0 yX0_clear yX0_clear ∈ lwT := lwT_t (List.mem_of_getElem? (i := 325) (by decide +kernel)) rfl
set_option maxRecDepth 100000 in
theorem ws_X0_copyFrom : Cond.selects RX0 yX0_copyFrom yX0_copyFrom ∈ lwT := lwT_t (List.mem_of_getElem? (i := 280) (by decide +kernel)) rfl
set_option maxRecDepth 100000 in
theorem ws_X0_copyTrays : Cond.selects RX0 yX0_copyTrays yX0_copyTrays ∈ lwT := lwT_t (List.mem_of_getElem? (i := 284) (by decide +kernel)) rfl
set_option maxRecDepth 100000 in
theorem ws_X0_encloses : Cond.selects RX0 yX0_encloses yX0_encloses ∈ lwT := lwT_t (List.mem_of_getElem? (i := 472) (by decide +kernel)) rfl
set_option maxRecDepth 100000 in
theorem ws_X0_faultOf : Cond.selects RX0 yX0_faultOf yX0_faultOf ∈ lwT := lwT_t (List.mem_of_getElem? (i := 431) (by decide +kernel)) rfl
set_option maxRecDepth 100000 in
theorem ws_X0_faults : Cond.selects RX0 yX0_faults yX0_faults ∈ lwT := lwT_t (List.mem_of_getElem? (i := 394) (by decide +kernel)) rfl
set_option maxRecDepth 100000 in
theorem ws_X0_filledHeight : Cond.selects RX0 yX0_filledHeight yX0_filledHeight ∈ lwT := lwT_t (List.mem_of_getElem? (i := 374) (by decide +kernel)) rfl
set_option maxRecDepth 100000 in
theorem ws_X0_freeTrays : Cond.selects RX0 yX0_freeTrays yX0_freeTrays ∈ lwT := lwT_t (List.mem_of_getElem? (i := 358) (by decide +kernel)) rfl
set_option maxRecDepth 100000 in
theorem ws_X0_has : Cond.selects RX0 yX0_has yX0_has ∈ lwT := lwT_t (List.mem_of_getElem? (i := 350) (by decide +kernel)) rfl
set_option maxRecDepth 100000 in
theorem ws_X0_highestFloor : Cond.selects RX0 yX0_highestFloor yX0_highestFloor ∈ lwT := lwT_t (List.mem_of_getElem? (i := 489) (by decide +kernel)) rfl
set_option maxRecDepth 100000 in
theorem ws_X0_inside : Cond.selects RX0 yX0_inside yX0_inside ∈ lwT := lwT_t (List.mem_of_getElem? (i := 311) (by decide +kernel)) rfl
set_option maxRecDepth 100000 in
theorem ws_X0_isFree : Cond.selects RX0 yX0_isFree yX0_isFree ∈ lwT := lwT_t (List.mem_of_getElem? (i := 362) (by decide +kernel)) rfl
set_option maxRecDepth 100000 in
theorem ws_X0_lateOnes : Cond.selects RX0 yX0_lateOnes yX0_lateOnes ∈ lwT := lwT_p (List.mem_of_getElem? (i := 1) (by decide +kernel)) rfl
set_option maxRecDepth 100000 in
theorem ws_X0_lifts : Cond.selects RX0 yX0_lifts yX0_lifts ∈ lwT := lwT_t (List.mem_of_getElem? (i := 407) (by decide +kernel)) rfl
set_option maxRecDepth 100000 in
theorem ws_X0_lyingOn : Cond.selects RX0 yX0_lyingOn yX0_lyingOn ∈ lwT := lwT_p (List.mem_of_getElem? (i := 0) (by decide +kernel)) rfl
set_option maxRecDepth 100000 in
theorem ws_X0_uppermost : Cond.selects RX0 yX0_uppermost yX0_uppermost ∈ lwT := lwT_t (List.mem_of_getElem? (i := 443) (by decide +kernel)) rfl
set_option maxRecDepth 100000 in
theorem ws_X1_holds : Cond.selects RX1 yX1_holds yX1_holds ∈ lwT := lwT_t (List.mem_of_getElem? (i := 493) (by decide +kernel)) rfl
set_option maxRecDepth 100000 in
theorem ws_X1_keep : Cond.selects RX1 yX1_keep yX1_keep ∈ lwT := lwT_p (List.mem_of_getElem? (i := 3) (by decide +kernel)) rfl
set_option maxRecDepth 100000 in
theorem ws_X1_raise : Cond.selects RX1 yX1_raise yX1_raise ∈ lwT := lwT_t (List.mem_of_getElem? (i := 468) (by decide +kernel)) rfl
set_option maxRecDepth 100000 in
theorem ws_X1_search : Cond.selects RX1 yX1_search yX1_search ∈ lwT := lwT_t (List.mem_of_getElem? (i := 485) (by decide +kernel)) rfl
set_option maxRecDepth 100000 in
theorem ws_X1_survey : Cond.selects RX1 yX1_survey yX1_survey ∈ lwT := lwT_t (List.mem_of_getElem? (i := 464) (by decide +kernel)) rfl
set_option maxRecDepth 100000 in
theorem ws_X2_record : Cond.selects RX2 yX2_record yX2_record ∈ lwT := lwT_t (List.mem_of_getElem? (i := 321) (by decide +kernel)) rfl
set_option maxRecDepth 100000 in
theorem ws_X2_restore : Cond.selects RX2 yX2_restore yX2_restore ∈ lwT := lwT_t (List.mem_of_getElem? (i := 276) (by decide +kernel)) rfl
set_option maxRecDepth 100000 in
theorem ws_X3_isTriedBetter : Cond.selects RX3 yX3_isTriedBetter yX3_isTriedBetter ∈ lwT := lwT_p (List.mem_of_getElem? (i := 6) (by decide +kernel)) rfl
set_option maxRecDepth 100000 in
theorem ws_X3_letDownFrom : Cond.selects RX3 yX3_letDownFrom yX3_letDownFrom ∈ lwT := lwT_p (List.mem_of_getElem? (i := 4) (by decide +kernel)) rfl
set_option maxRecDepth 100000 in
theorem ws_X3_measure : Cond.selects RX3 yX3_measure yX3_measure ∈ lwT := lwT_p (List.mem_of_getElem? (i := 5) (by decide +kernel)) rfl
set_option maxRecDepth 100000 in
theorem ws_X3_packByBest : Cond.selects RX3 yX3_packByBest yX3_packByBest ∈ lwT := lwT_t (List.mem_of_getElem? (i := 547) (by decide +kernel)) rfl
set_option maxRecDepth 100000 in
theorem ws_X3_packUsually : Cond.selects RX3 yX3_packUsually yX3_packUsually ∈ lwT := lwT_t (List.mem_of_getElem? (i := 585) (by decide +kernel)) rfl
set_option maxRecDepth 100000 in
theorem ws_X3_stepToNextOrder : Cond.selects RX3 yX3_stepToNextOrder yX3_stepToNextOrder ∈ lwT := lwT_p (List.mem_of_getElem? (i := 7) (by decide +kernel)) rfl
set_option maxRecDepth 100000 in
theorem ws_X3_swap : Cond.selects RX3 yX3_swap yX3_swap ∈ lwT := lwT_p (List.mem_of_getElem? (i := 8) (by decide +kernel)) rfl
set_option maxRecDepth 100000 in
theorem ws_X5_alongX : Cond.selects RX5 yX5_alongX yX5_alongX ∈ lwT := lwT_t (List.mem_of_getElem? (i := 476) (by decide +kernel)) rfl
set_option maxRecDepth 100000 in
theorem ws_X5_alongY : Cond.selects RX5 yX5_alongY yX5_alongY ∈ lwT := lwT_t (List.mem_of_getElem? (i := 480) (by decide +kernel)) rfl
set_option maxRecDepth 100000 in
theorem ws_X5_area : Cond.selects RX5 yX5_area yX5_area ∈ lwT := lwT_t (List.mem_of_getElem? (i := 386) (by decide +kernel)) rfl
set_option maxRecDepth 100000 in
theorem ws_X5_become : Cond.selects RX5 yX5_become yX5_become ∈ lwT := lwT_t (List.mem_of_getElem? (i := 341) (by decide +kernel)) rfl
set_option maxRecDepth 100000 in
theorem ws_X5_copyFrom : Cond.selects RX5 yX5_copyFrom yX5_copyFrom ∈ lwT := lwT_t (List.mem_of_getElem? (i := 288) (by decide +kernel)) rfl
set_option maxRecDepth 100000 in
theorem ws_X5_covers : Cond.selects RX5 yX5_covers yX5_covers ∈ lwT := lwT_t (List.mem_of_getElem? (i := 447) (by decide +kernel)) rfl
set_option maxRecDepth 100000 in
theorem ws_X5_leave : Cond.selects RX5 yX5_leave yX5_leave ∈ lwT := lwT_t (List.mem_of_getElem? (i := 329) (by decide +kernel)) rfl
set_option maxRecDepth 100000 in
theorem ws_X5_lie : Cond.selects RX5 yX5_lie yX5_lie ∈ lwT := lwT_t (List.mem_of_getElem? (i := 533) (by decide +kernel)) rfl
set_option maxRecDepth 100000 in
theorem ws_X5_liesOn : Cond.selects RX5 yX5_liesOn yX5_liesOn ∈ lwT := lwT_t (List.mem_of_getElem? (i := 370) (by decide +kernel)) rfl
set_option maxRecDepth 100000 in
theorem ws_X5_property : Cond.selects RX5 yX5_property yX5_property ∈ lwT := lwT_t (List.mem_of_getElem? (i := 422) (by decide +kernel)) rfl
set_option maxRecDepth 100000 in
theorem ws_X5_tall : Cond.selects RX5 yX5_tall yX5_tall ∈ lwT := lwT_t (List.mem_of_getElem? (i := 390) (by decide +kernel)) rfl
set_option maxRecDepth 100000 in
theorem ws_X6_placedProperty : Cond.selects RX6 yX6_placedProperty yX6_placedProperty ∈ lwT := lwT_p (List.mem_of_getElem? (i := 2) (by decide +kernel)) rfl
set_option maxRecDepth 100000 in
theorem ws_X6_takeOverPacked : Cond.selects RX6 yX6_takeOverPacked yX6_takeOverPacked ∈ lwT := lwT_p (List.mem_of_getElem? (i := 9) (by decide +kernel)) rfl
set_option maxRecDepth 100000 in
theorem wt_J6_bitCount_0f7a4 : Cond.static yJ6_bitCount_0f7a4 ∈ lwT := lwT_t (List.mem_of_getElem? (i := 314) (by decide +kernel)) rfl
set_option maxRecDepth 100000 in
theorem wt_J9_max_7cf53 : Cond.static yJ9_max_7cf53 ∈ lwT := lwT_t (List.mem_of_getElem? (i := 377) (by decide +kernel)) rfl
set_option maxRecDepth 100000 in
theorem wt_X3_isBefore : Cond.static yX3_isBefore ∈ lwT := lwT_t (List.mem_of_getElem? (i := 588) (by decide +kernel)) rfl
set_option maxRecDepth 100000 in
theorem wt_X6_isWithin : Cond.static yX6_isWithin ∈ lwT := lwT_t (List.mem_of_getElem? (i := 307) (by decide +kernel)) rfl
set_option maxRecDepth 100000 in
theorem wt_acopy : Cond.static arraycopyName ∈ lwT := lwT_t (List.mem_of_getElem? (i := 573) (by decide +kernel)) rfl
theorem hd_J6_bitCount_0f7a4 : yJ6_bitCount_0f7a4.cls ≠ "java/lang/invoke/MethodHandle" ∧ yJ6_bitCount_0f7a4.cls ≠ "java/lang/invoke/VarHandle" ∧ (parseMethodDescriptor yJ6_bitCount_0f7a4.desc).map (fun d => d.parameters.length) = some 1 := by decide +kernel
theorem hd_X0_above : yX0_above.cls = RX0 ∧ yX0_above.cls ≠ "java/lang/invoke/MethodHandle" ∧ yX0_above.cls ≠ "java/lang/invoke/VarHandle" ∧ (parseMethodDescriptor yX0_above.desc).map (fun d => d.parameters.length) = some 2 := by decide +kernel
theorem hd_X0_air : yX0_air.cls = RX0 ∧ yX0_air.cls ≠ "java/lang/invoke/MethodHandle" ∧ yX0_air.cls ≠ "java/lang/invoke/VarHandle" ∧ (parseMethodDescriptor yX0_air.desc).map (fun d => d.parameters.length) = some 0 := by decide +kernel
theorem hd_X0_clear : yX0_clear.cls = RX0 ∧ yX0_clear.cls ≠ "java/lang/invoke/MethodHandle" ∧ yX0_clear.cls ≠ "java/lang/invoke/VarHandle" ∧ (parseMethodDescriptor yX0_clear.desc).map (fun d => d.parameters.length) = some 0 := by decide +kernel
theorem hd_X0_copyFrom : yX0_copyFrom.cls = RX0 ∧ yX0_copyFrom.cls ≠ "java/lang/invoke/MethodHandle" ∧ yX0_copyFrom.cls ≠ "java/lang/invoke/VarHandle" ∧ (parseMethodDescriptor yX0_copyFrom.desc).map (fun d => d.parameters.length) = some 1 := by decide +kernel
theorem hd_X0_copyTrays : yX0_copyTrays.cls = RX0 ∧ yX0_copyTrays.cls ≠ "java/lang/invoke/MethodHandle" ∧ yX0_copyTrays.cls ≠ "java/lang/invoke/VarHandle" ∧ (parseMethodDescriptor yX0_copyTrays.desc).map (fun d => d.parameters.length) = some 1 := by decide +kernel
theorem hd_X0_encloses : yX0_encloses.cls = RX0 ∧ yX0_encloses.cls ≠ "java/lang/invoke/MethodHandle" ∧ yX0_encloses.cls ≠ "java/lang/invoke/VarHandle" ∧ (parseMethodDescriptor yX0_encloses.desc).map (fun d => d.parameters.length) = some 4 := by decide +kernel
theorem hd_X0_faultOf : yX0_faultOf.cls = RX0 ∧ yX0_faultOf.cls ≠ "java/lang/invoke/MethodHandle" ∧ yX0_faultOf.cls ≠ "java/lang/invoke/VarHandle" ∧ (parseMethodDescriptor yX0_faultOf.desc).map (fun d => d.parameters.length) = some 1 := by decide +kernel
theorem hd_X0_faults : yX0_faults.cls = RX0 ∧ yX0_faults.cls ≠ "java/lang/invoke/MethodHandle" ∧ yX0_faults.cls ≠ "java/lang/invoke/VarHandle" ∧ (parseMethodDescriptor yX0_faults.desc).map (fun d => d.parameters.length) = some 0 := by decide +kernel
theorem hd_X0_filledHeight : yX0_filledHeight.cls = RX0 ∧ yX0_filledHeight.cls ≠ "java/lang/invoke/MethodHandle" ∧ yX0_filledHeight.cls ≠ "java/lang/invoke/VarHandle" ∧ (parseMethodDescriptor yX0_filledHeight.desc).map (fun d => d.parameters.length) = some 0 := by decide +kernel
theorem hd_X0_freeTrays : yX0_freeTrays.cls = RX0 ∧ yX0_freeTrays.cls ≠ "java/lang/invoke/MethodHandle" ∧ yX0_freeTrays.cls ≠ "java/lang/invoke/VarHandle" ∧ (parseMethodDescriptor yX0_freeTrays.desc).map (fun d => d.parameters.length) = some 0 := by decide +kernel
theorem hd_X0_has : yX0_has.cls = RX0 ∧ yX0_has.cls ≠ "java/lang/invoke/MethodHandle" ∧ yX0_has.cls ≠ "java/lang/invoke/VarHandle" ∧ (parseMethodDescriptor yX0_has.desc).map (fun d => d.parameters.length) = some 1 := by decide +kernel
theorem hd_X0_highestFloor : yX0_highestFloor.cls = RX0 ∧ yX0_highestFloor.cls ≠ "java/lang/invoke/MethodHandle" ∧ yX0_highestFloor.cls ≠ "java/lang/invoke/VarHandle" ∧ (parseMethodDescriptor yX0_highestFloor.desc).map (fun d => d.parameters.length) = some 1 := by decide +kernel
theorem hd_X0_inside : yX0_inside.cls = RX0 ∧ yX0_inside.cls ≠ "java/lang/invoke/MethodHandle" ∧ yX0_inside.cls ≠ "java/lang/invoke/VarHandle" ∧ (parseMethodDescriptor yX0_inside.desc).map (fun d => d.parameters.length) = some 0 := by decide +kernel
theorem hd_X0_isFree : yX0_isFree.cls = RX0 ∧ yX0_isFree.cls ≠ "java/lang/invoke/MethodHandle" ∧ yX0_isFree.cls ≠ "java/lang/invoke/VarHandle" ∧ (parseMethodDescriptor yX0_isFree.desc).map (fun d => d.parameters.length) = some 1 := by decide +kernel
theorem hd_X0_lateOnes : yX0_lateOnes.cls = RX0 ∧ yX0_lateOnes.cls ≠ "java/lang/invoke/MethodHandle" ∧ yX0_lateOnes.cls ≠ "java/lang/invoke/VarHandle" ∧ (parseMethodDescriptor yX0_lateOnes.desc).map (fun d => d.parameters.length) = some 2 := by decide +kernel
theorem hd_X0_lifts : yX0_lifts.cls = RX0 ∧ yX0_lifts.cls ≠ "java/lang/invoke/MethodHandle" ∧ yX0_lifts.cls ≠ "java/lang/invoke/VarHandle" ∧ (parseMethodDescriptor yX0_lifts.desc).map (fun d => d.parameters.length) = some 0 := by decide +kernel
theorem hd_X0_lyingOn : yX0_lyingOn.cls = RX0 ∧ yX0_lyingOn.cls ≠ "java/lang/invoke/MethodHandle" ∧ yX0_lyingOn.cls ≠ "java/lang/invoke/VarHandle" ∧ (parseMethodDescriptor yX0_lyingOn.desc).map (fun d => d.parameters.length) = some 1 := by decide +kernel
theorem hd_X0_uppermost : yX0_uppermost.cls = RX0 ∧ yX0_uppermost.cls ≠ "java/lang/invoke/MethodHandle" ∧ yX0_uppermost.cls ≠ "java/lang/invoke/VarHandle" ∧ (parseMethodDescriptor yX0_uppermost.desc).map (fun d => d.parameters.length) = some 2 := by decide +kernel
theorem hd_X1_holds : yX1_holds.cls = RX1 ∧ yX1_holds.cls ≠ "java/lang/invoke/MethodHandle" ∧ yX1_holds.cls ≠ "java/lang/invoke/VarHandle" ∧ (parseMethodDescriptor yX1_holds.desc).map (fun d => d.parameters.length) = some 6 := by decide +kernel
theorem hd_X1_keep : yX1_keep.cls = RX1 ∧ yX1_keep.cls ≠ "java/lang/invoke/MethodHandle" ∧ yX1_keep.cls ≠ "java/lang/invoke/VarHandle" ∧ (parseMethodDescriptor yX1_keep.desc).map (fun d => d.parameters.length) = some 3 := by decide +kernel
theorem hd_X1_raise : yX1_raise.cls = RX1 ∧ yX1_raise.cls ≠ "java/lang/invoke/MethodHandle" ∧ yX1_raise.cls ≠ "java/lang/invoke/VarHandle" ∧ (parseMethodDescriptor yX1_raise.desc).map (fun d => d.parameters.length) = some 2 := by decide +kernel
theorem hd_X1_search : yX1_search.cls = RX1 ∧ yX1_search.cls ≠ "java/lang/invoke/MethodHandle" ∧ yX1_search.cls ≠ "java/lang/invoke/VarHandle" ∧ (parseMethodDescriptor yX1_search.desc).map (fun d => d.parameters.length) = some 3 := by decide +kernel
theorem hd_X1_survey : yX1_survey.cls = RX1 ∧ yX1_survey.cls ≠ "java/lang/invoke/MethodHandle" ∧ yX1_survey.cls ≠ "java/lang/invoke/VarHandle" ∧ (parseMethodDescriptor yX1_survey.desc).map (fun d => d.parameters.length) = some 1 := by decide +kernel
theorem hd_X2_record : yX2_record.cls = RX2 ∧ yX2_record.cls ≠ "java/lang/invoke/MethodHandle" ∧ yX2_record.cls ≠ "java/lang/invoke/VarHandle" ∧ (parseMethodDescriptor yX2_record.desc).map (fun d => d.parameters.length) = some 1 := by decide +kernel
theorem hd_X2_restore : yX2_restore.cls = RX2 ∧ yX2_restore.cls ≠ "java/lang/invoke/MethodHandle" ∧ yX2_restore.cls ≠ "java/lang/invoke/VarHandle" ∧ (parseMethodDescriptor yX2_restore.desc).map (fun d => d.parameters.length) = some 1 := by decide +kernel
theorem hd_X3_isBefore : yX3_isBefore.cls ≠ "java/lang/invoke/MethodHandle" ∧ yX3_isBefore.cls ≠ "java/lang/invoke/VarHandle" ∧ (parseMethodDescriptor yX3_isBefore.desc).map (fun d => d.parameters.length) = some 2 := by decide +kernel
theorem hd_X3_isTriedBetter : yX3_isTriedBetter.cls = RX3 ∧ yX3_isTriedBetter.cls ≠ "java/lang/invoke/MethodHandle" ∧ yX3_isTriedBetter.cls ≠ "java/lang/invoke/VarHandle" ∧ (parseMethodDescriptor yX3_isTriedBetter.desc).map (fun d => d.parameters.length) = some 0 := by decide +kernel
theorem hd_X3_letDownFrom : yX3_letDownFrom.cls = RX3 ∧ yX3_letDownFrom.cls ≠ "java/lang/invoke/MethodHandle" ∧ yX3_letDownFrom.cls ≠ "java/lang/invoke/VarHandle" ∧ (parseMethodDescriptor yX3_letDownFrom.desc).map (fun d => d.parameters.length) = some 2 := by decide +kernel
theorem hd_X3_measure : yX3_measure.cls = RX3 ∧ yX3_measure.cls ≠ "java/lang/invoke/MethodHandle" ∧ yX3_measure.cls ≠ "java/lang/invoke/VarHandle" ∧ (parseMethodDescriptor yX3_measure.desc).map (fun d => d.parameters.length) = some 1 := by decide +kernel
theorem hd_X3_packByBest : yX3_packByBest.cls = RX3 ∧ yX3_packByBest.cls ≠ "java/lang/invoke/MethodHandle" ∧ yX3_packByBest.cls ≠ "java/lang/invoke/VarHandle" ∧ (parseMethodDescriptor yX3_packByBest.desc).map (fun d => d.parameters.length) = some 1 := by decide +kernel
theorem hd_X3_packUsually : yX3_packUsually.cls = RX3 ∧ yX3_packUsually.cls ≠ "java/lang/invoke/MethodHandle" ∧ yX3_packUsually.cls ≠ "java/lang/invoke/VarHandle" ∧ (parseMethodDescriptor yX3_packUsually.desc).map (fun d => d.parameters.length) = some 1 := by decide +kernel
theorem hd_X3_stepToNextOrder : yX3_stepToNextOrder.cls = RX3 ∧ yX3_stepToNextOrder.cls ≠ "java/lang/invoke/MethodHandle" ∧ yX3_stepToNextOrder.cls ≠ "java/lang/invoke/VarHandle" ∧ (parseMethodDescriptor yX3_stepToNextOrder.desc).map (fun d => d.parameters.length) = some 0 := by decide +kernel
theorem hd_X3_swap : yX3_swap.cls = RX3 ∧ yX3_swap.cls ≠ "java/lang/invoke/MethodHandle" ∧ yX3_swap.cls ≠ "java/lang/invoke/VarHandle" ∧ (parseMethodDescriptor yX3_swap.desc).map (fun d => d.parameters.length) = some 2 := by decide +kernel
theorem hd_X5_alongX : yX5_alongX.cls = RX5 ∧ yX5_alongX.cls ≠ "java/lang/invoke/MethodHandle" ∧ yX5_alongX.cls ≠ "java/lang/invoke/VarHandle" ∧ (parseMethodDescriptor yX5_alongX.desc).map (fun d => d.parameters.length) = some 1 := by decide +kernel
theorem hd_X5_alongY : yX5_alongY.cls = RX5 ∧ yX5_alongY.cls ≠ "java/lang/invoke/MethodHandle" ∧ yX5_alongY.cls ≠ "java/lang/invoke/VarHandle" ∧ (parseMethodDescriptor yX5_alongY.desc).map (fun d => d.parameters.length) = some 1 := by decide +kernel
theorem hd_X5_area : yX5_area.cls = RX5 ∧ yX5_area.cls ≠ "java/lang/invoke/MethodHandle" ∧ yX5_area.cls ≠ "java/lang/invoke/VarHandle" ∧ (parseMethodDescriptor yX5_area.desc).map (fun d => d.parameters.length) = some 0 := by decide +kernel
theorem hd_X5_become : yX5_become.cls = RX5 ∧ yX5_become.cls ≠ "java/lang/invoke/MethodHandle" ∧ yX5_become.cls ≠ "java/lang/invoke/VarHandle" ∧ (parseMethodDescriptor yX5_become.desc).map (fun d => d.parameters.length) = some 4 := by decide +kernel
theorem hd_X5_copyFrom : yX5_copyFrom.cls = RX5 ∧ yX5_copyFrom.cls ≠ "java/lang/invoke/MethodHandle" ∧ yX5_copyFrom.cls ≠ "java/lang/invoke/VarHandle" ∧ (parseMethodDescriptor yX5_copyFrom.desc).map (fun d => d.parameters.length) = some 1 := by decide +kernel
theorem hd_X5_covers : yX5_covers.cls = RX5 ∧ yX5_covers.cls ≠ "java/lang/invoke/MethodHandle" ∧ yX5_covers.cls ≠ "java/lang/invoke/VarHandle" ∧ (parseMethodDescriptor yX5_covers.desc).map (fun d => d.parameters.length) = some 2 := by decide +kernel
theorem hd_X5_leave : yX5_leave.cls = RX5 ∧ yX5_leave.cls ≠ "java/lang/invoke/MethodHandle" ∧ yX5_leave.cls ≠ "java/lang/invoke/VarHandle" ∧ (parseMethodDescriptor yX5_leave.desc).map (fun d => d.parameters.length) = some 0 := by decide +kernel
theorem hd_X5_lie : yX5_lie.cls = RX5 ∧ yX5_lie.cls ≠ "java/lang/invoke/MethodHandle" ∧ yX5_lie.cls ≠ "java/lang/invoke/VarHandle" ∧ (parseMethodDescriptor yX5_lie.desc).map (fun d => d.parameters.length) = some 5 := by decide +kernel
theorem hd_X5_liesOn : yX5_liesOn.cls = RX5 ∧ yX5_liesOn.cls ≠ "java/lang/invoke/MethodHandle" ∧ yX5_liesOn.cls ≠ "java/lang/invoke/VarHandle" ∧ (parseMethodDescriptor yX5_liesOn.desc).map (fun d => d.parameters.length) = some 1 := by decide +kernel
theorem hd_X5_property : yX5_property.cls = RX5 ∧ yX5_property.cls ≠ "java/lang/invoke/MethodHandle" ∧ yX5_property.cls ≠ "java/lang/invoke/VarHandle" ∧ (parseMethodDescriptor yX5_property.desc).map (fun d => d.parameters.length) = some 1 := by decide +kernel
theorem hd_X5_tall : yX5_tall.cls = RX5 ∧ yX5_tall.cls ≠ "java/lang/invoke/MethodHandle" ∧ yX5_tall.cls ≠ "java/lang/invoke/VarHandle" ∧ (parseMethodDescriptor yX5_tall.desc).map (fun d => d.parameters.length) = some 0 := by decide +kernel
theorem hd_X6_isWithin : yX6_isWithin.cls ≠ "java/lang/invoke/MethodHandle" ∧ yX6_isWithin.cls ≠ "java/lang/invoke/VarHandle" ∧ (parseMethodDescriptor yX6_isWithin.desc).map (fun d => d.parameters.length) = some 3 := by decide +kernel
theorem hd_X6_placedProperty : yX6_placedProperty.cls = RX6 ∧ yX6_placedProperty.cls ≠ "java/lang/invoke/MethodHandle" ∧ yX6_placedProperty.cls ≠ "java/lang/invoke/VarHandle" ∧ (parseMethodDescriptor yX6_placedProperty.desc).map (fun d => d.parameters.length) = some 2 := by decide +kernel
theorem hd_X6_takeOverPacked : yX6_takeOverPacked.cls = RX6 ∧ yX6_takeOverPacked.cls ≠ "java/lang/invoke/MethodHandle" ∧ yX6_takeOverPacked.cls ≠ "java/lang/invoke/VarHandle" ∧ (parseMethodDescriptor yX6_takeOverPacked.desc).map (fun d => d.parameters.length) = some 0 := by decide +kernel
