theorem mem_places {big : List Cond} (ws : List Cond) (ps : List Nat) (hp : ws = ps.filterMap (fun i => big[i]?)) : ∀ w ∈ ws, w ∈ big := by
  intro w hw
  rw [hp] at hw
  obtain ⟨i, -, hi⟩ := List.mem_filterMap.mp hw
  exact List.mem_of_getElem? hi
theorem lwT_w {ws : List Cond} (ps : List Nat) (hp : ws = ps.filterMap (fun i => tables_1[i]?)) (hg : ws.all goodWord = true) : ∀ w ∈ ws, w ∈ lwT := fun w hw => lwT_t (mem_places ws ps hp w hw) (List.all_eq_true.mp hg w hw)
set_option maxRecDepth 100000 in
theorem inX0 : ∀ w ∈ u_ws RX0 TX0 6, w ∈ lwT := lwT_w [120, 122, 124, 126, 128, 130] (by decide +kernel) (by decide +kernel)
set_option maxRecDepth 100000 in
theorem inX1 : ∀ w ∈ u_ws RX1 TX1 9, w ∈ lwT := lwT_w [212, 214, 216, 218, 220, 222, 224, 226, 228] (by decide +kernel) (by decide +kernel)
set_option maxRecDepth 100000 in
theorem inX2 : ∀ w ∈ u_ws RX2 TX2 3, w ∈ lwT := lwT_w [146, 148, 150] (by decide +kernel) (by decide +kernel)
set_option maxRecDepth 100000 in
theorem inX3 : ∀ w ∈ u_ws RX3 TX3 6, w ∈ lwT := lwT_w [251, 253, 255, 257, 259, 261] (by decide +kernel) (by decide +kernel)
set_option maxRecDepth 100000 in
theorem inX4 : ∀ w ∈ u_ws RX4 TX4 6, w ∈ lwT := lwT_w [170, 172, 174, 176, 178, 180] (by decide +kernel) (by decide +kernel)
set_option maxRecDepth 100000 in
theorem inX5 : ∀ w ∈ u_ws RX5 TX5 14, w ∈ lwT := lwT_w [70, 72, 74, 76, 78, 80, 82, 84, 86, 88, 90, 92, 94, 96] (by decide +kernel) (by decide +kernel)
set_option maxRecDepth 100000 in
theorem inX6 : ∀ w ∈ u_ws RX6 TX6 5, w ∈ lwT := lwT_w [269, 271, 273, 275, 277] (by decide +kernel) (by decide +kernel)
set_option maxRecDepth 100000 in
theorem inX7 : ∀ w ∈ u_ws RX7 TX7 21, w ∈ lwT := lwT_w [688, 690, 692, 694, 696, 698, 700, 702, 704, 706, 708, 710, 712, 714, 716, 718, 720, 722, 724, 726, 728] (by decide +kernel) (by decide +kernel)
set_option maxRecDepth 100000 in
theorem wc_J6_bitCount_0f7a4 : Cond.code yJ6_bitCount_0f7a4 cJ6_bitCount_0f7a4 1 (some .int) ∈ lwT := lwT_t (List.mem_of_getElem? (i := 293) (by decide +kernel)) rfl
set_option maxRecDepth 100000 in
theorem wc_J9_max_7cf53 : Cond.code yJ9_max_7cf53 cJ9_max_7cf53 2 (some .int) ∈ lwT := lwT_t (List.mem_of_getElem? (i := 435) (by decide +kernel)) rfl
set_option maxRecDepth 100000 in
theorem wc_X0_above : Cond.code yX0_above cX0_above 8 (some .int) ∈ lwT := lwT_t (List.mem_of_getElem? (i := 497) (by decide +kernel)) rfl
set_option maxRecDepth 100000 in
theorem wc_X0_air : Cond.code yX0_air cX0_air 3 (some .int) ∈ lwT := lwT_t (List.mem_of_getElem? (i := 579) (by decide +kernel)) rfl
set_option maxRecDepth 100000 in
theorem wc_X0_clear : Cond.code yX0_clear cX0_clear 2 none ∈ lwT := lwT_t (List.mem_of_getElem? (i := 316) (by decide +kernel)) rfl
set_option maxRecDepth 100000 in
theorem wc_X0_copyFrom : Cond.code yX0_copyFrom cX0_copyFrom 2 none ∈ lwT := lwT_t (List.mem_of_getElem? (i := 304) (by decide +kernel)) rfl
set_option maxRecDepth 100000 in
theorem wc_X0_copyTrays : Cond.code yX0_copyTrays cX0_copyTrays 3 none ∈ lwT := lwT_t (List.mem_of_getElem? (i := 308) (by decide +kernel)) rfl
set_option maxRecDepth 100000 in
theorem wc_X0_encloses : Cond.code yX0_encloses cX0_encloses 5 (some .boolean) ∈ lwT := lwT_t (List.mem_of_getElem? (i := 415) (by decide +kernel)) rfl
set_option maxRecDepth 100000 in
theorem wc_X0_faultOf : Cond.code yX0_faultOf cX0_faultOf 2 (some .int) ∈ lwT := lwT_t (List.mem_of_getElem? (i := 501) (by decide +kernel)) rfl
set_option maxRecDepth 100000 in
theorem wc_X0_faults : Cond.code yX0_faults cX0_faults 4 (some .int) ∈ lwT := lwT_t (List.mem_of_getElem? (i := 570) (by decide +kernel)) rfl
set_option maxRecDepth 100000 in
theorem wc_X0_filledHeight : Cond.code yX0_filledHeight cX0_filledHeight 3 (some .int) ∈ lwT := lwT_t (List.mem_of_getElem? (i := 574) (by decide +kernel)) rfl
set_option maxRecDepth 100000 in
theorem wc_X0_freeTrays : Cond.code yX0_freeTrays cX0_freeTrays 3 (some .int) ∈ lwT := lwT_t (List.mem_of_getElem? (i := 641) (by decide +kernel)) rfl
set_option maxRecDepth 100000 in
theorem wc_X0_has : Cond.code yX0_has cX0_has 2 (some .boolean) ∈ lwT := lwT_t (List.mem_of_getElem? (i := 399) (by decide +kernel)) rfl
set_option maxRecDepth 100000 in
theorem wc_X0_highestFloor : Cond.code yX0_highestFloor cX0_highestFloor 2 (some .int) ∈ lwT := lwT_t (List.mem_of_getElem? (i := 439) (by decide +kernel)) rfl
set_option maxRecDepth 100000 in
theorem wc_X0_inside : Cond.code yX0_inside cX0_inside 3 (some .int) ∈ lwT := lwT_t (List.mem_of_getElem? (i := 290) (by decide +kernel)) rfl
set_option maxRecDepth 100000 in
theorem wc_X0_isFree : Cond.code yX0_isFree cX0_isFree 2 (some .boolean) ∈ lwT := lwT_t (List.mem_of_getElem? (i := 468) (by decide +kernel)) rfl
set_option maxRecDepth 100000 in
theorem wc_X0_lateOnes : Cond.code yX0_lateOnes cX0_lateOnes 5 (some .int) ∈ lwT := lwT_t (List.mem_of_getElem? (i := 507) (by decide +kernel)) rfl
set_option maxRecDepth 100000 in
theorem wc_X0_lifts : Cond.code yX0_lifts cX0_lifts 4 (some .int) ∈ lwT := lwT_t (List.mem_of_getElem? (i := 649) (by decide +kernel)) rfl
set_option maxRecDepth 100000 in
theorem wc_X0_lyingOn : Cond.code yX0_lyingOn cX0_lyingOn 4 (some .int) ∈ lwT := lwT_t (List.mem_of_getElem? (i := 472) (by decide +kernel)) rfl
set_option maxRecDepth 100000 in
theorem wc_X0_playedLifts : Cond.code yX0_playedLifts cX0_playedLifts 6 (some .int) ∈ lwT := lwT_t (List.mem_of_getElem? (i := 620) (by decide +kernel)) rfl
set_option maxRecDepth 100000 in
theorem wc_X0_remove : Cond.code yX0_remove cX0_remove 3 none ∈ lwT := lwT_t (List.mem_of_getElem? (i := 403) (by decide +kernel)) rfl
set_option maxRecDepth 100000 in
theorem wc_X0_uppermost : Cond.code yX0_uppermost cX0_uppermost 6 (some .int) ∈ lwT := lwT_t (List.mem_of_getElem? (i := 515) (by decide +kernel)) rfl
set_option maxRecDepth 100000 in
theorem wc_X1_holds : Cond.code yX1_holds cX1_holds 12 (some .boolean) ∈ lwT := lwT_t (List.mem_of_getElem? (i := 447) (by decide +kernel)) rfl
set_option maxRecDepth 100000 in
theorem wc_X1_keep : Cond.code yX1_keep cX1_keep 4 none ∈ lwT := lwT_t (List.mem_of_getElem? (i := 533) (by decide +kernel)) rfl
set_option maxRecDepth 100000 in
theorem wc_X1_raise : Cond.code yX1_raise cX1_raise 6 none ∈ lwT := lwT_t (List.mem_of_getElem? (i := 431) (by decide +kernel)) rfl
set_option maxRecDepth 100000 in
theorem wc_X1_search : Cond.code yX1_search cX1_search 9 none ∈ lwT := lwT_t (List.mem_of_getElem? (i := 527) (by decide +kernel)) rfl
set_option maxRecDepth 100000 in
theorem wc_X1_survey : Cond.code yX1_survey cX1_survey 3 none ∈ lwT := lwT_t (List.mem_of_getElem? (i := 427) (by decide +kernel)) rfl
set_option maxRecDepth 100000 in
theorem wc_X2_record : Cond.code yX2_record cX2_record 2 none ∈ lwT := lwT_t (List.mem_of_getElem? (i := 300) (by decide +kernel)) rfl
set_option maxRecDepth 100000 in
theorem wc_X2_restore : Cond.code yX2_restore cX2_restore 2 none ∈ lwT := lwT_t (List.mem_of_getElem? (i := 633) (by decide +kernel)) rfl
set_option maxRecDepth 100000 in
theorem wc_X3_isBefore : Cond.code yX3_isBefore cX3_isBefore 2 (some .boolean) ∈ lwT := lwT_t (List.mem_of_getElem? (i := 550) (by decide +kernel)) rfl
set_option maxRecDepth 100000 in
theorem wc_X3_isTriedBetter : Cond.code yX3_isTriedBetter cX3_isTriedBetter 2 (some .boolean) ∈ lwT := lwT_t (List.mem_of_getElem? (i := 597) (by decide +kernel)) rfl
set_option maxRecDepth 100000 in
theorem wc_X3_letDownFrom : Cond.code yX3_letDownFrom cX3_letDownFrom 5 none ∈ lwT := lwT_t (List.mem_of_getElem? (i := 555) (by decide +kernel)) rfl
set_option maxRecDepth 100000 in
theorem wc_X3_measure : Cond.code yX3_measure cX3_measure 2 none ∈ lwT := lwT_t (List.mem_of_getElem? (i := 564) (by decide +kernel)) rfl
set_option maxRecDepth 100000 in
theorem wc_X3_packByBest : Cond.code yX3_packByBest cX3_packByBest 4 none ∈ lwT := lwT_t (List.mem_of_getElem? (i := 593) (by decide +kernel)) rfl
set_option maxRecDepth 100000 in
theorem wc_X3_packUsually : Cond.code yX3_packUsually cX3_packUsually 4 none ∈ lwT := lwT_t (List.mem_of_getElem? (i := 546) (by decide +kernel)) rfl
set_option maxRecDepth 100000 in
theorem wc_X3_stepToNextOrder : Cond.code yX3_stepToNextOrder cX3_stepToNextOrder 5 (some .int) ∈ lwT := lwT_t (List.mem_of_getElem? (i := 604) (by decide +kernel)) rfl
set_option maxRecDepth 100000 in
theorem wc_X3_swap : Cond.code yX3_swap cX3_swap 4 none ∈ lwT := lwT_t (List.mem_of_getElem? (i := 608) (by decide +kernel)) rfl
set_option maxRecDepth 100000 in
theorem wc_X4_append : Cond.code yX4_append cX4_append 2 none ∈ lwT := lwT_t (List.mem_of_getElem? (i := 332) (by decide +kernel)) rfl
set_option maxRecDepth 100000 in
theorem wc_X4_fail : Cond.code yX4_fail cX4_fail 3 (some .boolean) ∈ lwT := lwT_t (List.mem_of_getElem? (i := 359) (by decide +kernel)) rfl
set_option maxRecDepth 100000 in
theorem wc_X4_isDigit : Cond.code yX4_isDigit cX4_isDigit 1 (some .boolean) ∈ lwT := lwT_t (List.mem_of_getElem? (i := 355) (by decide +kernel)) rfl
set_option maxRecDepth 100000 in
theorem wc_X4_next : Cond.code yX4_next cX4_next 1 (some .char) ∈ lwT := lwT_t (List.mem_of_getElem? (i := 352) (by decide +kernel)) rfl
set_option maxRecDepth 100000 in
theorem wc_X4_read : Cond.code yX4_read cX4_read 2 (some .int) ∈ lwT := lwT_t (List.mem_of_getElem? (i := 344) (by decide +kernel)) rfl
set_option maxRecDepth 100000 in
theorem wc_X4_readLid : Cond.code yX4_readLid cX4_readLid 2 (some .boolean) ∈ lwT := lwT_t (List.mem_of_getElem? (i := 377) (by decide +kernel)) rfl
set_option maxRecDepth 100000 in
theorem wc_X4_readNumber : Cond.code yX4_readNumber cX4_readNumber 3 (some .boolean) ∈ lwT := lwT_t (List.mem_of_getElem? (i := 363) (by decide +kernel)) rfl
set_option maxRecDepth 100000 in
theorem wc_X4_readSign : Cond.code yX4_readSign cX4_readSign 2 (some .boolean) ∈ lwT := lwT_t (List.mem_of_getElem? (i := 368) (by decide +kernel)) rfl
set_option maxRecDepth 100000 in
theorem wc_X4_readTray : Cond.code yX4_readTray cX4_readTray 4 (some .boolean) ∈ lwT := lwT_t (List.mem_of_getElem? (i := 348) (by decide +kernel)) rfl
set_option maxRecDepth 100000 in
theorem wc_X4_readTurn : Cond.code yX4_readTurn cX4_readTurn 2 (some .boolean) ∈ lwT := lwT_t (List.mem_of_getElem? (i := 381) (by decide +kernel)) rfl
set_option maxRecDepth 100000 in
theorem wc_X5_alongX : Cond.code yX5_alongX cX5_alongX 2 (some .int) ∈ lwT := lwT_t (List.mem_of_getElem? (i := 419) (by decide +kernel)) rfl
set_option maxRecDepth 100000 in
theorem wc_X5_alongY : Cond.code yX5_alongY cX5_alongY 2 (some .int) ∈ lwT := lwT_t (List.mem_of_getElem? (i := 423) (by decide +kernel)) rfl
set_option maxRecDepth 100000 in
theorem wc_X5_area : Cond.code yX5_area cX5_area 1 (some .int) ∈ lwT := lwT_t (List.mem_of_getElem? (i := 453) (by decide +kernel)) rfl
set_option maxRecDepth 100000 in
theorem wc_X5_become : Cond.code yX5_become cX5_become 5 none ∈ lwT := lwT_t (List.mem_of_getElem? (i := 372) (by decide +kernel)) rfl
set_option maxRecDepth 100000 in
theorem wc_X5_copyFrom : Cond.code yX5_copyFrom cX5_copyFrom 2 none ∈ lwT := lwT_t (List.mem_of_getElem? (i := 312) (by decide +kernel)) rfl
set_option maxRecDepth 100000 in
theorem wc_X5_covers : Cond.code yX5_covers cX5_covers 3 (some .boolean) ∈ lwT := lwT_t (List.mem_of_getElem? (i := 519) (by decide +kernel)) rfl
set_option maxRecDepth 100000 in
theorem wc_X5_leave : Cond.code yX5_leave cX5_leave 1 none ∈ lwT := lwT_t (List.mem_of_getElem? (i := 320) (by decide +kernel)) rfl
set_option maxRecDepth 100000 in
theorem wc_X5_lie : Cond.code yX5_lie cX5_lie 6 none ∈ lwT := lwT_t (List.mem_of_getElem? (i := 457) (by decide +kernel)) rfl
set_option maxRecDepth 100000 in
theorem wc_X5_liesOn : Cond.code yX5_liesOn cX5_liesOn 2 (some .boolean) ∈ lwT := lwT_t (List.mem_of_getElem? (i := 476) (by decide +kernel)) rfl
set_option maxRecDepth 100000 in
theorem wc_X5_property : Cond.code yX5_property cX5_property 2 (some .int) ∈ lwT := lwT_t (List.mem_of_getElem? (i := 489) (by decide +kernel)) rfl
set_option maxRecDepth 100000 in
theorem wc_X5_tall : Cond.code yX5_tall cX5_tall 1 (some .int) ∈ lwT := lwT_t (List.mem_of_getElem? (i := 443) (by decide +kernel)) rfl
set_option maxRecDepth 100000 in
theorem wc_X6_count : Cond.code yX6_count cX6_count 2 (some .int) ∈ lwT := lwT_t (List.mem_of_getElem? (i := 637) (by decide +kernel)) rfl
set_option maxRecDepth 100000 in
theorem wc_X6_isWithin : Cond.code yX6_isWithin cX6_isWithin 3 (some .boolean) ∈ lwT := lwT_t (List.mem_of_getElem? (i := 286) (by decide +kernel)) rfl
set_option maxRecDepth 100000 in
theorem wc_X6_liftsTo : Cond.code yX6_liftsTo cX6_liftsTo 2 (some .int) ∈ lwT := lwT_t (List.mem_of_getElem? (i := 625) (by decide +kernel)) rfl
set_option maxRecDepth 100000 in
theorem wc_X6_place : Cond.code yX6_place cX6_place 3 (some .int) ∈ lwT := lwT_t (List.mem_of_getElem? (i := 523) (by decide +kernel)) rfl
set_option maxRecDepth 100000 in
theorem wc_X6_placedProperty : Cond.code yX6_placedProperty cX6_placedProperty 4 (some .int) ∈ lwT := lwT_t (List.mem_of_getElem? (i := 493) (by decide +kernel)) rfl
set_option maxRecDepth 100000 in
theorem wc_X6_seen : Cond.code yX6_seen cX6_seen 5 (some .int) ∈ lwT := lwT_t (List.mem_of_getElem? (i := 511) (by decide +kernel)) rfl
set_option maxRecDepth 100000 in
theorem wc_X6_takeOverPacked : Cond.code yX6_takeOverPacked cX6_takeOverPacked 1 (some .int) ∈ lwT := lwT_t (List.mem_of_getElem? (i := 585) (by decide +kernel)) rfl
set_option maxRecDepth 100000 in
theorem wc_X6_tray : Cond.code yX6_tray cX6_tray 3 (some .int) ∈ lwT := lwT_t (List.mem_of_getElem? (i := 485) (by decide +kernel)) rfl
set_option maxRecDepth 100000 in
theorem wc_X7_above : Cond.code yX7_above cX7_above 7 (some .int) ∈ lwT := lwT_t (List.mem_of_getElem? (i := 897) (by decide +kernel)) rfl
set_option maxRecDepth 100000 in
theorem wc_X7_air : Cond.code yX7_air cX7_air 3 (some .int) ∈ lwT := lwT_t (List.mem_of_getElem? (i := 973) (by decide +kernel)) rfl
set_option maxRecDepth 100000 in
theorem wc_X7_along : Cond.code yX7_along cX7_along 4 (some .int) ∈ lwT := lwT_t (List.mem_of_getElem? (i := 761) (by decide +kernel)) rfl
set_option maxRecDepth 100000 in
theorem wc_X7_boxHeight : Cond.code yX7_boxHeight cX7_boxHeight 3 (some .int) ∈ lwT := lwT_t (List.mem_of_getElem? (i := 969) (by decide +kernel)) rfl
set_option maxRecDepth 100000 in
theorem wc_X7_can : Cond.code yX7_can cX7_can 5 (some .boolean) ∈ lwT := lwT_t (List.mem_of_getElem? (i := 793) (by decide +kernel)) rfl
set_option maxRecDepth 100000 in
theorem wc_X7_comes : Cond.code yX7_comes cX7_comes 5 none ∈ lwT := lwT_t (List.mem_of_getElem? (i := 805) (by decide +kernel)) rfl
set_option maxRecDepth 100000 in
theorem wc_X7_comesTo : Cond.code yX7_comesTo cX7_comesTo 2 (some .int) ∈ lwT := lwT_t (List.mem_of_getElem? (i := 961) (by decide +kernel)) rfl
set_option maxRecDepth 100000 in
theorem wc_X7_copies : Cond.code yX7_copies cX7_copies 4 none ∈ lwT := lwT_t (List.mem_of_getElem? (i := 738) (by decide +kernel)) rfl
set_option maxRecDepth 100000 in
theorem wc_X7_count : Cond.code yX7_count cX7_count 2 (some .int) ∈ lwT := lwT_t (List.mem_of_getElem? (i := 1017) (by decide +kernel)) rfl
set_option maxRecDepth 100000 in
theorem wc_X7_covers : Cond.code yX7_covers cX7_covers 4 (some .boolean) ∈ lwT := lwT_t (List.mem_of_getElem? (i := 777) (by decide +kernel)) rfl
set_option maxRecDepth 100000 in
theorem wc_X7_empties : Cond.code yX7_empties cX7_empties 2 none ∈ lwT := lwT_t (List.mem_of_getElem? (i := 873) (by decide +kernel)) rfl
set_option maxRecDepth 100000 in
theorem wc_X7_fails : Cond.code yX7_fails cX7_fails 3 (some .boolean) ∈ lwT := lwT_t (List.mem_of_getElem? (i := 837) (by decide +kernel)) rfl
set_option maxRecDepth 100000 in
theorem wc_X7_fault : Cond.code yX7_fault cX7_fault 5 (some .int) ∈ lwT := lwT_t (List.mem_of_getElem? (i := 921) (by decide +kernel)) rfl
set_option maxRecDepth 100000 in
theorem wc_X7_faults : Cond.code yX7_faults cX7_faults 3 (some .int) ∈ lwT := lwT_t (List.mem_of_getElem? (i := 965) (by decide +kernel)) rfl
set_option maxRecDepth 100000 in
theorem wc_X7_finds : Cond.code yX7_finds cX7_finds 7 none ∈ lwT := lwT_t (List.mem_of_getElem? (i := 937) (by decide +kernel)) rfl
set_option maxRecDepth 100000 in
theorem wc_X7_frees : Cond.code yX7_frees cX7_frees 3 (some .int) ∈ lwT := lwT_t (List.mem_of_getElem? (i := 1021) (by decide +kernel)) rfl
set_option maxRecDepth 100000 in
theorem wc_X7_gets : Cond.code yX7_gets cX7_gets 6 (some .int) ∈ lwT := lwT_t (List.mem_of_getElem? (i := 1009) (by decide +kernel)) rfl
set_option maxRecDepth 100000 in
theorem wc_X7_here : Cond.code yX7_here cX7_here 1 (some .int) ∈ lwT := lwT_t (List.mem_of_getElem? (i := 833) (by decide +kernel)) rfl
set_option maxRecDepth 100000 in
theorem wc_X7_high : Cond.code yX7_high cX7_high 2 (some .int) ∈ lwT := lwT_t (List.mem_of_getElem? (i := 789) (by decide +kernel)) rfl
set_option maxRecDepth 100000 in
theorem wc_X7_ifPacked : Cond.code yX7_ifPacked cX7_ifPacked 4 (some .int) ∈ lwT := lwT_t (List.mem_of_getElem? (i := 997) (by decide +kernel)) rfl
set_option maxRecDepth 100000 in
theorem wc_X7_in : Cond.code yX7_in cX7_in 3 (some .boolean) ∈ lwT := lwT_t (List.mem_of_getElem? (i := 753) (by decide +kernel)) rfl
set_option maxRecDepth 100000 in
theorem wc_X7_inBox : Cond.code yX7_inBox cX7_inBox 3 (some .int) ∈ lwT := lwT_t (List.mem_of_getElem? (i := 869) (by decide +kernel)) rfl
set_option maxRecDepth 100000 in
theorem wc_X7_isAhead : Cond.code yX7_isAhead cX7_isAhead 5 (some .boolean) ∈ lwT := lwT_t (List.mem_of_getElem? (i := 953) (by decide +kernel)) rfl
set_option maxRecDepth 100000 in
theorem wc_X7_isBetter : Cond.code yX7_isBetter cX7_isBetter 2 (some .boolean) ∈ lwT := lwT_t (List.mem_of_getElem? (i := 985) (by decide +kernel)) rfl
set_option maxRecDepth 100000 in
theorem wc_X7_isDigit : Cond.code yX7_isDigit cX7_isDigit 1 (some .boolean) ∈ lwT := lwT_t (List.mem_of_getElem? (i := 829) (by decide +kernel)) rfl
set_option maxRecDepth 100000 in
theorem wc_X7_isIn : Cond.code yX7_isIn cX7_isIn 2 (some .boolean) ∈ lwT := lwT_t (List.mem_of_getElem? (i := 769) (by decide +kernel)) rfl
set_option maxRecDepth 100000 in
theorem wc_X7_isInside : Cond.code yX7_isInside cX7_isInside 5 (some .boolean) ∈ lwT := lwT_t (List.mem_of_getElem? (i := 757) (by decide +kernel)) rfl
set_option maxRecDepth 100000 in
theorem wc_X7_isTray : Cond.code yX7_isTray cX7_isTray 2 (some .boolean) ∈ lwT := lwT_t (List.mem_of_getElem? (i := 746) (by decide +kernel)) rfl
set_option maxRecDepth 100000 in
theorem wc_X7_laysTops : Cond.code yX7_laysTops cX7_laysTops 3 none ∈ lwT := lwT_t (List.mem_of_getElem? (i := 773) (by decide +kernel)) rfl
set_option maxRecDepth 100000 in
theorem wc_X7_leaves : Cond.code yX7_leaves cX7_leaves 3 none ∈ lwT := lwT_t (List.mem_of_getElem? (i := 841) (by decide +kernel)) rfl
set_option maxRecDepth 100000 in
theorem wc_X7_liesOn : Cond.code yX7_liesOn cX7_liesOn 3 (some .boolean) ∈ lwT := lwT_t (List.mem_of_getElem? (i := 901) (by decide +kernel)) rfl
set_option maxRecDepth 100000 in
theorem wc_X7_lift : Cond.code yX7_lift cX7_lift 4 (some .int) ∈ lwT := lwT_t (List.mem_of_getElem? (i := 917) (by decide +kernel)) rfl
set_option maxRecDepth 100000 in
theorem wc_X7_lifts : Cond.code yX7_lifts cX7_lifts 3 (some .int) ∈ lwT := lwT_t (List.mem_of_getElem? (i := 1025) (by decide +kernel)) rfl
set_option maxRecDepth 100000 in
theorem wc_X7_liftsTo : Cond.code yX7_liftsTo cX7_liftsTo 3 (some .int) ∈ lwT := lwT_t (List.mem_of_getElem? (i := 1013) (by decide +kernel)) rfl
set_option maxRecDepth 100000 in
theorem wc_X7_looksAt : Cond.code yX7_looksAt cX7_looksAt 8 none ∈ lwT := lwT_t (List.mem_of_getElem? (i := 797) (by decide +kernel)) rfl
set_option maxRecDepth 100000 in
theorem wc_X7_meet : Cond.code yX7_meet cX7_meet 4 (some .boolean) ∈ lwT := lwT_t (List.mem_of_getElem? (i := 905) (by decide +kernel)) rfl
set_option maxRecDepth 100000 in
theorem wc_X7_mixes : Cond.code yX7_mixes cX7_mixes 2 none ∈ lwT := lwT_t (List.mem_of_getElem? (i := 1035) (by decide +kernel)) rfl
set_option maxRecDepth 100000 in
theorem wc_X7_of : Cond.code yX7_of cX7_of 3 (some .int) ∈ lwT := lwT_t (List.mem_of_getElem? (i := 765) (by decide +kernel)) rfl
set_option maxRecDepth 100000 in
theorem wc_X7_ordersBest : Cond.code yX7_ordersBest cX7_ordersBest 4 none ∈ lwT := lwT_t (List.mem_of_getElem? (i := 981) (by decide +kernel)) rfl
set_option maxRecDepth 100000 in
theorem wc_X7_ordersNext : Cond.code yX7_ordersNext cX7_ordersNext 5 (some .boolean) ∈ lwT := lwT_t (List.mem_of_getElem? (i := 989) (by decide +kernel)) rfl
set_option maxRecDepth 100000 in
theorem wc_X7_ordersUsually : Cond.code yX7_ordersUsually cX7_ordersUsually 3 none ∈ lwT := lwT_t (List.mem_of_getElem? (i := 949) (by decide +kernel)) rfl
set_option maxRecDepth 100000 in
theorem wc_X7_packs : Cond.code yX7_packs cX7_packs 2 none ∈ lwT := lwT_t (List.mem_of_getElem? (i := 957) (by decide +kernel)) rfl
set_option maxRecDepth 100000 in
theorem wc_X7_place : Cond.code yX7_place cX7_place 3 (some .int) ∈ lwT := lwT_t (List.mem_of_getElem? (i := 933) (by decide +kernel)) rfl
set_option maxRecDepth 100000 in
theorem wc_X7_plays : Cond.code yX7_plays cX7_plays 6 (some .int) ∈ lwT := lwT_t (List.mem_of_getElem? (i := 1005) (by decide +kernel)) rfl
set_option maxRecDepth 100000 in
theorem wc_X7_readsInto : Cond.code yX7_readsInto cX7_readsInto 5 (some .boolean) ∈ lwT := lwT_t (List.mem_of_getElem? (i := 845) (by decide +kernel)) rfl
set_option maxRecDepth 100000 in
theorem wc_X7_readsNumber : Cond.code yX7_readsNumber cX7_readsNumber 5 (some .boolean) ∈ lwT := lwT_t (List.mem_of_getElem? (i := 849) (by decide +kernel)) rfl
set_option maxRecDepth 100000 in
theorem wc_X7_readsTray : Cond.code yX7_readsTray cX7_readsTray 2 (some .boolean) ∈ lwT := lwT_t (List.mem_of_getElem? (i := 825) (by decide +kernel)) rfl
set_option maxRecDepth 100000 in
theorem wc_X7_records : Cond.code yX7_records cX7_records 2 none ∈ lwT := lwT_t (List.mem_of_getElem? (i := 801) (by decide +kernel)) rfl
set_option maxRecDepth 100000 in
theorem wc_X7_recordsKept : Cond.code yX7_recordsKept cX7_recordsKept 4 none ∈ lwT := lwT_t (List.mem_of_getElem? (i := 857) (by decide +kernel)) rfl
set_option maxRecDepth 100000 in
theorem wc_X7_rests : Cond.code yX7_rests cX7_rests 6 (some .int) ∈ lwT := lwT_t (List.mem_of_getElem? (i := 925) (by decide +kernel)) rfl
set_option maxRecDepth 100000 in
theorem wc_X7_seen : Cond.code yX7_seen cX7_seen 7 (some .int) ∈ lwT := lwT_t (List.mem_of_getElem? (i := 929) (by decide +kernel)) rfl
set_option maxRecDepth 100000 in
theorem wc_X7_sets : Cond.code yX7_sets cX7_sets 4 none ∈ lwT := lwT_t (List.mem_of_getElem? (i := 809) (by decide +kernel)) rfl
set_option maxRecDepth 100000 in
theorem wc_X7_spans : Cond.code yX7_spans cX7_spans 3 (some .int) ∈ lwT := lwT_t (List.mem_of_getElem? (i := 781) (by decide +kernel)) rfl
set_option maxRecDepth 100000 in
theorem wc_X7_swaps : Cond.code yX7_swaps cX7_swaps 4 none ∈ lwT := lwT_t (List.mem_of_getElem? (i := 993) (by decide +kernel)) rfl
set_option maxRecDepth 100000 in
theorem wc_X7_takes : Cond.code yX7_takes cX7_takes 2 (some .boolean) ∈ lwT := lwT_t (List.mem_of_getElem? (i := 853) (by decide +kernel)) rfl
set_option maxRecDepth 100000 in
theorem wc_X7_top : Cond.code yX7_top cX7_top 2 (some .int) ∈ lwT := lwT_t (List.mem_of_getElem? (i := 785) (by decide +kernel)) rfl
set_option maxRecDepth 100000 in
theorem wc_X7_tray : Cond.code yX7_tray cX7_tray 3 (some .int) ∈ lwT := lwT_t (List.mem_of_getElem? (i := 913) (by decide +kernel)) rfl
set_option maxRecDepth 100000 in
theorem wc_X7_trays : Cond.code yX7_trays cX7_trays 1 (some .int) ∈ lwT := lwT_t (List.mem_of_getElem? (i := 750) (by decide +kernel)) rfl
set_option maxRecDepth 100000 in
theorem wf_X0_15 : Cond.fieldLink RX0 15 "TrayBox$Box" "length" "I" ∈ lwT := lwT_t (List.mem_of_getElem? (i := 102) (by decide +kernel)) rfl
set_option maxRecDepth 100000 in
theorem wf_X0_18 : Cond.fieldLink RX0 18 "TrayBox$Box" "depth" "I" ∈ lwT := lwT_t (List.mem_of_getElem? (i := 105) (by decide +kernel)) rfl
set_option maxRecDepth 100000 in
theorem wf_X0_21 : Cond.fieldLink RX0 21 "TrayBox$Box" "share" "I" ∈ lwT := lwT_t (List.mem_of_getElem? (i := 107) (by decide +kernel)) rfl
set_option maxRecDepth 100000 in
theorem wf_X0_26 : Cond.fieldLink RX0 26 "TrayBox$Box" "row" "[LTrayBox$Tray;" ∈ lwT := lwT_t (List.mem_of_getElem? (i := 115) (by decide +kernel)) rfl
set_option maxRecDepth 100000 in
theorem wf_X0_35 : Cond.fieldLink RX0 35 "TrayBox$Box" "trays" "I" ∈ lwT := lwT_t (List.mem_of_getElem? (i := 112) (by decide +kernel)) rfl
set_option maxRecDepth 100000 in
theorem wf_X0_56 : Cond.fieldLink RX0 56 "TrayBox$Tray" "inside" "Z" ∈ lwT := lwT_t (List.mem_of_getElem? (i := 48) (by decide +kernel)) rfl
set_option maxRecDepth 100000 in
theorem wf_X0_64 : Cond.fieldLink RX0 64 "TrayBox$Tray" "top" "I" ∈ lwT := lwT_t (List.mem_of_getElem? (i := 66) (by decide +kernel)) rfl
set_option maxRecDepth 100000 in
theorem wf_X0_81 : Cond.fieldLink RX0 81 "TrayBox$Tray" "turn" "I" ∈ lwT := lwT_t (List.mem_of_getElem? (i := 42) (by decide +kernel)) rfl
set_option maxRecDepth 100000 in
theorem wf_X0_9 : Cond.fieldLink RX0 9 "TrayBox$Box" "width" "I" ∈ lwT := lwT_t (List.mem_of_getElem? (i := 99) (by decide +kernel)) rfl
set_option maxRecDepth 100000 in
theorem wf_X1_106 : Cond.fieldLink RX1 106 "TrayBox$Finder" "bestX" "I" ∈ lwT := lwT_t (List.mem_of_getElem? (i := 199) (by decide +kernel)) rfl
set_option maxRecDepth 100000 in
theorem wf_X1_109 : Cond.fieldLink RX1 109 "TrayBox$Finder" "bestY" "I" ∈ lwT := lwT_t (List.mem_of_getElem? (i := 202) (by decide +kernel)) rfl
set_option maxRecDepth 100000 in
theorem wf_X1_112 : Cond.fieldLink RX1 112 "TrayBox$Finder" "bestTurned" "Z" ∈ lwT := lwT_t (List.mem_of_getElem? (i := 205) (by decide +kernel)) rfl
set_option maxRecDepth 100000 in
theorem wf_X1_115 : Cond.fieldLink RX1 115 "TrayBox$Finder" "bestFloor" "I" ∈ lwT := lwT_t (List.mem_of_getElem? (i := 208) (by decide +kernel)) rfl
set_option maxRecDepth 100000 in
theorem wf_X1_118 : Cond.fieldLink RX1 118 "TrayBox$Finder" "bestRest" "I" ∈ lwT := lwT_t (List.mem_of_getElem? (i := 211) (by decide +kernel)) rfl
set_option maxRecDepth 100000 in
theorem wf_X1_15 : Cond.fieldLink RX1 15 "TrayBox$Box" "trays" "I" ∈ lwT := lwT_t (List.mem_of_getElem? (i := 111) (by decide +kernel)) rfl
set_option maxRecDepth 100000 in
theorem wf_X1_21 : Cond.fieldLink RX1 21 "TrayBox$Box" "row" "[LTrayBox$Tray;" ∈ lwT := lwT_t (List.mem_of_getElem? (i := 117) (by decide +kernel)) rfl
set_option maxRecDepth 100000 in
theorem wf_X1_29 : Cond.fieldLink RX1 29 "TrayBox$Tray" "inside" "Z" ∈ lwT := lwT_t (List.mem_of_getElem? (i := 46) (by decide +kernel)) rfl
set_option maxRecDepth 100000 in
theorem wf_X1_35 : Cond.fieldLink RX1 35 "TrayBox$Tray" "x" "I" ∈ lwT := lwT_t (List.mem_of_getElem? (i := 52) (by decide +kernel)) rfl
set_option maxRecDepth 100000 in
theorem wf_X1_38 : Cond.fieldLink RX1 38 "TrayBox$Tray" "y" "I" ∈ lwT := lwT_t (List.mem_of_getElem? (i := 55) (by decide +kernel)) rfl
set_option maxRecDepth 100000 in
theorem wf_X1_41 : Cond.fieldLink RX1 41 "TrayBox$Tray" "turned" "Z" ∈ lwT := lwT_t (List.mem_of_getElem? (i := 50) (by decide +kernel)) rfl
set_option maxRecDepth 100000 in
theorem wf_X1_48 : Cond.fieldLink RX1 48 "TrayBox$Tray" "endY" "I" ∈ lwT := lwT_t (List.mem_of_getElem? (i := 60) (by decide +kernel)) rfl
set_option maxRecDepth 100000 in
theorem wf_X1_51 : Cond.fieldLink RX1 51 "TrayBox$Tray" "endX" "I" ∈ lwT := lwT_t (List.mem_of_getElem? (i := 58) (by decide +kernel)) rfl
set_option maxRecDepth 100000 in
theorem wf_X1_54 : Cond.fieldLink RX1 54 "TrayBox$Tray" "top" "I" ∈ lwT := lwT_t (List.mem_of_getElem? (i := 64) (by decide +kernel)) rfl
set_option maxRecDepth 100000 in
theorem wf_X1_63 : Cond.fieldLink RX1 63 "TrayBox$Finder" "floor" "I" ∈ lwT := lwT_t (List.mem_of_getElem? (i := 191) (by decide +kernel)) rfl
set_option maxRecDepth 100000 in
theorem wf_X1_66 : Cond.fieldLink RX1 66 "TrayBox$Finder" "rest" "I" ∈ lwT := lwT_t (List.mem_of_getElem? (i := 193) (by decide +kernel)) rfl
set_option maxRecDepth 100000 in
theorem wf_X1_76 : Cond.fieldLink RX1 76 "TrayBox$Box" "share" "I" ∈ lwT := lwT_t (List.mem_of_getElem? (i := 109) (by decide +kernel)) rfl
set_option maxRecDepth 100000 in
theorem wf_X1_83 : Cond.fieldLink RX1 83 "TrayBox$Finder" "found" "I" ∈ lwT := lwT_t (List.mem_of_getElem? (i := 195) (by decide +kernel)) rfl
set_option maxRecDepth 100000 in
theorem wf_X1_9 : Cond.fieldLink RX1 9 "TrayBox$Finder" "tops" "[I" ∈ lwT := lwT_t (List.mem_of_getElem? (i := 190) (by decide +kernel)) rfl
set_option maxRecDepth 100000 in
theorem wf_X1_90 : Cond.fieldLink RX1 90 "TrayBox$Tray" "width" "I" ∈ lwT := lwT_t (List.mem_of_getElem? (i := 34) (by decide +kernel)) rfl
set_option maxRecDepth 100000 in
theorem wf_X1_93 : Cond.fieldLink RX1 93 "TrayBox$Tray" "length" "I" ∈ lwT := lwT_t (List.mem_of_getElem? (i := 36) (by decide +kernel)) rfl
set_option maxRecDepth 100000 in
theorem wf_X1_96 : Cond.fieldLink RX1 96 "TrayBox$Box" "length" "I" ∈ lwT := lwT_t (List.mem_of_getElem? (i := 104) (by decide +kernel)) rfl
set_option maxRecDepth 100000 in
theorem wf_X1_97 : Cond.fieldLink RX1 97 "TrayBox$Box" "width" "I" ∈ lwT := lwT_t (List.mem_of_getElem? (i := 101) (by decide +kernel)) rfl
set_option maxRecDepth 100000 in
theorem wf_X2_11 : Cond.fieldLink RX2 11 "TrayBox$History" "ring" "[LTrayBox$Box;" ∈ lwT := lwT_t (List.mem_of_getElem? (i := 145) (by decide +kernel)) rfl
set_option maxRecDepth 100000 in
theorem wf_X2_18 : Cond.fieldLink RX2 18 "TrayBox$History" "size" "I" ∈ lwT := lwT_t (List.mem_of_getElem? (i := 142) (by decide +kernel)) rfl
set_option maxRecDepth 100000 in
theorem wf_X2_22 : Cond.fieldLink RX2 22 "TrayBox$History" "oldest" "I" ∈ lwT := lwT_t (List.mem_of_getElem? (i := 144) (by decide +kernel)) rfl
set_option maxRecDepth 100000 in
theorem wf_X3_100 : Cond.fieldLink RX3 100 "TrayBox$Finder" "bestY" "I" ∈ lwT := lwT_t (List.mem_of_getElem? (i := 201) (by decide +kernel)) rfl
set_option maxRecDepth 100000 in
theorem wf_X3_103 : Cond.fieldLink RX3 103 "TrayBox$Finder" "bestTurned" "Z" ∈ lwT := lwT_t (List.mem_of_getElem? (i := 204) (by decide +kernel)) rfl
set_option maxRecDepth 100000 in
theorem wf_X3_107 : Cond.fieldLink RX3 107 "TrayBox$Finder" "bestFloor" "I" ∈ lwT := lwT_t (List.mem_of_getElem? (i := 207) (by decide +kernel)) rfl
set_option maxRecDepth 100000 in
theorem wf_X3_110 : Cond.fieldLink RX3 110 "TrayBox$Finder" "bestRest" "I" ∈ lwT := lwT_t (List.mem_of_getElem? (i := 210) (by decide +kernel)) rfl
set_option maxRecDepth 100000 in
theorem wf_X3_15 : Cond.fieldLink RX3 15 "TrayBox$Packer" "figures" "[I" ∈ lwT := lwT_t (List.mem_of_getElem? (i := 244) (by decide +kernel)) rfl
set_option maxRecDepth 100000 in
theorem wf_X3_21 : Cond.fieldLink RX3 21 "TrayBox$Packer" "trial" "LTrayBox$Box;" ∈ lwT := lwT_t (List.mem_of_getElem? (i := 246) (by decide +kernel)) rfl
set_option maxRecDepth 100000 in
theorem wf_X3_25 : Cond.fieldLink RX3 25 "TrayBox$Packer" "triedOrder" "[I" ∈ lwT := lwT_t (List.mem_of_getElem? (i := 248) (by decide +kernel)) rfl
set_option maxRecDepth 100000 in
theorem wf_X3_28 : Cond.fieldLink RX3 28 "TrayBox$Packer" "triedFigures" "[I" ∈ lwT := lwT_t (List.mem_of_getElem? (i := 249) (by decide +kernel)) rfl
set_option maxRecDepth 100000 in
theorem wf_X3_34 : Cond.fieldLink RX3 34 "TrayBox$Packer" "finder" "LTrayBox$Finder;" ∈ lwT := lwT_t (List.mem_of_getElem? (i := 250) (by decide +kernel)) rfl
set_option maxRecDepth 100000 in
theorem wf_X3_42 : Cond.fieldLink RX3 42 "TrayBox$Box" "trays" "I" ∈ lwT := lwT_t (List.mem_of_getElem? (i := 110) (by decide +kernel)) rfl
set_option maxRecDepth 100000 in
theorem wf_X3_46 : Cond.fieldLink RX3 46 "TrayBox$Box" "row" "[LTrayBox$Tray;" ∈ lwT := lwT_t (List.mem_of_getElem? (i := 116) (by decide +kernel)) rfl
set_option maxRecDepth 100000 in
theorem wf_X3_62 : Cond.fieldLink RX3 62 "TrayBox$Tray" "turn" "I" ∈ lwT := lwT_t (List.mem_of_getElem? (i := 39) (by decide +kernel)) rfl
set_option maxRecDepth 100000 in
theorem wf_X3_9 : Cond.fieldLink RX3 9 "TrayBox$Packer" "order" "[I" ∈ lwT := lwT_t (List.mem_of_getElem? (i := 242) (by decide +kernel)) rfl
set_option maxRecDepth 100000 in
theorem wf_X3_94 : Cond.fieldLink RX3 94 "TrayBox$Finder" "found" "I" ∈ lwT := lwT_t (List.mem_of_getElem? (i := 196) (by decide +kernel)) rfl
set_option maxRecDepth 100000 in
theorem wf_X3_97 : Cond.fieldLink RX3 97 "TrayBox$Finder" "bestX" "I" ∈ lwT := lwT_t (List.mem_of_getElem? (i := 198) (by decide +kernel)) rfl
set_option maxRecDepth 100000 in
theorem wf_X4_18 : Cond.fieldLink RX4 18 "TrayBox$Text" "result" "LTrayBox$Box;" ∈ lwT := lwT_t (List.mem_of_getElem? (i := 165) (by decide +kernel)) rfl
set_option maxRecDepth 100000 in
theorem wf_X4_22 : Cond.fieldLink RX4 22 "TrayBox$Text" "signs" "[C" ∈ lwT := lwT_t (List.mem_of_getElem? (i := 167) (by decide +kernel)) rfl
set_option maxRecDepth 100000 in
theorem wf_X4_26 : Cond.fieldLink RX4 26 "TrayBox$Text" "length" "I" ∈ lwT := lwT_t (List.mem_of_getElem? (i := 161) (by decide +kernel)) rfl
set_option maxRecDepth 100000 in
theorem wf_X4_29 : Cond.fieldLink RX4 29 "TrayBox$Text" "at" "I" ∈ lwT := lwT_t (List.mem_of_getElem? (i := 168) (by decide +kernel)) rfl
set_option maxRecDepth 100000 in
theorem wf_X4_32 : Cond.fieldLink RX4 32 "TrayBox$Box" "trays" "I" ∈ lwT := lwT_t (List.mem_of_getElem? (i := 113) (by decide +kernel)) rfl
set_option maxRecDepth 100000 in
theorem wf_X4_55 : Cond.fieldLink RX4 55 "TrayBox$Text" "number" "I" ∈ lwT := lwT_t (List.mem_of_getElem? (i := 169) (by decide +kernel)) rfl
set_option maxRecDepth 100000 in
theorem wf_X4_61 : Cond.fieldLink RX4 61 "TrayBox$Box" "row" "[LTrayBox$Tray;" ∈ lwT := lwT_t (List.mem_of_getElem? (i := 118) (by decide +kernel)) rfl
set_option maxRecDepth 100000 in
theorem wf_X4_82 : Cond.fieldLink RX4 82 "TrayBox$Tray" "lid" "I" ∈ lwT := lwT_t (List.mem_of_getElem? (i := 44) (by decide +kernel)) rfl
set_option maxRecDepth 100000 in
theorem wf_X4_85 : Cond.fieldLink RX4 85 "TrayBox$Tray" "turn" "I" ∈ lwT := lwT_t (List.mem_of_getElem? (i := 40) (by decide +kernel)) rfl
set_option maxRecDepth 100000 in
theorem wf_X4_9 : Cond.fieldLink RX4 9 "TrayBox$Text" "fault" "I" ∈ lwT := lwT_t (List.mem_of_getElem? (i := 163) (by decide +kernel)) rfl
set_option maxRecDepth 100000 in
theorem wf_X5_13 : Cond.fieldLink RX5 13 "TrayBox$Tray" "length" "I" ∈ lwT := lwT_t (List.mem_of_getElem? (i := 35) (by decide +kernel)) rfl
set_option maxRecDepth 100000 in
theorem wf_X5_16 : Cond.fieldLink RX5 16 "TrayBox$Tray" "height" "I" ∈ lwT := lwT_t (List.mem_of_getElem? (i := 37) (by decide +kernel)) rfl
set_option maxRecDepth 100000 in
theorem wf_X5_19 : Cond.fieldLink RX5 19 "TrayBox$Tray" "turn" "I" ∈ lwT := lwT_t (List.mem_of_getElem? (i := 38) (by decide +kernel)) rfl
set_option maxRecDepth 100000 in
theorem wf_X5_22 : Cond.fieldLink RX5 22 "TrayBox$Tray" "lid" "I" ∈ lwT := lwT_t (List.mem_of_getElem? (i := 43) (by decide +kernel)) rfl
set_option maxRecDepth 100000 in
theorem wf_X5_28 : Cond.fieldLink RX5 28 "TrayBox$Tray" "inside" "Z" ∈ lwT := lwT_t (List.mem_of_getElem? (i := 47) (by decide +kernel)) rfl
set_option maxRecDepth 100000 in
theorem wf_X5_32 : Cond.fieldLink RX5 32 "TrayBox$Tray" "turned" "Z" ∈ lwT := lwT_t (List.mem_of_getElem? (i := 51) (by decide +kernel)) rfl
set_option maxRecDepth 100000 in
theorem wf_X5_35 : Cond.fieldLink RX5 35 "TrayBox$Tray" "x" "I" ∈ lwT := lwT_t (List.mem_of_getElem? (i := 53) (by decide +kernel)) rfl
set_option maxRecDepth 100000 in
theorem wf_X5_38 : Cond.fieldLink RX5 38 "TrayBox$Tray" "y" "I" ∈ lwT := lwT_t (List.mem_of_getElem? (i := 56) (by decide +kernel)) rfl
set_option maxRecDepth 100000 in
theorem wf_X5_41 : Cond.fieldLink RX5 41 "TrayBox$Tray" "endX" "I" ∈ lwT := lwT_t (List.mem_of_getElem? (i := 59) (by decide +kernel)) rfl
set_option maxRecDepth 100000 in
theorem wf_X5_44 : Cond.fieldLink RX5 44 "TrayBox$Tray" "endY" "I" ∈ lwT := lwT_t (List.mem_of_getElem? (i := 61) (by decide +kernel)) rfl
set_option maxRecDepth 100000 in
theorem wf_X5_47 : Cond.fieldLink RX5 47 "TrayBox$Tray" "floor" "I" ∈ lwT := lwT_t (List.mem_of_getElem? (i := 62) (by decide +kernel)) rfl
set_option maxRecDepth 100000 in
theorem wf_X5_50 : Cond.fieldLink RX5 50 "TrayBox$Tray" "top" "I" ∈ lwT := lwT_t (List.mem_of_getElem? (i := 65) (by decide +kernel)) rfl
set_option maxRecDepth 100000 in
theorem wf_X5_53 : Cond.fieldLink RX5 53 "TrayBox$Tray" "rest" "I" ∈ lwT := lwT_t (List.mem_of_getElem? (i := 68) (by decide +kernel)) rfl
set_option maxRecDepth 100000 in
theorem wf_X5_7 : Cond.fieldLink RX5 7 "TrayBox$Tray" "width" "I" ∈ lwT := lwT_t (List.mem_of_getElem? (i := 33) (by decide +kernel)) rfl
set_option maxRecDepth 100000 in
theorem wf_X6_10 : Cond.fieldLink RX6 10 "TrayBox" "box" "LTrayBox$Box;" ∈ lwT := lwT_t (List.mem_of_getElem? (i := 264) (by decide +kernel)) rfl
set_option maxRecDepth 100000 in
theorem wf_X6_112 : Cond.fieldLink RX6 112 "TrayBox$Tray" "inside" "Z" ∈ lwT := lwT_t (List.mem_of_getElem? (i := 49) (by decide +kernel)) rfl
set_option maxRecDepth 100000 in
theorem wf_X6_119 : Cond.fieldLink RX6 119 "TrayBox$Tray" "turn" "I" ∈ lwT := lwT_t (List.mem_of_getElem? (i := 41) (by decide +kernel)) rfl
set_option maxRecDepth 100000 in
theorem wf_X6_122 : Cond.fieldLink RX6 122 "TrayBox$Tray" "lid" "I" ∈ lwT := lwT_t (List.mem_of_getElem? (i := 45) (by decide +kernel)) rfl
set_option maxRecDepth 100000 in
theorem wf_X6_140 : Cond.fieldLink RX6 140 "TrayBox$Finder" "floor" "I" ∈ lwT := lwT_t (List.mem_of_getElem? (i := 192) (by decide +kernel)) rfl
set_option maxRecDepth 100000 in
theorem wf_X6_143 : Cond.fieldLink RX6 143 "TrayBox$Finder" "rest" "I" ∈ lwT := lwT_t (List.mem_of_getElem? (i := 194) (by decide +kernel)) rfl
set_option maxRecDepth 100000 in
theorem wf_X6_150 : Cond.fieldLink RX6 150 "TrayBox$Tray" "floor" "I" ∈ lwT := lwT_t (List.mem_of_getElem? (i := 63) (by decide +kernel)) rfl
set_option maxRecDepth 100000 in
theorem wf_X6_167 : Cond.fieldLink RX6 167 "TrayBox$Tray" "top" "I" ∈ lwT := lwT_t (List.mem_of_getElem? (i := 67) (by decide +kernel)) rfl
set_option maxRecDepth 100000 in
theorem wf_X6_174 : Cond.fieldLink RX6 174 "TrayBox$Finder" "found" "I" ∈ lwT := lwT_t (List.mem_of_getElem? (i := 197) (by decide +kernel)) rfl
set_option maxRecDepth 100000 in
theorem wf_X6_177 : Cond.fieldLink RX6 177 "TrayBox$Finder" "bestX" "I" ∈ lwT := lwT_t (List.mem_of_getElem? (i := 200) (by decide +kernel)) rfl
set_option maxRecDepth 100000 in
theorem wf_X6_180 : Cond.fieldLink RX6 180 "TrayBox$Finder" "bestY" "I" ∈ lwT := lwT_t (List.mem_of_getElem? (i := 203) (by decide +kernel)) rfl
set_option maxRecDepth 100000 in
theorem wf_X6_183 : Cond.fieldLink RX6 183 "TrayBox$Finder" "bestTurned" "Z" ∈ lwT := lwT_t (List.mem_of_getElem? (i := 206) (by decide +kernel)) rfl
set_option maxRecDepth 100000 in
theorem wf_X6_186 : Cond.fieldLink RX6 186 "TrayBox$Finder" "bestFloor" "I" ∈ lwT := lwT_t (List.mem_of_getElem? (i := 209) (by decide +kernel)) rfl
set_option maxRecDepth 100000 in
theorem wf_X6_19 : Cond.fieldLink RX6 19 "TrayBox" "history" "LTrayBox$History;" ∈ lwT := lwT_t (List.mem_of_getElem? (i := 265) (by decide +kernel)) rfl
set_option maxRecDepth 100000 in
theorem wf_X6_201 : Cond.fieldLink RX6 201 "TrayBox$Packer" "figures" "[I" ∈ lwT := lwT_t (List.mem_of_getElem? (i := 245) (by decide +kernel)) rfl
set_option maxRecDepth 100000 in
theorem wf_X6_205 : Cond.fieldLink RX6 205 "TrayBox$Packer" "order" "[I" ∈ lwT := lwT_t (List.mem_of_getElem? (i := 243) (by decide +kernel)) rfl
set_option maxRecDepth 100000 in
theorem wf_X6_211 : Cond.fieldLink RX6 211 "TrayBox$History" "size" "I" ∈ lwT := lwT_t (List.mem_of_getElem? (i := 143) (by decide +kernel)) rfl
set_option maxRecDepth 100000 in
theorem wf_X6_252 : Cond.fieldLink RX6 252 "TrayBox$Tray" "x" "I" ∈ lwT := lwT_t (List.mem_of_getElem? (i := 54) (by decide +kernel)) rfl
set_option maxRecDepth 100000 in
theorem wf_X6_255 : Cond.fieldLink RX6 255 "TrayBox$Tray" "y" "I" ∈ lwT := lwT_t (List.mem_of_getElem? (i := 57) (by decide +kernel)) rfl
set_option maxRecDepth 100000 in
theorem wf_X6_26 : Cond.fieldLink RX6 26 "TrayBox" "text" "LTrayBox$Text;" ∈ lwT := lwT_t (List.mem_of_getElem? (i := 266) (by decide +kernel)) rfl
set_option maxRecDepth 100000 in
theorem wf_X6_264 : Cond.fieldLink RX6 264 "TrayBox$Tray" "rest" "I" ∈ lwT := lwT_t (List.mem_of_getElem? (i := 69) (by decide +kernel)) rfl
set_option maxRecDepth 100000 in
theorem wf_X6_265 : Cond.fieldLink RX6 265 "TrayBox$Packer" "trial" "LTrayBox$Box;" ∈ lwT := lwT_t (List.mem_of_getElem? (i := 247) (by decide +kernel)) rfl
set_option maxRecDepth 100000 in
theorem wf_X6_33 : Cond.fieldLink RX6 33 "TrayBox" "finder" "LTrayBox$Finder;" ∈ lwT := lwT_t (List.mem_of_getElem? (i := 267) (by decide +kernel)) rfl
set_option maxRecDepth 100000 in
theorem wf_X6_40 : Cond.fieldLink RX6 40 "TrayBox" "packer" "LTrayBox$Packer;" ∈ lwT := lwT_t (List.mem_of_getElem? (i := 268) (by decide +kernel)) rfl
set_option maxRecDepth 100000 in
theorem wf_X6_65 : Cond.fieldLink RX6 65 "TrayBox$Box" "width" "I" ∈ lwT := lwT_t (List.mem_of_getElem? (i := 100) (by decide +kernel)) rfl
set_option maxRecDepth 100000 in
theorem wf_X6_69 : Cond.fieldLink RX6 69 "TrayBox$Box" "length" "I" ∈ lwT := lwT_t (List.mem_of_getElem? (i := 103) (by decide +kernel)) rfl
set_option maxRecDepth 100000 in
theorem wf_X6_72 : Cond.fieldLink RX6 72 "TrayBox$Box" "depth" "I" ∈ lwT := lwT_t (List.mem_of_getElem? (i := 106) (by decide +kernel)) rfl
set_option maxRecDepth 100000 in
theorem wf_X6_75 : Cond.fieldLink RX6 75 "TrayBox$Box" "share" "I" ∈ lwT := lwT_t (List.mem_of_getElem? (i := 108) (by decide +kernel)) rfl
set_option maxRecDepth 100000 in
theorem wf_X6_78 : Cond.fieldLink RX6 78 "TrayBox$Text" "length" "I" ∈ lwT := lwT_t (List.mem_of_getElem? (i := 162) (by decide +kernel)) rfl
set_option maxRecDepth 100000 in
theorem wf_X6_86 : Cond.fieldLink RX6 86 "TrayBox$Text" "result" "LTrayBox$Box;" ∈ lwT := lwT_t (List.mem_of_getElem? (i := 166) (by decide +kernel)) rfl
set_option maxRecDepth 100000 in
theorem wf_X6_92 : Cond.fieldLink RX6 92 "TrayBox$Text" "fault" "I" ∈ lwT := lwT_t (List.mem_of_getElem? (i := 164) (by decide +kernel)) rfl
set_option maxRecDepth 100000 in
theorem wf_X6_95 : Cond.fieldLink RX6 95 "TrayBox$Box" "trays" "I" ∈ lwT := lwT_t (List.mem_of_getElem? (i := 114) (by decide +kernel)) rfl
set_option maxRecDepth 100000 in
theorem wf_X6_98 : Cond.fieldLink RX6 98 "TrayBox$Box" "row" "[LTrayBox$Tray;" ∈ lwT := lwT_t (List.mem_of_getElem? (i := 119) (by decide +kernel)) rfl
set_option maxRecDepth 100000 in
theorem wf_X7_13 : Cond.fieldLink RX7 13 "TrayBoxModel" "tops" "[I" ∈ lwT := lwT_t (List.mem_of_getElem? (i := 669) (by decide +kernel)) rfl
set_option maxRecDepth 100000 in
theorem wf_X7_130 : Cond.fieldLink RX7 130 "TrayBoxModel" "typed" "I" ∈ lwT := lwT_t (List.mem_of_getElem? (i := 673) (by decide +kernel)) rfl
set_option maxRecDepth 100000 in
theorem wf_X7_133 : Cond.fieldLink RX7 133 "TrayBoxModel" "spot" "I" ∈ lwT := lwT_t (List.mem_of_getElem? (i := 676) (by decide +kernel)) rfl
set_option maxRecDepth 100000 in
theorem wf_X7_139 : Cond.fieldLink RX7 139 "TrayBoxModel" "fault" "I" ∈ lwT := lwT_t (List.mem_of_getElem? (i := 674) (by decide +kernel)) rfl
set_option maxRecDepth 100000 in
theorem wf_X7_141 : Cond.fieldLink RX7 141 "TrayBoxModel" "faultAt" "I" ∈ lwT := lwT_t (List.mem_of_getElem? (i := 675) (by decide +kernel)) rfl
set_option maxRecDepth 100000 in
theorem wf_X7_147 : Cond.fieldLink RX7 147 "TrayBoxModel" "number" "I" ∈ lwT := lwT_t (List.mem_of_getElem? (i := 677) (by decide +kernel)) rfl
set_option maxRecDepth 100000 in
theorem wf_X7_16 : Cond.fieldLink RX7 16 "TrayBoxModel" "text" "[I" ∈ lwT := lwT_t (List.mem_of_getElem? (i := 672) (by decide +kernel)) rfl
set_option maxRecDepth 100000 in
theorem wf_X7_178 : Cond.fieldLink RX7 178 "TrayBoxModel" "placesMany" "I" ∈ lwT := lwT_t (List.mem_of_getElem? (i := 682) (by decide +kernel)) rfl
set_option maxRecDepth 100000 in
theorem wf_X7_181 : Cond.fieldLink RX7 181 "TrayBoxModel" "bestTop" "I" ∈ lwT := lwT_t (List.mem_of_getElem? (i := 681) (by decide +kernel)) rfl
set_option maxRecDepth 100000 in
theorem wf_X7_184 : Cond.fieldLink RX7 184 "TrayBoxModel" "bestX" "I" ∈ lwT := lwT_t (List.mem_of_getElem? (i := 678) (by decide +kernel)) rfl
set_option maxRecDepth 100000 in
theorem wf_X7_187 : Cond.fieldLink RX7 187 "TrayBoxModel" "bestY" "I" ∈ lwT := lwT_t (List.mem_of_getElem? (i := 679) (by decide +kernel)) rfl
set_option maxRecDepth 100000 in
theorem wf_X7_19 : Cond.fieldLink RX7 19 "TrayBoxModel" "order" "[I" ∈ lwT := lwT_t (List.mem_of_getElem? (i := 683) (by decide +kernel)) rfl
set_option maxRecDepth 100000 in
theorem wf_X7_190 : Cond.fieldLink RX7 190 "TrayBoxModel" "bestWay" "I" ∈ lwT := lwT_t (List.mem_of_getElem? (i := 680) (by decide +kernel)) rfl
set_option maxRecDepth 100000 in
theorem wf_X7_22 : Cond.fieldLink RX7 22 "TrayBoxModel" "bestOrder" "[I" ∈ lwT := lwT_t (List.mem_of_getElem? (i := 684) (by decide +kernel)) rfl
set_option maxRecDepth 100000 in
theorem wf_X7_240 : Cond.fieldLink RX7 240 "TrayBoxModel" "hash" "J" ∈ lwT := lwT_t (List.mem_of_getElem? (i := 687) (by decide +kernel)) rfl
set_option maxRecDepth 100000 in
theorem wf_X7_25 : Cond.fieldLink RX7 25 "TrayBoxModel" "bestOnes" "[I" ∈ lwT := lwT_t (List.mem_of_getElem? (i := 685) (by decide +kernel)) rfl
set_option maxRecDepth 100000 in
theorem wf_X7_28 : Cond.fieldLink RX7 28 "TrayBoxModel" "lifted" "[I" ∈ lwT := lwT_t (List.mem_of_getElem? (i := 686) (by decide +kernel)) rfl
set_option maxRecDepth 100000 in
theorem wf_X7_31 : Cond.fieldLink RX7 31 "TrayBoxModel" "backMany" "I" ∈ lwT := lwT_t (List.mem_of_getElem? (i := 668) (by decide +kernel)) rfl
set_option maxRecDepth 100000 in
theorem wf_X7_7 : Cond.fieldLink RX7 7 "TrayBoxModel" "page" "[I" ∈ lwT := lwT_t (List.mem_of_getElem? (i := 667) (by decide +kernel)) rfl
set_option maxRecDepth 100000 in
theorem wf_X7_81 : Cond.fieldLink RX7 81 "TrayBoxModel" "floorThere" "I" ∈ lwT := lwT_t (List.mem_of_getElem? (i := 670) (by decide +kernel)) rfl
set_option maxRecDepth 100000 in
theorem wf_X7_84 : Cond.fieldLink RX7 84 "TrayBoxModel" "restsThere" "I" ∈ lwT := lwT_t (List.mem_of_getElem? (i := 671) (by decide +kernel)) rfl
set_option maxRecDepth 100000 in
theorem wi_X0_above : Cond.instanceMethod yX0_above ∈ lwT := lwT_t (List.mem_of_getElem? (i := 495) (by decide +kernel)) rfl
set_option maxRecDepth 100000 in
theorem wi_X0_air : Cond.instanceMethod yX0_air ∈ lwT := lwT_t (List.mem_of_getElem? (i := 577) (by decide +kernel)) rfl
set_option maxRecDepth 100000 in
theorem wi_X0_clear : Cond.instanceMethod yX0_clear ∈ lwT := lwT_t (List.mem_of_getElem? (i := 314) (by decide +kernel)) rfl
set_option maxRecDepth 100000 in
theorem wi_X0_copyFrom : Cond.instanceMethod yX0_copyFrom ∈ lwT := lwT_t (List.mem_of_getElem? (i := 302) (by decide +kernel)) rfl
set_option maxRecDepth 100000 in
theorem wi_X0_copyTrays : Cond.instanceMethod yX0_copyTrays ∈ lwT := lwT_t (List.mem_of_getElem? (i := 306) (by decide +kernel)) rfl
set_option maxRecDepth 100000 in
theorem wi_X0_encloses : Cond.instanceMethod yX0_encloses ∈ lwT := lwT_t (List.mem_of_getElem? (i := 413) (by decide +kernel)) rfl
set_option maxRecDepth 100000 in
theorem wi_X0_faultOf : Cond.instanceMethod yX0_faultOf ∈ lwT := lwT_t (List.mem_of_getElem? (i := 499) (by decide +kernel)) rfl
set_option maxRecDepth 100000 in
theorem wi_X0_faults : Cond.instanceMethod yX0_faults ∈ lwT := lwT_t (List.mem_of_getElem? (i := 568) (by decide +kernel)) rfl
set_option maxRecDepth 100000 in
theorem wi_X0_filledHeight : Cond.instanceMethod yX0_filledHeight ∈ lwT := lwT_t (List.mem_of_getElem? (i := 572) (by decide +kernel)) rfl
set_option maxRecDepth 100000 in
theorem wi_X0_freeTrays : Cond.instanceMethod yX0_freeTrays ∈ lwT := lwT_t (List.mem_of_getElem? (i := 639) (by decide +kernel)) rfl
set_option maxRecDepth 100000 in
theorem wi_X0_has : Cond.instanceMethod yX0_has ∈ lwT := lwT_t (List.mem_of_getElem? (i := 397) (by decide +kernel)) rfl
set_option maxRecDepth 100000 in
theorem wi_X0_highestFloor : Cond.instanceMethod yX0_highestFloor ∈ lwT := lwT_t (List.mem_of_getElem? (i := 437) (by decide +kernel)) rfl
set_option maxRecDepth 100000 in
theorem wi_X0_inside : Cond.instanceMethod yX0_inside ∈ lwT := lwT_t (List.mem_of_getElem? (i := 288) (by decide +kernel)) rfl
set_option maxRecDepth 100000 in
theorem wi_X0_isFree : Cond.instanceMethod yX0_isFree ∈ lwT := lwT_t (List.mem_of_getElem? (i := 466) (by decide +kernel)) rfl
set_option maxRecDepth 100000 in
theorem wi_X0_lateOnes : Cond.instanceMethod yX0_lateOnes ∈ lwT := lwT_t (List.mem_of_getElem? (i := 506) (by decide +kernel)) rfl
set_option maxRecDepth 100000 in
theorem wi_X0_lifts : Cond.instanceMethod yX0_lifts ∈ lwT := lwT_t (List.mem_of_getElem? (i := 647) (by decide +kernel)) rfl
set_option maxRecDepth 100000 in
theorem wi_X0_lyingOn : Cond.instanceMethod yX0_lyingOn ∈ lwT := lwT_t (List.mem_of_getElem? (i := 471) (by decide +kernel)) rfl
set_option maxRecDepth 100000 in
theorem wi_X0_playedLifts : Cond.instanceMethod yX0_playedLifts ∈ lwT := lwT_t (List.mem_of_getElem? (i := 618) (by decide +kernel)) rfl
set_option maxRecDepth 100000 in
theorem wi_X0_remove : Cond.instanceMethod yX0_remove ∈ lwT := lwT_t (List.mem_of_getElem? (i := 401) (by decide +kernel)) rfl
set_option maxRecDepth 100000 in
theorem wi_X0_uppermost : Cond.instanceMethod yX0_uppermost ∈ lwT := lwT_t (List.mem_of_getElem? (i := 513) (by decide +kernel)) rfl
set_option maxRecDepth 100000 in
theorem wi_X1_holds : Cond.instanceMethod yX1_holds ∈ lwT := lwT_t (List.mem_of_getElem? (i := 445) (by decide +kernel)) rfl
set_option maxRecDepth 100000 in
theorem wi_X1_keep : Cond.instanceMethod yX1_keep ∈ lwT := lwT_t (List.mem_of_getElem? (i := 532) (by decide +kernel)) rfl
set_option maxRecDepth 100000 in
theorem wi_X1_raise : Cond.instanceMethod yX1_raise ∈ lwT := lwT_t (List.mem_of_getElem? (i := 429) (by decide +kernel)) rfl
set_option maxRecDepth 100000 in
theorem wi_X1_search : Cond.instanceMethod yX1_search ∈ lwT := lwT_t (List.mem_of_getElem? (i := 525) (by decide +kernel)) rfl
set_option maxRecDepth 100000 in
theorem wi_X1_survey : Cond.instanceMethod yX1_survey ∈ lwT := lwT_t (List.mem_of_getElem? (i := 425) (by decide +kernel)) rfl
set_option maxRecDepth 100000 in
theorem wi_X2_record : Cond.instanceMethod yX2_record ∈ lwT := lwT_t (List.mem_of_getElem? (i := 298) (by decide +kernel)) rfl
set_option maxRecDepth 100000 in
theorem wi_X2_restore : Cond.instanceMethod yX2_restore ∈ lwT := lwT_t (List.mem_of_getElem? (i := 631) (by decide +kernel)) rfl
set_option maxRecDepth 100000 in
theorem wi_X3_isTriedBetter : Cond.instanceMethod yX3_isTriedBetter ∈ lwT := lwT_t (List.mem_of_getElem? (i := 596) (by decide +kernel)) rfl
set_option maxRecDepth 100000 in
theorem wi_X3_letDownFrom : Cond.instanceMethod yX3_letDownFrom ∈ lwT := lwT_t (List.mem_of_getElem? (i := 554) (by decide +kernel)) rfl
set_option maxRecDepth 100000 in
theorem wi_X3_measure : Cond.instanceMethod yX3_measure ∈ lwT := lwT_t (List.mem_of_getElem? (i := 563) (by decide +kernel)) rfl
set_option maxRecDepth 100000 in
theorem wi_X3_packByBest : Cond.instanceMethod yX3_packByBest ∈ lwT := lwT_t (List.mem_of_getElem? (i := 591) (by decide +kernel)) rfl
set_option maxRecDepth 100000 in
theorem wi_X3_packUsually : Cond.instanceMethod yX3_packUsually ∈ lwT := lwT_t (List.mem_of_getElem? (i := 544) (by decide +kernel)) rfl
set_option maxRecDepth 100000 in
theorem wi_X3_stepToNextOrder : Cond.instanceMethod yX3_stepToNextOrder ∈ lwT := lwT_t (List.mem_of_getElem? (i := 603) (by decide +kernel)) rfl
set_option maxRecDepth 100000 in
theorem wi_X3_swap : Cond.instanceMethod yX3_swap ∈ lwT := lwT_t (List.mem_of_getElem? (i := 607) (by decide +kernel)) rfl
set_option maxRecDepth 100000 in
theorem wi_X4_append : Cond.instanceMethod yX4_append ∈ lwT := lwT_t (List.mem_of_getElem? (i := 330) (by decide +kernel)) rfl
set_option maxRecDepth 100000 in
theorem wi_X4_fail : Cond.instanceMethod yX4_fail ∈ lwT := lwT_t (List.mem_of_getElem? (i := 358) (by decide +kernel)) rfl
set_option maxRecDepth 100000 in
theorem wi_X4_next : Cond.instanceMethod yX4_next ∈ lwT := lwT_t (List.mem_of_getElem? (i := 351) (by decide +kernel)) rfl
set_option maxRecDepth 100000 in
theorem wi_X4_read : Cond.instanceMethod yX4_read ∈ lwT := lwT_t (List.mem_of_getElem? (i := 342) (by decide +kernel)) rfl
set_option maxRecDepth 100000 in
theorem wi_X4_readLid : Cond.instanceMethod yX4_readLid ∈ lwT := lwT_t (List.mem_of_getElem? (i := 376) (by decide +kernel)) rfl
set_option maxRecDepth 100000 in
theorem wi_X4_readNumber : Cond.instanceMethod yX4_readNumber ∈ lwT := lwT_t (List.mem_of_getElem? (i := 362) (by decide +kernel)) rfl
set_option maxRecDepth 100000 in
theorem wi_X4_readSign : Cond.instanceMethod yX4_readSign ∈ lwT := lwT_t (List.mem_of_getElem? (i := 367) (by decide +kernel)) rfl
set_option maxRecDepth 100000 in
theorem wi_X4_readTray : Cond.instanceMethod yX4_readTray ∈ lwT := lwT_t (List.mem_of_getElem? (i := 347) (by decide +kernel)) rfl
set_option maxRecDepth 100000 in
theorem wi_X4_readTurn : Cond.instanceMethod yX4_readTurn ∈ lwT := lwT_t (List.mem_of_getElem? (i := 380) (by decide +kernel)) rfl
set_option maxRecDepth 100000 in
theorem wi_X5_alongX : Cond.instanceMethod yX5_alongX ∈ lwT := lwT_t (List.mem_of_getElem? (i := 417) (by decide +kernel)) rfl
set_option maxRecDepth 100000 in
theorem wi_X5_alongY : Cond.instanceMethod yX5_alongY ∈ lwT := lwT_t (List.mem_of_getElem? (i := 421) (by decide +kernel)) rfl
set_option maxRecDepth 100000 in
theorem wi_X5_area : Cond.instanceMethod yX5_area ∈ lwT := lwT_t (List.mem_of_getElem? (i := 451) (by decide +kernel)) rfl
set_option maxRecDepth 100000 in
theorem wi_X5_become : Cond.instanceMethod yX5_become ∈ lwT := lwT_t (List.mem_of_getElem? (i := 370) (by decide +kernel)) rfl
set_option maxRecDepth 100000 in
theorem wi_X5_copyFrom : Cond.instanceMethod yX5_copyFrom ∈ lwT := lwT_t (List.mem_of_getElem? (i := 310) (by decide +kernel)) rfl
set_option maxRecDepth 100000 in
theorem wi_X5_covers : Cond.instanceMethod yX5_covers ∈ lwT := lwT_t (List.mem_of_getElem? (i := 517) (by decide +kernel)) rfl
set_option maxRecDepth 100000 in
theorem wi_X5_leave : Cond.instanceMethod yX5_leave ∈ lwT := lwT_t (List.mem_of_getElem? (i := 318) (by decide +kernel)) rfl
set_option maxRecDepth 100000 in
theorem wi_X5_lie : Cond.instanceMethod yX5_lie ∈ lwT := lwT_t (List.mem_of_getElem? (i := 455) (by decide +kernel)) rfl
set_option maxRecDepth 100000 in
theorem wi_X5_liesOn : Cond.instanceMethod yX5_liesOn ∈ lwT := lwT_t (List.mem_of_getElem? (i := 474) (by decide +kernel)) rfl
set_option maxRecDepth 100000 in
theorem wi_X5_property : Cond.instanceMethod yX5_property ∈ lwT := lwT_t (List.mem_of_getElem? (i := 487) (by decide +kernel)) rfl
set_option maxRecDepth 100000 in
theorem wi_X5_tall : Cond.instanceMethod yX5_tall ∈ lwT := lwT_t (List.mem_of_getElem? (i := 441) (by decide +kernel)) rfl
set_option maxRecDepth 100000 in
theorem wi_X6_count : Cond.instanceMethod yX6_count ∈ lwT := lwT_t (List.mem_of_getElem? (i := 635) (by decide +kernel)) rfl
set_option maxRecDepth 100000 in
theorem wi_X6_liftsTo : Cond.instanceMethod yX6_liftsTo ∈ lwT := lwT_t (List.mem_of_getElem? (i := 623) (by decide +kernel)) rfl
set_option maxRecDepth 100000 in
theorem wi_X6_place : Cond.instanceMethod yX6_place ∈ lwT := lwT_t (List.mem_of_getElem? (i := 521) (by decide +kernel)) rfl
set_option maxRecDepth 100000 in
theorem wi_X6_placedProperty : Cond.instanceMethod yX6_placedProperty ∈ lwT := lwT_t (List.mem_of_getElem? (i := 492) (by decide +kernel)) rfl
set_option maxRecDepth 100000 in
theorem wi_X6_seen : Cond.instanceMethod yX6_seen ∈ lwT := lwT_t (List.mem_of_getElem? (i := 509) (by decide +kernel)) rfl
set_option maxRecDepth 100000 in
theorem wi_X6_takeOverPacked : Cond.instanceMethod yX6_takeOverPacked ∈ lwT := lwT_t (List.mem_of_getElem? (i := 584) (by decide +kernel)) rfl
set_option maxRecDepth 100000 in
theorem wi_X6_tray : Cond.instanceMethod yX6_tray ∈ lwT := lwT_t (List.mem_of_getElem? (i := 483) (by decide +kernel)) rfl
set_option maxRecDepth 100000 in
theorem wi_X7_above : Cond.instanceMethod yX7_above ∈ lwT := lwT_t (List.mem_of_getElem? (i := 896) (by decide +kernel)) rfl
set_option maxRecDepth 100000 in
theorem wi_X7_air : Cond.instanceMethod yX7_air ∈ lwT := lwT_t (List.mem_of_getElem? (i := 972) (by decide +kernel)) rfl
set_option maxRecDepth 100000 in
theorem wi_X7_along : Cond.instanceMethod yX7_along ∈ lwT := lwT_t (List.mem_of_getElem? (i := 760) (by decide +kernel)) rfl
set_option maxRecDepth 100000 in
theorem wi_X7_boxHeight : Cond.instanceMethod yX7_boxHeight ∈ lwT := lwT_t (List.mem_of_getElem? (i := 968) (by decide +kernel)) rfl
set_option maxRecDepth 100000 in
theorem wi_X7_can : Cond.instanceMethod yX7_can ∈ lwT := lwT_t (List.mem_of_getElem? (i := 792) (by decide +kernel)) rfl
set_option maxRecDepth 100000 in
theorem wi_X7_comes : Cond.instanceMethod yX7_comes ∈ lwT := lwT_t (List.mem_of_getElem? (i := 804) (by decide +kernel)) rfl
set_option maxRecDepth 100000 in
theorem wi_X7_comesTo : Cond.instanceMethod yX7_comesTo ∈ lwT := lwT_t (List.mem_of_getElem? (i := 960) (by decide +kernel)) rfl
set_option maxRecDepth 100000 in
theorem wi_X7_copies : Cond.instanceMethod yX7_copies ∈ lwT := lwT_t (List.mem_of_getElem? (i := 737) (by decide +kernel)) rfl
set_option maxRecDepth 100000 in
theorem wi_X7_count : Cond.instanceMethod yX7_count ∈ lwT := lwT_t (List.mem_of_getElem? (i := 1015) (by decide +kernel)) rfl
set_option maxRecDepth 100000 in
theorem wi_X7_covers : Cond.instanceMethod yX7_covers ∈ lwT := lwT_t (List.mem_of_getElem? (i := 776) (by decide +kernel)) rfl
set_option maxRecDepth 100000 in
theorem wi_X7_empties : Cond.instanceMethod yX7_empties ∈ lwT := lwT_t (List.mem_of_getElem? (i := 872) (by decide +kernel)) rfl
set_option maxRecDepth 100000 in
theorem wi_X7_fails : Cond.instanceMethod yX7_fails ∈ lwT := lwT_t (List.mem_of_getElem? (i := 836) (by decide +kernel)) rfl
set_option maxRecDepth 100000 in
theorem wi_X7_fault : Cond.instanceMethod yX7_fault ∈ lwT := lwT_t (List.mem_of_getElem? (i := 920) (by decide +kernel)) rfl
set_option maxRecDepth 100000 in
theorem wi_X7_faults : Cond.instanceMethod yX7_faults ∈ lwT := lwT_t (List.mem_of_getElem? (i := 964) (by decide +kernel)) rfl
set_option maxRecDepth 100000 in
theorem wi_X7_finds : Cond.instanceMethod yX7_finds ∈ lwT := lwT_t (List.mem_of_getElem? (i := 936) (by decide +kernel)) rfl
set_option maxRecDepth 100000 in
theorem wi_X7_frees : Cond.instanceMethod yX7_frees ∈ lwT := lwT_t (List.mem_of_getElem? (i := 1020) (by decide +kernel)) rfl
set_option maxRecDepth 100000 in
theorem wi_X7_gets : Cond.instanceMethod yX7_gets ∈ lwT := lwT_t (List.mem_of_getElem? (i := 1008) (by decide +kernel)) rfl
set_option maxRecDepth 100000 in
theorem wi_X7_here : Cond.instanceMethod yX7_here ∈ lwT := lwT_t (List.mem_of_getElem? (i := 832) (by decide +kernel)) rfl
set_option maxRecDepth 100000 in
theorem wi_X7_high : Cond.instanceMethod yX7_high ∈ lwT := lwT_t (List.mem_of_getElem? (i := 788) (by decide +kernel)) rfl
set_option maxRecDepth 100000 in
theorem wi_X7_ifPacked : Cond.instanceMethod yX7_ifPacked ∈ lwT := lwT_t (List.mem_of_getElem? (i := 995) (by decide +kernel)) rfl
set_option maxRecDepth 100000 in
theorem wi_X7_inBox : Cond.instanceMethod yX7_inBox ∈ lwT := lwT_t (List.mem_of_getElem? (i := 868) (by decide +kernel)) rfl
set_option maxRecDepth 100000 in
theorem wi_X7_isAhead : Cond.instanceMethod yX7_isAhead ∈ lwT := lwT_t (List.mem_of_getElem? (i := 952) (by decide +kernel)) rfl
set_option maxRecDepth 100000 in
theorem wi_X7_isBetter : Cond.instanceMethod yX7_isBetter ∈ lwT := lwT_t (List.mem_of_getElem? (i := 984) (by decide +kernel)) rfl
set_option maxRecDepth 100000 in
theorem wi_X7_isDigit : Cond.instanceMethod yX7_isDigit ∈ lwT := lwT_t (List.mem_of_getElem? (i := 828) (by decide +kernel)) rfl
set_option maxRecDepth 100000 in
theorem wi_X7_isIn : Cond.instanceMethod yX7_isIn ∈ lwT := lwT_t (List.mem_of_getElem? (i := 768) (by decide +kernel)) rfl
set_option maxRecDepth 100000 in
theorem wi_X7_isInside : Cond.instanceMethod yX7_isInside ∈ lwT := lwT_t (List.mem_of_getElem? (i := 756) (by decide +kernel)) rfl
set_option maxRecDepth 100000 in
theorem wi_X7_isTray : Cond.instanceMethod yX7_isTray ∈ lwT := lwT_t (List.mem_of_getElem? (i := 745) (by decide +kernel)) rfl
set_option maxRecDepth 100000 in
theorem wi_X7_laysTops : Cond.instanceMethod yX7_laysTops ∈ lwT := lwT_t (List.mem_of_getElem? (i := 772) (by decide +kernel)) rfl
set_option maxRecDepth 100000 in
theorem wi_X7_leaves : Cond.instanceMethod yX7_leaves ∈ lwT := lwT_t (List.mem_of_getElem? (i := 840) (by decide +kernel)) rfl
set_option maxRecDepth 100000 in
theorem wi_X7_liesOn : Cond.instanceMethod yX7_liesOn ∈ lwT := lwT_t (List.mem_of_getElem? (i := 900) (by decide +kernel)) rfl
set_option maxRecDepth 100000 in
theorem wi_X7_lift : Cond.instanceMethod yX7_lift ∈ lwT := lwT_t (List.mem_of_getElem? (i := 916) (by decide +kernel)) rfl
set_option maxRecDepth 100000 in
theorem wi_X7_lifts : Cond.instanceMethod yX7_lifts ∈ lwT := lwT_t (List.mem_of_getElem? (i := 1024) (by decide +kernel)) rfl
set_option maxRecDepth 100000 in
theorem wi_X7_liftsTo : Cond.instanceMethod yX7_liftsTo ∈ lwT := lwT_t (List.mem_of_getElem? (i := 1011) (by decide +kernel)) rfl
set_option maxRecDepth 100000 in
theorem wi_X7_looksAt : Cond.instanceMethod yX7_looksAt ∈ lwT := lwT_t (List.mem_of_getElem? (i := 796) (by decide +kernel)) rfl
set_option maxRecDepth 100000 in
theorem wi_X7_meet : Cond.instanceMethod yX7_meet ∈ lwT := lwT_t (List.mem_of_getElem? (i := 904) (by decide +kernel)) rfl
set_option maxRecDepth 100000 in
theorem wi_X7_mixes : Cond.instanceMethod yX7_mixes ∈ lwT := lwT_t (List.mem_of_getElem? (i := 1034) (by decide +kernel)) rfl
set_option maxRecDepth 100000 in
theorem wi_X7_of : Cond.instanceMethod yX7_of ∈ lwT := lwT_t (List.mem_of_getElem? (i := 764) (by decide +kernel)) rfl
set_option maxRecDepth 100000 in
theorem wi_X7_ordersBest : Cond.instanceMethod yX7_ordersBest ∈ lwT := lwT_t (List.mem_of_getElem? (i := 980) (by decide +kernel)) rfl
set_option maxRecDepth 100000 in
theorem wi_X7_ordersNext : Cond.instanceMethod yX7_ordersNext ∈ lwT := lwT_t (List.mem_of_getElem? (i := 988) (by decide +kernel)) rfl
set_option maxRecDepth 100000 in
theorem wi_X7_ordersUsually : Cond.instanceMethod yX7_ordersUsually ∈ lwT := lwT_t (List.mem_of_getElem? (i := 948) (by decide +kernel)) rfl
set_option maxRecDepth 100000 in
theorem wi_X7_packs : Cond.instanceMethod yX7_packs ∈ lwT := lwT_t (List.mem_of_getElem? (i := 956) (by decide +kernel)) rfl
set_option maxRecDepth 100000 in
theorem wi_X7_place : Cond.instanceMethod yX7_place ∈ lwT := lwT_t (List.mem_of_getElem? (i := 931) (by decide +kernel)) rfl
set_option maxRecDepth 100000 in
theorem wi_X7_plays : Cond.instanceMethod yX7_plays ∈ lwT := lwT_t (List.mem_of_getElem? (i := 1004) (by decide +kernel)) rfl
set_option maxRecDepth 100000 in
theorem wi_X7_readsInto : Cond.instanceMethod yX7_readsInto ∈ lwT := lwT_t (List.mem_of_getElem? (i := 844) (by decide +kernel)) rfl
set_option maxRecDepth 100000 in
theorem wi_X7_readsNumber : Cond.instanceMethod yX7_readsNumber ∈ lwT := lwT_t (List.mem_of_getElem? (i := 848) (by decide +kernel)) rfl
set_option maxRecDepth 100000 in
theorem wi_X7_readsTray : Cond.instanceMethod yX7_readsTray ∈ lwT := lwT_t (List.mem_of_getElem? (i := 824) (by decide +kernel)) rfl
set_option maxRecDepth 100000 in
theorem wi_X7_records : Cond.instanceMethod yX7_records ∈ lwT := lwT_t (List.mem_of_getElem? (i := 800) (by decide +kernel)) rfl
set_option maxRecDepth 100000 in
theorem wi_X7_recordsKept : Cond.instanceMethod yX7_recordsKept ∈ lwT := lwT_t (List.mem_of_getElem? (i := 856) (by decide +kernel)) rfl
set_option maxRecDepth 100000 in
theorem wi_X7_rests : Cond.instanceMethod yX7_rests ∈ lwT := lwT_t (List.mem_of_getElem? (i := 924) (by decide +kernel)) rfl
set_option maxRecDepth 100000 in
theorem wi_X7_seen : Cond.instanceMethod yX7_seen ∈ lwT := lwT_t (List.mem_of_getElem? (i := 927) (by decide +kernel)) rfl
set_option maxRecDepth 100000 in
theorem wi_X7_sets : Cond.instanceMethod yX7_sets ∈ lwT := lwT_t (List.mem_of_getElem? (i := 808) (by decide +kernel)) rfl
set_option maxRecDepth 100000 in
theorem wi_X7_spans : Cond.instanceMethod yX7_spans ∈ lwT := lwT_t (List.mem_of_getElem? (i := 780) (by decide +kernel)) rfl
set_option maxRecDepth 100000 in
theorem wi_X7_swaps : Cond.instanceMethod yX7_swaps ∈ lwT := lwT_t (List.mem_of_getElem? (i := 992) (by decide +kernel)) rfl
set_option maxRecDepth 100000 in
theorem wi_X7_takes : Cond.instanceMethod yX7_takes ∈ lwT := lwT_t (List.mem_of_getElem? (i := 852) (by decide +kernel)) rfl
set_option maxRecDepth 100000 in
theorem wi_X7_top : Cond.instanceMethod yX7_top ∈ lwT := lwT_t (List.mem_of_getElem? (i := 784) (by decide +kernel)) rfl
set_option maxRecDepth 100000 in
theorem wi_X7_tray : Cond.instanceMethod yX7_tray ∈ lwT := lwT_t (List.mem_of_getElem? (i := 911) (by decide +kernel)) rfl
set_option maxRecDepth 100000 in
theorem wi_X7_trays : Cond.instanceMethod yX7_trays ∈ lwT := lwT_t (List.mem_of_getElem? (i := 749) (by decide +kernel)) rfl
set_option maxRecDepth 100000 in
theorem wk_J6_265 : Cond.constant RJ6 265 (1431655765) ∈ lwT := lwT_t (List.mem_of_getElem? (i := 294) (by decide +kernel)) rfl
set_option maxRecDepth 100000 in
theorem wk_J6_266 : Cond.constant RJ6 266 (858993459) ∈ lwT := lwT_t (List.mem_of_getElem? (i := 295) (by decide +kernel)) rfl
set_option maxRecDepth 100000 in
theorem wk_J6_267 : Cond.constant RJ6 267 (252645135) ∈ lwT := lwT_t (List.mem_of_getElem? (i := 296) (by decide +kernel)) rfl
set_option maxRecDepth 100000 in
theorem wk_X6_232 : Cond.constantLong RX6 232 (43160) ∈ lwT := lwT_t (List.mem_of_getElem? (i := 654) (by decide +kernel)) rfl
set_option maxRecDepth 100000 in
theorem wk_X6_234 : Cond.constantLong RX6 234 (31) ∈ lwT := lwT_t (List.mem_of_getElem? (i := 655) (by decide +kernel)) rfl
set_option maxRecDepth 100000 in
theorem wk_X7_238 : Cond.constantLong RX7 238 (31) ∈ lwT := lwT_t (List.mem_of_getElem? (i := 1036) (by decide +kernel)) rfl
set_option maxRecDepth 100000 in
theorem wk_X7_244 : Cond.constantLong RX7 244 (43160) ∈ lwT := lwT_t (List.mem_of_getElem? (i := 1030) (by decide +kernel)) rfl
set_option maxRecDepth 100000 in
theorem wm_X0_101 : Cond.methodLink RX0 101 yX0_filledHeight ∈ lwT := lwT_t (List.mem_of_getElem? (i := 580) (by decide +kernel)) rfl
set_option maxRecDepth 100000 in
theorem wm_X0_104 : Cond.methodLink RX0 104 yX5_area ∈ lwT := lwT_t (List.mem_of_getElem? (i := 581) (by decide +kernel)) rfl
set_option maxRecDepth 100000 in
theorem wm_X0_31 : Cond.methodLink RX0 31 yX0_copyTrays ∈ lwT := lwT_t (List.mem_of_getElem? (i := 305) (by decide +kernel)) rfl
set_option maxRecDepth 100000 in
theorem wm_X0_38 : Cond.methodLink RX0 38 yX5_copyFrom ∈ lwT := lwT_t (List.mem_of_getElem? (i := 309) (by decide +kernel)) rfl
set_option maxRecDepth 100000 in
theorem wm_X0_42 : Cond.methodLink RX0 42 yX5_leave ∈ lwT := lwT_t (List.mem_of_getElem? (i := 317) (by decide +kernel)) rfl
set_option maxRecDepth 100000 in
theorem wm_X0_45 : Cond.methodLink RX0 45 yX5_alongX ∈ lwT := lwT_t (List.mem_of_getElem? (i := 416) (by decide +kernel)) rfl
set_option maxRecDepth 100000 in
theorem wm_X0_49 : Cond.methodLink RX0 49 yX5_alongY ∈ lwT := lwT_t (List.mem_of_getElem? (i := 420) (by decide +kernel)) rfl
set_option maxRecDepth 100000 in
theorem wm_X0_52 : Cond.methodLink RX0 52 yX5_tall ∈ lwT := lwT_t (List.mem_of_getElem? (i := 440) (by decide +kernel)) rfl
set_option maxRecDepth 100000 in
theorem wm_X0_60 : Cond.methodLink RX0 60 yX5_covers ∈ lwT := lwT_t (List.mem_of_getElem? (i := 516) (by decide +kernel)) rfl
set_option maxRecDepth 100000 in
theorem wm_X0_67 : Cond.methodLink RX0 67 yX0_lyingOn ∈ lwT := lwT_t (List.mem_of_getElem? (i := 469) (by decide +kernel)) rfl
set_option maxRecDepth 100000 in
theorem wm_X0_71 : Cond.methodLink RX0 71 yX5_liesOn ∈ lwT := lwT_t (List.mem_of_getElem? (i := 473) (by decide +kernel)) rfl
set_option maxRecDepth 100000 in
theorem wm_X0_75 : Cond.methodLink RX0 75 yX0_inside ∈ lwT := lwT_t (List.mem_of_getElem? (i := 502) (by decide +kernel)) rfl
set_option maxRecDepth 100000 in
theorem wm_X0_77 : Cond.methodLink RX0 77 yX0_above ∈ lwT := lwT_t (List.mem_of_getElem? (i := 503) (by decide +kernel)) rfl
set_option maxRecDepth 100000 in
theorem wm_X0_84 : Cond.methodLink RX0 84 yX0_lateOnes ∈ lwT := lwT_t (List.mem_of_getElem? (i := 504) (by decide +kernel)) rfl
set_option maxRecDepth 100000 in
theorem wm_X0_87 : Cond.methodLink RX0 87 yJ6_bitCount_0f7a4 ∈ lwT := lwT_t (List.mem_of_getElem? (i := 621) (by decide +kernel)) rfl
set_option maxRecDepth 100000 in
theorem wm_X0_92 : Cond.methodLink RX0 92 yX0_isFree ∈ lwT := lwT_t (List.mem_of_getElem? (i := 642) (by decide +kernel)) rfl
set_option maxRecDepth 100000 in
theorem wm_X0_96 : Cond.methodLink RX0 96 yJ9_max_7cf53 ∈ lwT := lwT_t (List.mem_of_getElem? (i := 575) (by decide +kernel)) rfl
set_option maxRecDepth 100000 in
theorem wm_X1_102 : Cond.methodLink RX1 102 yX1_keep ∈ lwT := lwT_t (List.mem_of_getElem? (i := 530) (by decide +kernel)) rfl
set_option maxRecDepth 100000 in
theorem wm_X1_25 : Cond.methodLink RX1 25 yX1_raise ∈ lwT := lwT_t (List.mem_of_getElem? (i := 428) (by decide +kernel)) rfl
set_option maxRecDepth 100000 in
theorem wm_X1_44 : Cond.methodLink RX1 44 yX0_encloses ∈ lwT := lwT_t (List.mem_of_getElem? (i := 432) (by decide +kernel)) rfl
set_option maxRecDepth 100000 in
theorem wm_X1_57 : Cond.methodLink RX1 57 yJ9_max_7cf53 ∈ lwT := lwT_t (List.mem_of_getElem? (i := 433) (by decide +kernel)) rfl
set_option maxRecDepth 100000 in
theorem wm_X1_69 : Cond.methodLink RX1 69 yX5_alongX ∈ lwT := lwT_t (List.mem_of_getElem? (i := 448) (by decide +kernel)) rfl
set_option maxRecDepth 100000 in
theorem wm_X1_73 : Cond.methodLink RX1 73 yX5_alongY ∈ lwT := lwT_t (List.mem_of_getElem? (i := 449) (by decide +kernel)) rfl
set_option maxRecDepth 100000 in
theorem wm_X1_79 : Cond.methodLink RX1 79 yX5_area ∈ lwT := lwT_t (List.mem_of_getElem? (i := 450) (by decide +kernel)) rfl
set_option maxRecDepth 100000 in
theorem wm_X1_86 : Cond.methodLink RX1 86 yX0_highestFloor ∈ lwT := lwT_t (List.mem_of_getElem? (i := 528) (by decide +kernel)) rfl
set_option maxRecDepth 100000 in
theorem wm_X1_98 : Cond.methodLink RX1 98 yX1_holds ∈ lwT := lwT_t (List.mem_of_getElem? (i := 529) (by decide +kernel)) rfl
set_option maxRecDepth 100000 in
theorem wm_X2_25 : Cond.methodLink RX2 25 yX0_copyFrom ∈ lwT := lwT_t (List.mem_of_getElem? (i := 301) (by decide +kernel)) rfl
set_option maxRecDepth 100000 in
theorem wm_X3_113 : Cond.methodLink RX3 113 yX5_lie ∈ lwT := lwT_t (List.mem_of_getElem? (i := 559) (by decide +kernel)) rfl
set_option maxRecDepth 100000 in
theorem wm_X3_117 : Cond.methodLink RX3 117 yX1_raise ∈ lwT := lwT_t (List.mem_of_getElem? (i := 560) (by decide +kernel)) rfl
set_option maxRecDepth 100000 in
theorem wm_X3_121 : Cond.methodLink RX3 121 yX0_inside ∈ lwT := lwT_t (List.mem_of_getElem? (i := 565) (by decide +kernel)) rfl
set_option maxRecDepth 100000 in
theorem wm_X3_124 : Cond.methodLink RX3 124 yJ6_bitCount_0f7a4 ∈ lwT := lwT_t (List.mem_of_getElem? (i := 566) (by decide +kernel)) rfl
set_option maxRecDepth 100000 in
theorem wm_X3_130 : Cond.methodLink RX3 130 yX0_faults ∈ lwT := lwT_t (List.mem_of_getElem? (i := 567) (by decide +kernel)) rfl
set_option maxRecDepth 100000 in
theorem wm_X3_133 : Cond.methodLink RX3 133 yX0_filledHeight ∈ lwT := lwT_t (List.mem_of_getElem? (i := 571) (by decide +kernel)) rfl
set_option maxRecDepth 100000 in
theorem wm_X3_136 : Cond.methodLink RX3 136 yX0_air ∈ lwT := lwT_t (List.mem_of_getElem? (i := 576) (by decide +kernel)) rfl
set_option maxRecDepth 100000 in
theorem wm_X3_139 : Cond.methodLink RX3 139 yX3_swap ∈ lwT := lwT_t (List.mem_of_getElem? (i := 605) (by decide +kernel)) rfl
set_option maxRecDepth 100000 in
theorem wm_X3_38 : Cond.methodLink RX3 38 yX0_copyFrom ∈ lwT := lwT_t (List.mem_of_getElem? (i := 547) (by decide +kernel)) rfl
set_option maxRecDepth 100000 in
theorem wm_X3_50 : Cond.methodLink RX3 50 yX3_isBefore ∈ lwT := lwT_t (List.mem_of_getElem? (i := 548) (by decide +kernel)) rfl
set_option maxRecDepth 100000 in
theorem wm_X3_54 : Cond.methodLink RX3 54 yX3_letDownFrom ∈ lwT := lwT_t (List.mem_of_getElem? (i := 552) (by decide +kernel)) rfl
set_option maxRecDepth 100000 in
theorem wm_X3_58 : Cond.methodLink RX3 58 yX3_measure ∈ lwT := lwT_t (List.mem_of_getElem? (i := 561) (by decide +kernel)) rfl
set_option maxRecDepth 100000 in
theorem wm_X3_67 : Cond.methodLink RX3 67 yX5_area ∈ lwT := lwT_t (List.mem_of_getElem? (i := 551) (by decide +kernel)) rfl
set_option maxRecDepth 100000 in
theorem wm_X3_71 : Cond.methodLink RX3 71 yX3_isTriedBetter ∈ lwT := lwT_t (List.mem_of_getElem? (i := 594) (by decide +kernel)) rfl
set_option maxRecDepth 100000 in
theorem wm_X3_75 : Cond.methodLink RX3 75 arraycopyName ∈ lwT := lwT_t (List.mem_of_getElem? (i := 598) (by decide +kernel)) rfl
set_option maxRecDepth 100000 in
theorem wm_X3_81 : Cond.methodLink RX3 81 yX3_stepToNextOrder ∈ lwT := lwT_t (List.mem_of_getElem? (i := 601) (by decide +kernel)) rfl
set_option maxRecDepth 100000 in
theorem wm_X3_84 : Cond.methodLink RX3 84 yX5_leave ∈ lwT := lwT_t (List.mem_of_getElem? (i := 556) (by decide +kernel)) rfl
set_option maxRecDepth 100000 in
theorem wm_X3_87 : Cond.methodLink RX3 87 yX1_survey ∈ lwT := lwT_t (List.mem_of_getElem? (i := 557) (by decide +kernel)) rfl
set_option maxRecDepth 100000 in
theorem wm_X3_90 : Cond.methodLink RX3 90 yX1_search ∈ lwT := lwT_t (List.mem_of_getElem? (i := 558) (by decide +kernel)) rfl
set_option maxRecDepth 100000 in
theorem wm_X4_35 : Cond.methodLink RX4 35 yX4_readTray ∈ lwT := lwT_t (List.mem_of_getElem? (i := 345) (by decide +kernel)) rfl
set_option maxRecDepth 100000 in
theorem wm_X4_39 : Cond.methodLink RX4 39 yX4_next ∈ lwT := lwT_t (List.mem_of_getElem? (i := 349) (by decide +kernel)) rfl
set_option maxRecDepth 100000 in
theorem wm_X4_43 : Cond.methodLink RX4 43 yX4_isDigit ∈ lwT := lwT_t (List.mem_of_getElem? (i := 353) (by decide +kernel)) rfl
set_option maxRecDepth 100000 in
theorem wm_X4_47 : Cond.methodLink RX4 47 yX4_fail ∈ lwT := lwT_t (List.mem_of_getElem? (i := 356) (by decide +kernel)) rfl
set_option maxRecDepth 100000 in
theorem wm_X4_51 : Cond.methodLink RX4 51 yX4_readNumber ∈ lwT := lwT_t (List.mem_of_getElem? (i := 360) (by decide +kernel)) rfl
set_option maxRecDepth 100000 in
theorem wm_X4_58 : Cond.methodLink RX4 58 yX4_readSign ∈ lwT := lwT_t (List.mem_of_getElem? (i := 365) (by decide +kernel)) rfl
set_option maxRecDepth 100000 in
theorem wm_X4_65 : Cond.methodLink RX4 65 yX5_become ∈ lwT := lwT_t (List.mem_of_getElem? (i := 369) (by decide +kernel)) rfl
set_option maxRecDepth 100000 in
theorem wm_X4_71 : Cond.methodLink RX4 71 yX4_readLid ∈ lwT := lwT_t (List.mem_of_getElem? (i := 374) (by decide +kernel)) rfl
set_option maxRecDepth 100000 in
theorem wm_X4_75 : Cond.methodLink RX4 75 yX4_readTurn ∈ lwT := lwT_t (List.mem_of_getElem? (i := 378) (by decide +kernel)) rfl
set_option maxRecDepth 100000 in
theorem wm_X5_25 : Cond.methodLink RX5 25 yX5_leave ∈ lwT := lwT_t (List.mem_of_getElem? (i := 373) (by decide +kernel)) rfl
set_option maxRecDepth 100000 in
theorem wm_X5_56 : Cond.methodLink RX5 56 yX5_alongX ∈ lwT := lwT_t (List.mem_of_getElem? (i := 458) (by decide +kernel)) rfl
set_option maxRecDepth 100000 in
theorem wm_X5_60 : Cond.methodLink RX5 60 yX5_alongY ∈ lwT := lwT_t (List.mem_of_getElem? (i := 459) (by decide +kernel)) rfl
set_option maxRecDepth 100000 in
theorem wm_X5_63 : Cond.methodLink RX5 63 yX5_tall ∈ lwT := lwT_t (List.mem_of_getElem? (i := 460) (by decide +kernel)) rfl
set_option maxRecDepth 100000 in
theorem wm_X6_102 : Cond.methodLink RX6 102 yX5_become ∈ lwT := lwT_t (List.mem_of_getElem? (i := 391) (by decide +kernel)) rfl
set_option maxRecDepth 100000 in
theorem wm_X6_108 : Cond.methodLink RX6 108 yX0_has ∈ lwT := lwT_t (List.mem_of_getElem? (i := 396) (by decide +kernel)) rfl
set_option maxRecDepth 100000 in
theorem wm_X6_115 : Cond.methodLink RX6 115 yX0_remove ∈ lwT := lwT_t (List.mem_of_getElem? (i := 400) (by decide +kernel)) rfl
set_option maxRecDepth 100000 in
theorem wm_X6_125 : Cond.methodLink RX6 125 yX0_encloses ∈ lwT := lwT_t (List.mem_of_getElem? (i := 412) (by decide +kernel)) rfl
set_option maxRecDepth 100000 in
theorem wm_X6_129 : Cond.methodLink RX6 129 yX1_survey ∈ lwT := lwT_t (List.mem_of_getElem? (i := 424) (by decide +kernel)) rfl
set_option maxRecDepth 100000 in
theorem wm_X6_132 : Cond.methodLink RX6 132 yX0_highestFloor ∈ lwT := lwT_t (List.mem_of_getElem? (i := 436) (by decide +kernel)) rfl
set_option maxRecDepth 100000 in
theorem wm_X6_136 : Cond.methodLink RX6 136 yX1_holds ∈ lwT := lwT_t (List.mem_of_getElem? (i := 444) (by decide +kernel)) rfl
set_option maxRecDepth 100000 in
theorem wm_X6_146 : Cond.methodLink RX6 146 yX5_lie ∈ lwT := lwT_t (List.mem_of_getElem? (i := 454) (by decide +kernel)) rfl
set_option maxRecDepth 100000 in
theorem wm_X6_151 : Cond.methodLink RX6 151 yX0_isFree ∈ lwT := lwT_t (List.mem_of_getElem? (i := 465) (by decide +kernel)) rfl
set_option maxRecDepth 100000 in
theorem wm_X6_154 : Cond.methodLink RX6 154 yX5_leave ∈ lwT := lwT_t (List.mem_of_getElem? (i := 477) (by decide +kernel)) rfl
set_option maxRecDepth 100000 in
theorem wm_X6_157 : Cond.methodLink RX6 157 yX5_property ∈ lwT := lwT_t (List.mem_of_getElem? (i := 486) (by decide +kernel)) rfl
set_option maxRecDepth 100000 in
theorem wm_X6_160 : Cond.methodLink RX6 160 yX6_placedProperty ∈ lwT := lwT_t (List.mem_of_getElem? (i := 490) (by decide +kernel)) rfl
set_option maxRecDepth 100000 in
theorem wm_X6_164 : Cond.methodLink RX6 164 yX0_uppermost ∈ lwT := lwT_t (List.mem_of_getElem? (i := 512) (by decide +kernel)) rfl
set_option maxRecDepth 100000 in
theorem wm_X6_170 : Cond.methodLink RX6 170 yX1_search ∈ lwT := lwT_t (List.mem_of_getElem? (i := 524) (by decide +kernel)) rfl
set_option maxRecDepth 100000 in
theorem wm_X6_189 : Cond.methodLink RX6 189 yX5_tall ∈ lwT := lwT_t (List.mem_of_getElem? (i := 534) (by decide +kernel)) rfl
set_option maxRecDepth 100000 in
theorem wm_X6_192 : Cond.methodLink RX6 192 yX3_packUsually ∈ lwT := lwT_t (List.mem_of_getElem? (i := 543) (by decide +kernel)) rfl
set_option maxRecDepth 100000 in
theorem wm_X6_195 : Cond.methodLink RX6 195 yX6_takeOverPacked ∈ lwT := lwT_t (List.mem_of_getElem? (i := 582) (by decide +kernel)) rfl
set_option maxRecDepth 100000 in
theorem wm_X6_198 : Cond.methodLink RX6 198 yX3_packByBest ∈ lwT := lwT_t (List.mem_of_getElem? (i := 590) (by decide +kernel)) rfl
set_option maxRecDepth 100000 in
theorem wm_X6_208 : Cond.methodLink RX6 208 yX0_playedLifts ∈ lwT := lwT_t (List.mem_of_getElem? (i := 617) (by decide +kernel)) rfl
set_option maxRecDepth 100000 in
theorem wm_X6_214 : Cond.methodLink RX6 214 yX2_restore ∈ lwT := lwT_t (List.mem_of_getElem? (i := 630) (by decide +kernel)) rfl
set_option maxRecDepth 100000 in
theorem wm_X6_217 : Cond.methodLink RX6 217 yX0_freeTrays ∈ lwT := lwT_t (List.mem_of_getElem? (i := 638) (by decide +kernel)) rfl
set_option maxRecDepth 100000 in
theorem wm_X6_220 : Cond.methodLink RX6 220 yX0_filledHeight ∈ lwT := lwT_t (List.mem_of_getElem? (i := 643) (by decide +kernel)) rfl
set_option maxRecDepth 100000 in
theorem wm_X6_223 : Cond.methodLink RX6 223 yX0_air ∈ lwT := lwT_t (List.mem_of_getElem? (i := 644) (by decide +kernel)) rfl
set_option maxRecDepth 100000 in
theorem wm_X6_226 : Cond.methodLink RX6 226 yX0_faults ∈ lwT := lwT_t (List.mem_of_getElem? (i := 645) (by decide +kernel)) rfl
set_option maxRecDepth 100000 in
theorem wm_X6_229 : Cond.methodLink RX6 229 yX0_lifts ∈ lwT := lwT_t (List.mem_of_getElem? (i := 646) (by decide +kernel)) rfl
set_option maxRecDepth 100000 in
theorem wm_X6_236 : Cond.methodLink RX6 236 yX6_count ∈ lwT := lwT_t (List.mem_of_getElem? (i := 656) (by decide +kernel)) rfl
set_option maxRecDepth 100000 in
theorem wm_X6_239 : Cond.methodLink RX6 239 yX6_tray ∈ lwT := lwT_t (List.mem_of_getElem? (i := 657) (by decide +kernel)) rfl
set_option maxRecDepth 100000 in
theorem wm_X6_242 : Cond.methodLink RX6 242 yX6_place ∈ lwT := lwT_t (List.mem_of_getElem? (i := 658) (by decide +kernel)) rfl
set_option maxRecDepth 100000 in
theorem wm_X6_245 : Cond.methodLink RX6 245 yX6_seen ∈ lwT := lwT_t (List.mem_of_getElem? (i := 659) (by decide +kernel)) rfl
set_option maxRecDepth 100000 in
theorem wm_X6_249 : Cond.methodLink RX6 249 yX6_liftsTo ∈ lwT := lwT_t (List.mem_of_getElem? (i := 660) (by decide +kernel)) rfl
set_option maxRecDepth 100000 in
theorem wm_X6_258 : Cond.methodLink RX6 258 yX0_above ∈ lwT := lwT_t (List.mem_of_getElem? (i := 494) (by decide +kernel)) rfl
set_option maxRecDepth 100000 in
theorem wm_X6_261 : Cond.methodLink RX6 261 yX0_faultOf ∈ lwT := lwT_t (List.mem_of_getElem? (i := 498) (by decide +kernel)) rfl
set_option maxRecDepth 100000 in
theorem wm_X6_44 : Cond.methodLink RX6 44 yX6_isWithin ∈ lwT := lwT_t (List.mem_of_getElem? (i := 284) (by decide +kernel)) rfl
set_option maxRecDepth 100000 in
theorem wm_X6_48 : Cond.methodLink RX6 48 yX0_inside ∈ lwT := lwT_t (List.mem_of_getElem? (i := 287) (by decide +kernel)) rfl
set_option maxRecDepth 100000 in
theorem wm_X6_52 : Cond.methodLink RX6 52 yJ6_bitCount_0f7a4 ∈ lwT := lwT_t (List.mem_of_getElem? (i := 291) (by decide +kernel)) rfl
set_option maxRecDepth 100000 in
theorem wm_X6_58 : Cond.methodLink RX6 58 yX2_record ∈ lwT := lwT_t (List.mem_of_getElem? (i := 297) (by decide +kernel)) rfl
set_option maxRecDepth 100000 in
theorem wm_X6_62 : Cond.methodLink RX6 62 yX0_clear ∈ lwT := lwT_t (List.mem_of_getElem? (i := 313) (by decide +kernel)) rfl
set_option maxRecDepth 100000 in
theorem wm_X6_79 : Cond.methodLink RX6 79 yX4_append ∈ lwT := lwT_t (List.mem_of_getElem? (i := 329) (by decide +kernel)) rfl
set_option maxRecDepth 100000 in
theorem wm_X6_83 : Cond.methodLink RX6 83 yX4_read ∈ lwT := lwT_t (List.mem_of_getElem? (i := 341) (by decide +kernel)) rfl
set_option maxRecDepth 100000 in
theorem wm_X6_89 : Cond.methodLink RX6 89 yX0_copyTrays ∈ lwT := lwT_t (List.mem_of_getElem? (i := 382) (by decide +kernel)) rfl
set_option maxRecDepth 100000 in
theorem wm_X7_101 : Cond.methodLink RX7 101 yX7_can ∈ lwT := lwT_t (List.mem_of_getElem? (i := 790) (by decide +kernel)) rfl
set_option maxRecDepth 100000 in
theorem wm_X7_104 : Cond.methodLink RX7 104 yX7_records ∈ lwT := lwT_t (List.mem_of_getElem? (i := 798) (by decide +kernel)) rfl
set_option maxRecDepth 100000 in
theorem wm_X7_107 : Cond.methodLink RX7 107 yX7_comes ∈ lwT := lwT_t (List.mem_of_getElem? (i := 802) (by decide +kernel)) rfl
set_option maxRecDepth 100000 in
theorem wm_X7_111 : Cond.methodLink RX7 111 yX7_meet ∈ lwT := lwT_t (List.mem_of_getElem? (i := 902) (by decide +kernel)) rfl
set_option maxRecDepth 100000 in
theorem wm_X7_115 : Cond.methodLink RX7 115 yX7_liesOn ∈ lwT := lwT_t (List.mem_of_getElem? (i := 898) (by decide +kernel)) rfl
set_option maxRecDepth 100000 in
theorem wm_X7_118 : Cond.methodLink RX7 118 yX7_above ∈ lwT := lwT_t (List.mem_of_getElem? (i := 894) (by decide +kernel)) rfl
set_option maxRecDepth 100000 in
theorem wm_X7_121 : Cond.methodLink RX7 121 yX7_fault ∈ lwT := lwT_t (List.mem_of_getElem? (i := 918) (by decide +kernel)) rfl
set_option maxRecDepth 100000 in
theorem wm_X7_124 : Cond.methodLink RX7 124 yX7_lift ∈ lwT := lwT_t (List.mem_of_getElem? (i := 914) (by decide +kernel)) rfl
set_option maxRecDepth 100000 in
theorem wm_X7_127 : Cond.methodLink RX7 127 yX7_boxHeight ∈ lwT := lwT_t (List.mem_of_getElem? (i := 966) (by decide +kernel)) rfl
set_option maxRecDepth 100000 in
theorem wm_X7_136 : Cond.methodLink RX7 136 yX7_here ∈ lwT := lwT_t (List.mem_of_getElem? (i := 830) (by decide +kernel)) rfl
set_option maxRecDepth 100000 in
theorem wm_X7_144 : Cond.methodLink RX7 144 yX7_fails ∈ lwT := lwT_t (List.mem_of_getElem? (i := 834) (by decide +kernel)) rfl
set_option maxRecDepth 100000 in
theorem wm_X7_150 : Cond.methodLink RX7 150 yX7_isDigit ∈ lwT := lwT_t (List.mem_of_getElem? (i := 826) (by decide +kernel)) rfl
set_option maxRecDepth 100000 in
theorem wm_X7_154 : Cond.methodLink RX7 154 yX7_readsNumber ∈ lwT := lwT_t (List.mem_of_getElem? (i := 846) (by decide +kernel)) rfl
set_option maxRecDepth 100000 in
theorem wm_X7_157 : Cond.methodLink RX7 157 yX7_readsInto ∈ lwT := lwT_t (List.mem_of_getElem? (i := 842) (by decide +kernel)) rfl
set_option maxRecDepth 100000 in
theorem wm_X7_160 : Cond.methodLink RX7 160 yX7_takes ∈ lwT := lwT_t (List.mem_of_getElem? (i := 850) (by decide +kernel)) rfl
set_option maxRecDepth 100000 in
theorem wm_X7_163 : Cond.methodLink RX7 163 yX7_readsTray ∈ lwT := lwT_t (List.mem_of_getElem? (i := 822) (by decide +kernel)) rfl
set_option maxRecDepth 100000 in
theorem wm_X7_166 : Cond.methodLink RX7 166 yX7_recordsKept ∈ lwT := lwT_t (List.mem_of_getElem? (i := 854) (by decide +kernel)) rfl
set_option maxRecDepth 100000 in
theorem wm_X7_169 : Cond.methodLink RX7 169 yX7_inBox ∈ lwT := lwT_t (List.mem_of_getElem? (i := 866) (by decide +kernel)) rfl
set_option maxRecDepth 100000 in
theorem wm_X7_172 : Cond.methodLink RX7 172 yX7_empties ∈ lwT := lwT_t (List.mem_of_getElem? (i := 870) (by decide +kernel)) rfl
set_option maxRecDepth 100000 in
theorem wm_X7_175 : Cond.methodLink RX7 175 yX7_rests ∈ lwT := lwT_t (List.mem_of_getElem? (i := 922) (by decide +kernel)) rfl
set_option maxRecDepth 100000 in
theorem wm_X7_193 : Cond.methodLink RX7 193 yX7_finds ∈ lwT := lwT_t (List.mem_of_getElem? (i := 934) (by decide +kernel)) rfl
set_option maxRecDepth 100000 in
theorem wm_X7_196 : Cond.methodLink RX7 196 yX7_isAhead ∈ lwT := lwT_t (List.mem_of_getElem? (i := 950) (by decide +kernel)) rfl
set_option maxRecDepth 100000 in
theorem wm_X7_199 : Cond.methodLink RX7 199 yX7_swaps ∈ lwT := lwT_t (List.mem_of_getElem? (i := 990) (by decide +kernel)) rfl
set_option maxRecDepth 100000 in
theorem wm_X7_202 : Cond.methodLink RX7 202 yX7_faults ∈ lwT := lwT_t (List.mem_of_getElem? (i := 962) (by decide +kernel)) rfl
set_option maxRecDepth 100000 in
theorem wm_X7_205 : Cond.methodLink RX7 205 yX7_air ∈ lwT := lwT_t (List.mem_of_getElem? (i := 970) (by decide +kernel)) rfl
set_option maxRecDepth 100000 in
theorem wm_X7_208 : Cond.methodLink RX7 208 yX7_comesTo ∈ lwT := lwT_t (List.mem_of_getElem? (i := 958) (by decide +kernel)) rfl
set_option maxRecDepth 100000 in
theorem wm_X7_211 : Cond.methodLink RX7 211 yX7_packs ∈ lwT := lwT_t (List.mem_of_getElem? (i := 954) (by decide +kernel)) rfl
set_option maxRecDepth 100000 in
theorem wm_X7_214 : Cond.methodLink RX7 214 yX7_isBetter ∈ lwT := lwT_t (List.mem_of_getElem? (i := 982) (by decide +kernel)) rfl
set_option maxRecDepth 100000 in
theorem wm_X7_217 : Cond.methodLink RX7 217 yX7_ordersNext ∈ lwT := lwT_t (List.mem_of_getElem? (i := 986) (by decide +kernel)) rfl
set_option maxRecDepth 100000 in
theorem wm_X7_220 : Cond.methodLink RX7 220 yX7_ordersUsually ∈ lwT := lwT_t (List.mem_of_getElem? (i := 946) (by decide +kernel)) rfl
set_option maxRecDepth 100000 in
theorem wm_X7_223 : Cond.methodLink RX7 223 yX7_ordersBest ∈ lwT := lwT_t (List.mem_of_getElem? (i := 978) (by decide +kernel)) rfl
set_option maxRecDepth 100000 in
theorem wm_X7_226 : Cond.methodLink RX7 226 yX7_gets ∈ lwT := lwT_t (List.mem_of_getElem? (i := 1006) (by decide +kernel)) rfl
set_option maxRecDepth 100000 in
theorem wm_X7_229 : Cond.methodLink RX7 229 yX7_plays ∈ lwT := lwT_t (List.mem_of_getElem? (i := 1002) (by decide +kernel)) rfl
set_option maxRecDepth 100000 in
theorem wm_X7_232 : Cond.methodLink RX7 232 yX7_frees ∈ lwT := lwT_t (List.mem_of_getElem? (i := 1018) (by decide +kernel)) rfl
set_option maxRecDepth 100000 in
theorem wm_X7_235 : Cond.methodLink RX7 235 yX7_lifts ∈ lwT := lwT_t (List.mem_of_getElem? (i := 1022) (by decide +kernel)) rfl
set_option maxRecDepth 100000 in
theorem wm_X7_246 : Cond.methodLink RX7 246 yX7_count ∈ lwT := lwT_t (List.mem_of_getElem? (i := 1031) (by decide +kernel)) rfl
set_option maxRecDepth 100000 in
theorem wm_X7_249 : Cond.methodLink RX7 249 yX7_mixes ∈ lwT := lwT_t (List.mem_of_getElem? (i := 1032) (by decide +kernel)) rfl
set_option maxRecDepth 100000 in
theorem wm_X7_252 : Cond.methodLink RX7 252 yX7_tray ∈ lwT := lwT_t (List.mem_of_getElem? (i := 1037) (by decide +kernel)) rfl
set_option maxRecDepth 100000 in
theorem wm_X7_255 : Cond.methodLink RX7 255 yX7_place ∈ lwT := lwT_t (List.mem_of_getElem? (i := 1038) (by decide +kernel)) rfl
set_option maxRecDepth 100000 in
theorem wm_X7_258 : Cond.methodLink RX7 258 yX7_seen ∈ lwT := lwT_t (List.mem_of_getElem? (i := 1039) (by decide +kernel)) rfl
set_option maxRecDepth 100000 in
theorem wm_X7_262 : Cond.methodLink RX7 262 yX7_ifPacked ∈ lwT := lwT_t (List.mem_of_getElem? (i := 1040) (by decide +kernel)) rfl
set_option maxRecDepth 100000 in
theorem wm_X7_266 : Cond.methodLink RX7 266 yX7_liftsTo ∈ lwT := lwT_t (List.mem_of_getElem? (i := 1041) (by decide +kernel)) rfl
set_option maxRecDepth 100000 in
theorem wm_X7_35 : Cond.methodLink RX7 35 yX7_copies ∈ lwT := lwT_t (List.mem_of_getElem? (i := 735) (by decide +kernel)) rfl
set_option maxRecDepth 100000 in
theorem wm_X7_39 : Cond.methodLink RX7 39 yX7_trays ∈ lwT := lwT_t (List.mem_of_getElem? (i := 747) (by decide +kernel)) rfl
set_option maxRecDepth 100000 in
theorem wm_X7_43 : Cond.methodLink RX7 43 yX7_in ∈ lwT := lwT_t (List.mem_of_getElem? (i := 751) (by decide +kernel)) rfl
set_option maxRecDepth 100000 in
theorem wm_X7_47 : Cond.methodLink RX7 47 yX7_of ∈ lwT := lwT_t (List.mem_of_getElem? (i := 762) (by decide +kernel)) rfl
set_option maxRecDepth 100000 in
theorem wm_X7_51 : Cond.methodLink RX7 51 yX7_high ∈ lwT := lwT_t (List.mem_of_getElem? (i := 786) (by decide +kernel)) rfl
set_option maxRecDepth 100000 in
theorem wm_X7_55 : Cond.methodLink RX7 55 yX7_along ∈ lwT := lwT_t (List.mem_of_getElem? (i := 758) (by decide +kernel)) rfl
set_option maxRecDepth 100000 in
theorem wm_X7_59 : Cond.methodLink RX7 59 yX7_spans ∈ lwT := lwT_t (List.mem_of_getElem? (i := 778) (by decide +kernel)) rfl
set_option maxRecDepth 100000 in
theorem wm_X7_63 : Cond.methodLink RX7 63 yX7_sets ∈ lwT := lwT_t (List.mem_of_getElem? (i := 806) (by decide +kernel)) rfl
set_option maxRecDepth 100000 in
theorem wm_X7_67 : Cond.methodLink RX7 67 yX7_leaves ∈ lwT := lwT_t (List.mem_of_getElem? (i := 838) (by decide +kernel)) rfl
set_option maxRecDepth 100000 in
theorem wm_X7_71 : Cond.methodLink RX7 71 yX7_isIn ∈ lwT := lwT_t (List.mem_of_getElem? (i := 766) (by decide +kernel)) rfl
set_option maxRecDepth 100000 in
theorem wm_X7_75 : Cond.methodLink RX7 75 yX7_covers ∈ lwT := lwT_t (List.mem_of_getElem? (i := 774) (by decide +kernel)) rfl
set_option maxRecDepth 100000 in
theorem wm_X7_78 : Cond.methodLink RX7 78 yX7_top ∈ lwT := lwT_t (List.mem_of_getElem? (i := 782) (by decide +kernel)) rfl
set_option maxRecDepth 100000 in
theorem wm_X7_87 : Cond.methodLink RX7 87 yX7_looksAt ∈ lwT := lwT_t (List.mem_of_getElem? (i := 794) (by decide +kernel)) rfl
set_option maxRecDepth 100000 in
theorem wm_X7_91 : Cond.methodLink RX7 91 yX7_laysTops ∈ lwT := lwT_t (List.mem_of_getElem? (i := 770) (by decide +kernel)) rfl
set_option maxRecDepth 100000 in
theorem wm_X7_94 : Cond.methodLink RX7 94 yX7_isTray ∈ lwT := lwT_t (List.mem_of_getElem? (i := 743) (by decide +kernel)) rfl
set_option maxRecDepth 100000 in
theorem wm_X7_97 : Cond.methodLink RX7 97 yX7_isInside ∈ lwT := lwT_t (List.mem_of_getElem? (i := 754) (by decide +kernel)) rfl
set_option maxRecDepth 100000 in
theorem wn_J6 : Cond.initialized RJ6 ∈ lwT := lwT_t (List.mem_of_getElem? (i := 9) (by decide +kernel)) rfl
set_option maxRecDepth 100000 in
theorem wn_J9 : Cond.initialized RJ9 ∈ lwT := lwT_t (List.mem_of_getElem? (i := 10) (by decide +kernel)) rfl
set_option maxRecDepth 100000 in
theorem wn_Sys : Cond.initialized "java/lang/System" ∈ lwT := lwT_t (List.mem_of_getElem? (i := 11) (by decide +kernel)) rfl
set_option maxRecDepth 100000 in
theorem wn_X0 : Cond.initialized RX0 ∈ lwT := lwT_t (List.mem_of_getElem? (i := 2) (by decide +kernel)) rfl
set_option maxRecDepth 100000 in
theorem wn_X1 : Cond.initialized RX1 ∈ lwT := lwT_t (List.mem_of_getElem? (i := 6) (by decide +kernel)) rfl
set_option maxRecDepth 100000 in
theorem wn_X2 : Cond.initialized RX2 ∈ lwT := lwT_t (List.mem_of_getElem? (i := 4) (by decide +kernel)) rfl
set_option maxRecDepth 100000 in
theorem wn_X3 : Cond.initialized RX3 ∈ lwT := lwT_t (List.mem_of_getElem? (i := 7) (by decide +kernel)) rfl
set_option maxRecDepth 100000 in
theorem wn_X4 : Cond.initialized RX4 ∈ lwT := lwT_t (List.mem_of_getElem? (i := 5) (by decide +kernel)) rfl
set_option maxRecDepth 100000 in
theorem wn_X5 : Cond.initialized RX5 ∈ lwT := lwT_t (List.mem_of_getElem? (i := 3) (by decide +kernel)) rfl
set_option maxRecDepth 100000 in
theorem wn_X6 : Cond.initialized RX6 ∈ lwT := lwT_t (List.mem_of_getElem? (i := 1) (by decide +kernel)) rfl
set_option maxRecDepth 100000 in
theorem wn_X7 : Cond.initialized RX7 ∈ lwT := lwT_t (List.mem_of_getElem? (i := 8) (by decide +kernel)) rfl
set_option maxRecDepth 100000 in
theorem wnat_acopy : Cond.native arraycopyName ∈ lwT := lwT_t (List.mem_of_getElem? (i := 600) (by decide +kernel)) rfl
set_option maxRecDepth 100000 in
theorem ws_X0_above : Cond.selects RX0 yX0_above yX0_above ∈ lwT := lwT_t (List.mem_of_getElem? (i := 496) (by decide +kernel)) rfl
set_option maxRecDepth 100000 in
theorem ws_X0_air : Cond.selects RX0 yX0_air yX0_air ∈ lwT := lwT_t (List.mem_of_getElem? (i := 578) (by decide +kernel)) rfl
set_option maxRecDepth 100000 in
theorem ws_X0_clear : Cond.selects RX0 yX0_clear yX0_clear ∈ lwT := lwT_t (List.mem_of_getElem? (i := 315) (by decide +kernel)) rfl
set_option maxRecDepth 100000 in
theorem ws_X0_copyFrom : Cond.selects RX0 yX0_copyFrom yX0_copyFrom ∈ lwT := lwT_t (List.mem_of_getElem? (i := 303) (by decide +kernel)) rfl
set_option maxRecDepth 100000 in
theorem ws_X0_copyTrays : Cond.selects RX0 yX0_copyTrays yX0_copyTrays ∈ lwT := lwT_t (List.mem_of_getElem? (i := 307) (by decide +kernel)) rfl
set_option maxRecDepth 100000 in
theorem ws_X0_encloses : Cond.selects RX0 yX0_encloses yX0_encloses ∈ lwT := lwT_t (List.mem_of_getElem? (i := 414) (by decide +kernel)) rfl
set_option maxRecDepth 100000 in
theorem ws_X0_faultOf : Cond.selects RX0 yX0_faultOf yX0_faultOf ∈ lwT := lwT_t (List.mem_of_getElem? (i := 500) (by decide +kernel)) rfl
set_option maxRecDepth 100000 in
theorem ws_X0_faults : Cond.selects RX0 yX0_faults yX0_faults ∈ lwT := lwT_t (List.mem_of_getElem? (i := 569) (by decide +kernel)) rfl
set_option maxRecDepth 100000 in
theorem ws_X0_filledHeight : Cond.selects RX0 yX0_filledHeight yX0_filledHeight ∈ lwT := lwT_t (List.mem_of_getElem? (i := 573) (by decide +kernel)) rfl
set_option maxRecDepth 100000 in
theorem ws_X0_freeTrays : Cond.selects RX0 yX0_freeTrays yX0_freeTrays ∈ lwT := lwT_t (List.mem_of_getElem? (i := 640) (by decide +kernel)) rfl
set_option maxRecDepth 100000 in
theorem ws_X0_has : Cond.selects RX0 yX0_has yX0_has ∈ lwT := lwT_t (List.mem_of_getElem? (i := 398) (by decide +kernel)) rfl
set_option maxRecDepth 100000 in
theorem ws_X0_highestFloor : Cond.selects RX0 yX0_highestFloor yX0_highestFloor ∈ lwT := lwT_t (List.mem_of_getElem? (i := 438) (by decide +kernel)) rfl
set_option maxRecDepth 100000 in
theorem ws_X0_inside : Cond.selects RX0 yX0_inside yX0_inside ∈ lwT := lwT_t (List.mem_of_getElem? (i := 289) (by decide +kernel)) rfl
set_option maxRecDepth 100000 in
theorem ws_X0_isFree : Cond.selects RX0 yX0_isFree yX0_isFree ∈ lwT := lwT_t (List.mem_of_getElem? (i := 467) (by decide +kernel)) rfl
set_option maxRecDepth 100000 in
theorem ws_X0_lateOnes : Cond.selects RX0 yX0_lateOnes yX0_lateOnes ∈ lwT := lwT_p (List.mem_of_getElem? (i := 9) (by decide +kernel)) rfl
set_option maxRecDepth 100000 in
theorem ws_X0_lifts : Cond.selects RX0 yX0_lifts yX0_lifts ∈ lwT := lwT_t (List.mem_of_getElem? (i := 648) (by decide +kernel)) rfl
set_option maxRecDepth 100000 in
theorem ws_X0_lyingOn : Cond.selects RX0 yX0_lyingOn yX0_lyingOn ∈ lwT := lwT_p (List.mem_of_getElem? (i := 7) (by decide +kernel)) rfl
set_option maxRecDepth 100000 in
theorem ws_X0_playedLifts : Cond.selects RX0 yX0_playedLifts yX0_playedLifts ∈ lwT := lwT_t (List.mem_of_getElem? (i := 619) (by decide +kernel)) rfl
set_option maxRecDepth 100000 in
theorem ws_X0_remove : Cond.selects RX0 yX0_remove yX0_remove ∈ lwT := lwT_t (List.mem_of_getElem? (i := 402) (by decide +kernel)) rfl
set_option maxRecDepth 100000 in
theorem ws_X0_uppermost : Cond.selects RX0 yX0_uppermost yX0_uppermost ∈ lwT := lwT_t (List.mem_of_getElem? (i := 514) (by decide +kernel)) rfl
set_option maxRecDepth 100000 in
theorem ws_X1_holds : Cond.selects RX1 yX1_holds yX1_holds ∈ lwT := lwT_t (List.mem_of_getElem? (i := 446) (by decide +kernel)) rfl
set_option maxRecDepth 100000 in
theorem ws_X1_keep : Cond.selects RX1 yX1_keep yX1_keep ∈ lwT := lwT_p (List.mem_of_getElem? (i := 10) (by decide +kernel)) rfl
set_option maxRecDepth 100000 in
theorem ws_X1_raise : Cond.selects RX1 yX1_raise yX1_raise ∈ lwT := lwT_t (List.mem_of_getElem? (i := 430) (by decide +kernel)) rfl
set_option maxRecDepth 100000 in
theorem ws_X1_search : Cond.selects RX1 yX1_search yX1_search ∈ lwT := lwT_t (List.mem_of_getElem? (i := 526) (by decide +kernel)) rfl
set_option maxRecDepth 100000 in
theorem ws_X1_survey : Cond.selects RX1 yX1_survey yX1_survey ∈ lwT := lwT_t (List.mem_of_getElem? (i := 426) (by decide +kernel)) rfl
set_option maxRecDepth 100000 in
theorem ws_X2_record : Cond.selects RX2 yX2_record yX2_record ∈ lwT := lwT_t (List.mem_of_getElem? (i := 299) (by decide +kernel)) rfl
set_option maxRecDepth 100000 in
theorem ws_X2_restore : Cond.selects RX2 yX2_restore yX2_restore ∈ lwT := lwT_t (List.mem_of_getElem? (i := 632) (by decide +kernel)) rfl
set_option maxRecDepth 100000 in
theorem ws_X3_isTriedBetter : Cond.selects RX3 yX3_isTriedBetter yX3_isTriedBetter ∈ lwT := lwT_p (List.mem_of_getElem? (i := 14) (by decide +kernel)) rfl
set_option maxRecDepth 100000 in
theorem ws_X3_letDownFrom : Cond.selects RX3 yX3_letDownFrom yX3_letDownFrom ∈ lwT := lwT_p (List.mem_of_getElem? (i := 11) (by decide +kernel)) rfl
set_option maxRecDepth 100000 in
theorem ws_X3_measure : Cond.selects RX3 yX3_measure yX3_measure ∈ lwT := lwT_p (List.mem_of_getElem? (i := 12) (by decide +kernel)) rfl
set_option maxRecDepth 100000 in
theorem ws_X3_packByBest : Cond.selects RX3 yX3_packByBest yX3_packByBest ∈ lwT := lwT_t (List.mem_of_getElem? (i := 592) (by decide +kernel)) rfl
set_option maxRecDepth 100000 in
theorem ws_X3_packUsually : Cond.selects RX3 yX3_packUsually yX3_packUsually ∈ lwT := lwT_t (List.mem_of_getElem? (i := 545) (by decide +kernel)) rfl
set_option maxRecDepth 100000 in
theorem ws_X3_stepToNextOrder : Cond.selects RX3 yX3_stepToNextOrder yX3_stepToNextOrder ∈ lwT := lwT_p (List.mem_of_getElem? (i := 15) (by decide +kernel)) rfl
set_option maxRecDepth 100000 in
theorem ws_X3_swap : Cond.selects RX3 yX3_swap yX3_swap ∈ lwT := lwT_p (List.mem_of_getElem? (i := 16) (by decide +kernel)) rfl
set_option maxRecDepth 100000 in
theorem ws_X4_append : Cond.selects RX4 yX4_append yX4_append ∈ lwT := lwT_t (List.mem_of_getElem? (i := 331) (by decide +kernel)) rfl
set_option maxRecDepth 100000 in
theorem ws_X4_fail : Cond.selects RX4 yX4_fail yX4_fail ∈ lwT := lwT_p (List.mem_of_getElem? (i := 2) (by decide +kernel)) rfl
set_option maxRecDepth 100000 in
theorem ws_X4_next : Cond.selects RX4 yX4_next yX4_next ∈ lwT := lwT_p (List.mem_of_getElem? (i := 1) (by decide +kernel)) rfl
set_option maxRecDepth 100000 in
theorem ws_X4_read : Cond.selects RX4 yX4_read yX4_read ∈ lwT := lwT_t (List.mem_of_getElem? (i := 343) (by decide +kernel)) rfl
set_option maxRecDepth 100000 in
theorem ws_X4_readLid : Cond.selects RX4 yX4_readLid yX4_readLid ∈ lwT := lwT_p (List.mem_of_getElem? (i := 5) (by decide +kernel)) rfl
set_option maxRecDepth 100000 in
theorem ws_X4_readNumber : Cond.selects RX4 yX4_readNumber yX4_readNumber ∈ lwT := lwT_p (List.mem_of_getElem? (i := 3) (by decide +kernel)) rfl
set_option maxRecDepth 100000 in
theorem ws_X4_readSign : Cond.selects RX4 yX4_readSign yX4_readSign ∈ lwT := lwT_p (List.mem_of_getElem? (i := 4) (by decide +kernel)) rfl
set_option maxRecDepth 100000 in
theorem ws_X4_readTray : Cond.selects RX4 yX4_readTray yX4_readTray ∈ lwT := lwT_p (List.mem_of_getElem? (i := 0) (by decide +kernel)) rfl
set_option maxRecDepth 100000 in
theorem ws_X4_readTurn : Cond.selects RX4 yX4_readTurn yX4_readTurn ∈ lwT := lwT_p (List.mem_of_getElem? (i := 6) (by decide +kernel)) rfl
set_option maxRecDepth 100000 in
theorem ws_X5_alongX : Cond.selects RX5 yX5_alongX yX5_alongX ∈ lwT := lwT_t (List.mem_of_getElem? (i := 418) (by decide +kernel)) rfl
set_option maxRecDepth 100000 in
theorem ws_X5_alongY : Cond.selects RX5 yX5_alongY yX5_alongY ∈ lwT := lwT_t (List.mem_of_getElem? (i := 422) (by decide +kernel)) rfl
set_option maxRecDepth 100000 in
theorem ws_X5_area : Cond.selects RX5 yX5_area yX5_area ∈ lwT := lwT_t (List.mem_of_getElem? (i := 452) (by decide +kernel)) rfl
set_option maxRecDepth 100000 in
theorem ws_X5_become : Cond.selects RX5 yX5_become yX5_become ∈ lwT := lwT_t (List.mem_of_getElem? (i := 371) (by decide +kernel)) rfl
set_option maxRecDepth 100000 in
theorem ws_X5_copyFrom : Cond.selects RX5 yX5_copyFrom yX5_copyFrom ∈ lwT := lwT_t (List.mem_of_getElem? (i := 311) (by decide +kernel)) rfl
set_option maxRecDepth 100000 in
theorem ws_X5_covers : Cond.selects RX5 yX5_covers yX5_covers ∈ lwT := lwT_t (List.mem_of_getElem? (i := 518) (by decide +kernel)) rfl
set_option maxRecDepth 100000 in
theorem ws_X5_leave : Cond.selects RX5 yX5_leave yX5_leave ∈ lwT := lwT_t (List.mem_of_getElem? (i := 319) (by decide +kernel)) rfl
set_option maxRecDepth 100000 in
theorem ws_X5_lie : Cond.selects RX5 yX5_lie yX5_lie ∈ lwT := lwT_t (List.mem_of_getElem? (i := 456) (by decide +kernel)) rfl
set_option maxRecDepth 100000 in
theorem ws_X5_liesOn : Cond.selects RX5 yX5_liesOn yX5_liesOn ∈ lwT := lwT_t (List.mem_of_getElem? (i := 475) (by decide +kernel)) rfl
set_option maxRecDepth 100000 in
theorem ws_X5_property : Cond.selects RX5 yX5_property yX5_property ∈ lwT := lwT_t (List.mem_of_getElem? (i := 488) (by decide +kernel)) rfl
set_option maxRecDepth 100000 in
theorem ws_X5_tall : Cond.selects RX5 yX5_tall yX5_tall ∈ lwT := lwT_t (List.mem_of_getElem? (i := 442) (by decide +kernel)) rfl
set_option maxRecDepth 100000 in
theorem ws_X6_count : Cond.selects RX6 yX6_count yX6_count ∈ lwT := lwT_t (List.mem_of_getElem? (i := 636) (by decide +kernel)) rfl
set_option maxRecDepth 100000 in
theorem ws_X6_liftsTo : Cond.selects RX6 yX6_liftsTo yX6_liftsTo ∈ lwT := lwT_t (List.mem_of_getElem? (i := 624) (by decide +kernel)) rfl
set_option maxRecDepth 100000 in
theorem ws_X6_place : Cond.selects RX6 yX6_place yX6_place ∈ lwT := lwT_t (List.mem_of_getElem? (i := 522) (by decide +kernel)) rfl
set_option maxRecDepth 100000 in
theorem ws_X6_placedProperty : Cond.selects RX6 yX6_placedProperty yX6_placedProperty ∈ lwT := lwT_p (List.mem_of_getElem? (i := 8) (by decide +kernel)) rfl
set_option maxRecDepth 100000 in
theorem ws_X6_seen : Cond.selects RX6 yX6_seen yX6_seen ∈ lwT := lwT_t (List.mem_of_getElem? (i := 510) (by decide +kernel)) rfl
set_option maxRecDepth 100000 in
theorem ws_X6_takeOverPacked : Cond.selects RX6 yX6_takeOverPacked yX6_takeOverPacked ∈ lwT := lwT_p (List.mem_of_getElem? (i := 13) (by decide +kernel)) rfl
set_option maxRecDepth 100000 in
theorem ws_X6_tray : Cond.selects RX6 yX6_tray yX6_tray ∈ lwT := lwT_t (List.mem_of_getElem? (i := 484) (by decide +kernel)) rfl
set_option maxRecDepth 100000 in
theorem ws_X7_above : Cond.selects RX7 yX7_above yX7_above ∈ lwT := lwT_p (List.mem_of_getElem? (i := 45) (by decide +kernel)) rfl
set_option maxRecDepth 100000 in
theorem ws_X7_air : Cond.selects RX7 yX7_air yX7_air ∈ lwT := lwT_p (List.mem_of_getElem? (i := 58) (by decide +kernel)) rfl
set_option maxRecDepth 100000 in
theorem ws_X7_along : Cond.selects RX7 yX7_along yX7_along ∈ lwT := lwT_p (List.mem_of_getElem? (i := 21) (by decide +kernel)) rfl
set_option maxRecDepth 100000 in
theorem ws_X7_boxHeight : Cond.selects RX7 yX7_boxHeight yX7_boxHeight ∈ lwT := lwT_p (List.mem_of_getElem? (i := 57) (by decide +kernel)) rfl
set_option maxRecDepth 100000 in
theorem ws_X7_can : Cond.selects RX7 yX7_can yX7_can ∈ lwT := lwT_p (List.mem_of_getElem? (i := 29) (by decide +kernel)) rfl
set_option maxRecDepth 100000 in
theorem ws_X7_comes : Cond.selects RX7 yX7_comes yX7_comes ∈ lwT := lwT_p (List.mem_of_getElem? (i := 32) (by decide +kernel)) rfl
set_option maxRecDepth 100000 in
theorem ws_X7_comesTo : Cond.selects RX7 yX7_comesTo yX7_comesTo ∈ lwT := lwT_p (List.mem_of_getElem? (i := 55) (by decide +kernel)) rfl
set_option maxRecDepth 100000 in
theorem ws_X7_copies : Cond.selects RX7 yX7_copies yX7_copies ∈ lwT := lwT_p (List.mem_of_getElem? (i := 17) (by decide +kernel)) rfl
set_option maxRecDepth 100000 in
theorem ws_X7_count : Cond.selects RX7 yX7_count yX7_count ∈ lwT := lwT_t (List.mem_of_getElem? (i := 1016) (by decide +kernel)) rfl
set_option maxRecDepth 100000 in
theorem ws_X7_covers : Cond.selects RX7 yX7_covers yX7_covers ∈ lwT := lwT_p (List.mem_of_getElem? (i := 25) (by decide +kernel)) rfl
set_option maxRecDepth 100000 in
theorem ws_X7_empties : Cond.selects RX7 yX7_empties yX7_empties ∈ lwT := lwT_p (List.mem_of_getElem? (i := 44) (by decide +kernel)) rfl
set_option maxRecDepth 100000 in
theorem ws_X7_fails : Cond.selects RX7 yX7_fails yX7_fails ∈ lwT := lwT_p (List.mem_of_getElem? (i := 37) (by decide +kernel)) rfl
set_option maxRecDepth 100000 in
theorem ws_X7_fault : Cond.selects RX7 yX7_fault yX7_fault ∈ lwT := lwT_p (List.mem_of_getElem? (i := 49) (by decide +kernel)) rfl
set_option maxRecDepth 100000 in
theorem ws_X7_faults : Cond.selects RX7 yX7_faults yX7_faults ∈ lwT := lwT_p (List.mem_of_getElem? (i := 56) (by decide +kernel)) rfl
set_option maxRecDepth 100000 in
theorem ws_X7_finds : Cond.selects RX7 yX7_finds yX7_finds ∈ lwT := lwT_p (List.mem_of_getElem? (i := 51) (by decide +kernel)) rfl
set_option maxRecDepth 100000 in
theorem ws_X7_frees : Cond.selects RX7 yX7_frees yX7_frees ∈ lwT := lwT_p (List.mem_of_getElem? (i := 65) (by decide +kernel)) rfl
set_option maxRecDepth 100000 in
theorem ws_X7_gets : Cond.selects RX7 yX7_gets yX7_gets ∈ lwT := lwT_p (List.mem_of_getElem? (i := 64) (by decide +kernel)) rfl
set_option maxRecDepth 100000 in
theorem ws_X7_here : Cond.selects RX7 yX7_here yX7_here ∈ lwT := lwT_p (List.mem_of_getElem? (i := 36) (by decide +kernel)) rfl
set_option maxRecDepth 100000 in
theorem ws_X7_high : Cond.selects RX7 yX7_high yX7_high ∈ lwT := lwT_p (List.mem_of_getElem? (i := 28) (by decide +kernel)) rfl
set_option maxRecDepth 100000 in
theorem ws_X7_ifPacked : Cond.selects RX7 yX7_ifPacked yX7_ifPacked ∈ lwT := lwT_t (List.mem_of_getElem? (i := 996) (by decide +kernel)) rfl
set_option maxRecDepth 100000 in
theorem ws_X7_inBox : Cond.selects RX7 yX7_inBox yX7_inBox ∈ lwT := lwT_p (List.mem_of_getElem? (i := 43) (by decide +kernel)) rfl
set_option maxRecDepth 100000 in
theorem ws_X7_isAhead : Cond.selects RX7 yX7_isAhead yX7_isAhead ∈ lwT := lwT_p (List.mem_of_getElem? (i := 53) (by decide +kernel)) rfl
set_option maxRecDepth 100000 in
theorem ws_X7_isBetter : Cond.selects RX7 yX7_isBetter yX7_isBetter ∈ lwT := lwT_p (List.mem_of_getElem? (i := 60) (by decide +kernel)) rfl
set_option maxRecDepth 100000 in
theorem ws_X7_isDigit : Cond.selects RX7 yX7_isDigit yX7_isDigit ∈ lwT := lwT_p (List.mem_of_getElem? (i := 35) (by decide +kernel)) rfl
set_option maxRecDepth 100000 in
theorem ws_X7_isIn : Cond.selects RX7 yX7_isIn yX7_isIn ∈ lwT := lwT_p (List.mem_of_getElem? (i := 23) (by decide +kernel)) rfl
set_option maxRecDepth 100000 in
theorem ws_X7_isInside : Cond.selects RX7 yX7_isInside yX7_isInside ∈ lwT := lwT_p (List.mem_of_getElem? (i := 20) (by decide +kernel)) rfl
set_option maxRecDepth 100000 in
theorem ws_X7_isTray : Cond.selects RX7 yX7_isTray yX7_isTray ∈ lwT := lwT_p (List.mem_of_getElem? (i := 18) (by decide +kernel)) rfl
set_option maxRecDepth 100000 in
theorem ws_X7_laysTops : Cond.selects RX7 yX7_laysTops yX7_laysTops ∈ lwT := lwT_p (List.mem_of_getElem? (i := 24) (by decide +kernel)) rfl
set_option maxRecDepth 100000 in
theorem ws_X7_leaves : Cond.selects RX7 yX7_leaves yX7_leaves ∈ lwT := lwT_p (List.mem_of_getElem? (i := 38) (by decide +kernel)) rfl
set_option maxRecDepth 100000 in
theorem ws_X7_liesOn : Cond.selects RX7 yX7_liesOn yX7_liesOn ∈ lwT := lwT_p (List.mem_of_getElem? (i := 46) (by decide +kernel)) rfl
set_option maxRecDepth 100000 in
theorem ws_X7_lift : Cond.selects RX7 yX7_lift yX7_lift ∈ lwT := lwT_p (List.mem_of_getElem? (i := 48) (by decide +kernel)) rfl
set_option maxRecDepth 100000 in
theorem ws_X7_lifts : Cond.selects RX7 yX7_lifts yX7_lifts ∈ lwT := lwT_p (List.mem_of_getElem? (i := 66) (by decide +kernel)) rfl
set_option maxRecDepth 100000 in
theorem ws_X7_liftsTo : Cond.selects RX7 yX7_liftsTo yX7_liftsTo ∈ lwT := lwT_t (List.mem_of_getElem? (i := 1012) (by decide +kernel)) rfl
set_option maxRecDepth 100000 in
theorem ws_X7_looksAt : Cond.selects RX7 yX7_looksAt yX7_looksAt ∈ lwT := lwT_p (List.mem_of_getElem? (i := 30) (by decide +kernel)) rfl
set_option maxRecDepth 100000 in
theorem ws_X7_meet : Cond.selects RX7 yX7_meet yX7_meet ∈ lwT := lwT_p (List.mem_of_getElem? (i := 47) (by decide +kernel)) rfl
set_option maxRecDepth 100000 in
theorem ws_X7_mixes : Cond.selects RX7 yX7_mixes yX7_mixes ∈ lwT := lwT_p (List.mem_of_getElem? (i := 67) (by decide +kernel)) rfl
set_option maxRecDepth 100000 in
theorem ws_X7_of : Cond.selects RX7 yX7_of yX7_of ∈ lwT := lwT_p (List.mem_of_getElem? (i := 22) (by decide +kernel)) rfl
set_option maxRecDepth 100000 in
theorem ws_X7_ordersBest : Cond.selects RX7 yX7_ordersBest yX7_ordersBest ∈ lwT := lwT_p (List.mem_of_getElem? (i := 59) (by decide +kernel)) rfl
set_option maxRecDepth 100000 in
theorem ws_X7_ordersNext : Cond.selects RX7 yX7_ordersNext yX7_ordersNext ∈ lwT := lwT_p (List.mem_of_getElem? (i := 61) (by decide +kernel)) rfl
set_option maxRecDepth 100000 in
theorem ws_X7_ordersUsually : Cond.selects RX7 yX7_ordersUsually yX7_ordersUsually ∈ lwT := lwT_p (List.mem_of_getElem? (i := 52) (by decide +kernel)) rfl
set_option maxRecDepth 100000 in
theorem ws_X7_packs : Cond.selects RX7 yX7_packs yX7_packs ∈ lwT := lwT_p (List.mem_of_getElem? (i := 54) (by decide +kernel)) rfl
set_option maxRecDepth 100000 in
theorem ws_X7_place : Cond.selects RX7 yX7_place yX7_place ∈ lwT := lwT_t (List.mem_of_getElem? (i := 932) (by decide +kernel)) rfl
set_option maxRecDepth 100000 in
theorem ws_X7_plays : Cond.selects RX7 yX7_plays yX7_plays ∈ lwT := lwT_p (List.mem_of_getElem? (i := 63) (by decide +kernel)) rfl
set_option maxRecDepth 100000 in
theorem ws_X7_readsInto : Cond.selects RX7 yX7_readsInto yX7_readsInto ∈ lwT := lwT_p (List.mem_of_getElem? (i := 39) (by decide +kernel)) rfl
set_option maxRecDepth 100000 in
theorem ws_X7_readsNumber : Cond.selects RX7 yX7_readsNumber yX7_readsNumber ∈ lwT := lwT_p (List.mem_of_getElem? (i := 40) (by decide +kernel)) rfl
set_option maxRecDepth 100000 in
theorem ws_X7_readsTray : Cond.selects RX7 yX7_readsTray yX7_readsTray ∈ lwT := lwT_p (List.mem_of_getElem? (i := 34) (by decide +kernel)) rfl
set_option maxRecDepth 100000 in
theorem ws_X7_records : Cond.selects RX7 yX7_records yX7_records ∈ lwT := lwT_p (List.mem_of_getElem? (i := 31) (by decide +kernel)) rfl
set_option maxRecDepth 100000 in
theorem ws_X7_recordsKept : Cond.selects RX7 yX7_recordsKept yX7_recordsKept ∈ lwT := lwT_p (List.mem_of_getElem? (i := 42) (by decide +kernel)) rfl
set_option maxRecDepth 100000 in
theorem ws_X7_rests : Cond.selects RX7 yX7_rests yX7_rests ∈ lwT := lwT_p (List.mem_of_getElem? (i := 50) (by decide +kernel)) rfl
set_option maxRecDepth 100000 in
theorem ws_X7_seen : Cond.selects RX7 yX7_seen yX7_seen ∈ lwT := lwT_t (List.mem_of_getElem? (i := 928) (by decide +kernel)) rfl
set_option maxRecDepth 100000 in
theorem ws_X7_sets : Cond.selects RX7 yX7_sets yX7_sets ∈ lwT := lwT_p (List.mem_of_getElem? (i := 33) (by decide +kernel)) rfl
set_option maxRecDepth 100000 in
theorem ws_X7_spans : Cond.selects RX7 yX7_spans yX7_spans ∈ lwT := lwT_p (List.mem_of_getElem? (i := 26) (by decide +kernel)) rfl
set_option maxRecDepth 100000 in
theorem ws_X7_swaps : Cond.selects RX7 yX7_swaps yX7_swaps ∈ lwT := lwT_p (List.mem_of_getElem? (i := 62) (by decide +kernel)) rfl
set_option maxRecDepth 100000 in
theorem ws_X7_takes : Cond.selects RX7 yX7_takes yX7_takes ∈ lwT := lwT_p (List.mem_of_getElem? (i := 41) (by decide +kernel)) rfl
set_option maxRecDepth 100000 in
theorem ws_X7_top : Cond.selects RX7 yX7_top yX7_top ∈ lwT := lwT_p (List.mem_of_getElem? (i := 27) (by decide +kernel)) rfl
set_option maxRecDepth 100000 in
theorem ws_X7_tray : Cond.selects RX7 yX7_tray yX7_tray ∈ lwT := lwT_t (List.mem_of_getElem? (i := 912) (by decide +kernel)) rfl
set_option maxRecDepth 100000 in
theorem ws_X7_trays : Cond.selects RX7 yX7_trays yX7_trays ∈ lwT := lwT_p (List.mem_of_getElem? (i := 19) (by decide +kernel)) rfl
set_option maxRecDepth 100000 in
theorem wt_J6_bitCount_0f7a4 : Cond.static yJ6_bitCount_0f7a4 ∈ lwT := lwT_t (List.mem_of_getElem? (i := 292) (by decide +kernel)) rfl
set_option maxRecDepth 100000 in
theorem wt_J9_max_7cf53 : Cond.static yJ9_max_7cf53 ∈ lwT := lwT_t (List.mem_of_getElem? (i := 434) (by decide +kernel)) rfl
set_option maxRecDepth 100000 in
theorem wt_X3_isBefore : Cond.static yX3_isBefore ∈ lwT := lwT_t (List.mem_of_getElem? (i := 549) (by decide +kernel)) rfl
set_option maxRecDepth 100000 in
theorem wt_X4_isDigit : Cond.static yX4_isDigit ∈ lwT := lwT_t (List.mem_of_getElem? (i := 354) (by decide +kernel)) rfl
set_option maxRecDepth 100000 in
theorem wt_X6_isWithin : Cond.static yX6_isWithin ∈ lwT := lwT_t (List.mem_of_getElem? (i := 285) (by decide +kernel)) rfl
set_option maxRecDepth 100000 in
theorem wt_X7_in : Cond.static yX7_in ∈ lwT := lwT_t (List.mem_of_getElem? (i := 752) (by decide +kernel)) rfl
set_option maxRecDepth 100000 in
theorem wt_acopy : Cond.static arraycopyName ∈ lwT := lwT_t (List.mem_of_getElem? (i := 599) (by decide +kernel)) rfl
theorem hd_J6_bitCount_0f7a4 : yJ6_bitCount_0f7a4.cls ≠ "java/lang/invoke/MethodHandle" ∧ yJ6_bitCount_0f7a4.cls ≠ "java/lang/invoke/VarHandle" ∧ (parseMethodDescriptor yJ6_bitCount_0f7a4.desc).map (fun d => d.parameters.length) = some 1 := by decide +kernel
theorem hd_X0_above : yX0_above.cls = RX0 ∧ yX0_above.cls ≠ "java/lang/invoke/MethodHandle" ∧ yX0_above.cls ≠ "java/lang/invoke/VarHandle" ∧ (parseMethodDescriptor yX0_above.desc).map (fun d => d.parameters.length) = some 2 := by decide +kernel
theorem hd_X0_air : yX0_air.cls = RX0 ∧ yX0_air.cls ≠ "java/lang/invoke/MethodHandle" ∧ yX0_air.cls ≠ "java/lang/invoke/VarHandle" ∧ (parseMethodDescriptor yX0_air.desc).map (fun d => d.parameters.length) = some 0 := by decide +kernel
theorem hd_X0_clear : yX0_clear.cls = RX0 ∧ yX0_clear.cls ≠ "java/lang/invoke/MethodHandle" ∧ yX0_clear.cls ≠ "java/lang/invoke/VarHandle" ∧ (parseMethodDescriptor yX0_clear.desc).map (fun d => d.parameters.length) = some 0 := by decide +kernel
theorem hd_X0_copyFrom : yX0_copyFrom.cls = RX0 ∧ yX0_copyFrom.cls ≠ "java/lang/invoke/MethodHandle" ∧ yX0_copyFrom.cls ≠ "java/lang/invoke/VarHandle" ∧ (parseMethodDescriptor yX0_copyFrom.desc).map (fun d => d.parameters.length) = some 1 := by decide +kernel
theorem hd_X0_copyTrays : yX0_copyTrays.cls = RX0 ∧ yX0_copyTrays.cls ≠ "java/lang/invoke/MethodHandle" ∧ yX0_copyTrays.cls ≠ "java/lang/invoke/VarHandle" ∧ (parseMethodDescriptor yX0_copyTrays.desc).map (fun d => d.parameters.length) = some 1 := by decide +kernel
theorem hd_X0_encloses : yX0_encloses.cls = RX0 ∧ yX0_encloses.cls ≠ "java/lang/invoke/MethodHandle" ∧ yX0_encloses.cls ≠ "java/lang/invoke/VarHandle" ∧ (parseMethodDescriptor yX0_encloses.desc).map (fun d => d.parameters.length) = some 4 := by decide +kernel
theorem hd_X0_faultOf : yX0_faultOf.cls = RX0 ∧ yX0_faultOf.cls ≠ "java/lang/invoke/MethodHandle" ∧ yX0_faultOf.cls ≠ "java/lang/invoke/VarHandle" ∧ (parseMethodDescriptor yX0_faultOf.desc).map (fun d => d.parameters.length) = some 1 := by decide +kernel
theorem hd_X0_faults : yX0_faults.cls = RX0 ∧ yX0_faults.cls ≠ "java/lang/invoke/MethodHandle" ∧ yX0_faults.cls ≠ "java/lang/invoke/VarHandle" ∧ (parseMethodDescriptor yX0_faults.desc).map (fun d => d.parameters.length) = some 0 := by decide +kernel
theorem hd_X0_filledHeight : yX0_filledHeight.cls = RX0 ∧ yX0_filledHeight.cls ≠ "java/lang/invoke/MethodHandle" ∧ yX0_filledHeight.cls ≠ "java/lang/invoke/VarHandle" ∧ (parseMethodDescriptor yX0_filledHeight.desc).map (fun d => d.parameters.length) = some 0 := by decide +kernel
theorem hd_X0_freeTrays : yX0_freeTrays.cls = RX0 ∧ yX0_freeTrays.cls ≠ "java/lang/invoke/MethodHandle" ∧ yX0_freeTrays.cls ≠ "java/lang/invoke/VarHandle" ∧ (parseMethodDescriptor yX0_freeTrays.desc).map (fun d => d.parameters.length) = some 0 := by decide +kernel
theorem hd_X0_has : yX0_has.cls = RX0 ∧ yX0_has.cls ≠ "java/lang/invoke/MethodHandle" ∧ yX0_has.cls ≠ "java/lang/invoke/VarHandle" ∧ (parseMethodDescriptor yX0_has.desc).map (fun d => d.parameters.length) = some 1 := by decide +kernel
theorem hd_X0_highestFloor : yX0_highestFloor.cls = RX0 ∧ yX0_highestFloor.cls ≠ "java/lang/invoke/MethodHandle" ∧ yX0_highestFloor.cls ≠ "java/lang/invoke/VarHandle" ∧ (parseMethodDescriptor yX0_highestFloor.desc).map (fun d => d.parameters.length) = some 1 := by decide +kernel
theorem hd_X0_inside : yX0_inside.cls = RX0 ∧ yX0_inside.cls ≠ "java/lang/invoke/MethodHandle" ∧ yX0_inside.cls ≠ "java/lang/invoke/VarHandle" ∧ (parseMethodDescriptor yX0_inside.desc).map (fun d => d.parameters.length) = some 0 := by decide +kernel
theorem hd_X0_isFree : yX0_isFree.cls = RX0 ∧ yX0_isFree.cls ≠ "java/lang/invoke/MethodHandle" ∧ yX0_isFree.cls ≠ "java/lang/invoke/VarHandle" ∧ (parseMethodDescriptor yX0_isFree.desc).map (fun d => d.parameters.length) = some 1 := by decide +kernel
theorem hd_X0_lateOnes : yX0_lateOnes.cls = RX0 ∧ yX0_lateOnes.cls ≠ "java/lang/invoke/MethodHandle" ∧ yX0_lateOnes.cls ≠ "java/lang/invoke/VarHandle" ∧ (parseMethodDescriptor yX0_lateOnes.desc).map (fun d => d.parameters.length) = some 2 := by decide +kernel
theorem hd_X0_lifts : yX0_lifts.cls = RX0 ∧ yX0_lifts.cls ≠ "java/lang/invoke/MethodHandle" ∧ yX0_lifts.cls ≠ "java/lang/invoke/VarHandle" ∧ (parseMethodDescriptor yX0_lifts.desc).map (fun d => d.parameters.length) = some 0 := by decide +kernel
theorem hd_X0_lyingOn : yX0_lyingOn.cls = RX0 ∧ yX0_lyingOn.cls ≠ "java/lang/invoke/MethodHandle" ∧ yX0_lyingOn.cls ≠ "java/lang/invoke/VarHandle" ∧ (parseMethodDescriptor yX0_lyingOn.desc).map (fun d => d.parameters.length) = some 1 := by decide +kernel
theorem hd_X0_playedLifts : yX0_playedLifts.cls = RX0 ∧ yX0_playedLifts.cls ≠ "java/lang/invoke/MethodHandle" ∧ yX0_playedLifts.cls ≠ "java/lang/invoke/VarHandle" ∧ (parseMethodDescriptor yX0_playedLifts.desc).map (fun d => d.parameters.length) = some 1 := by decide +kernel
theorem hd_X0_remove : yX0_remove.cls = RX0 ∧ yX0_remove.cls ≠ "java/lang/invoke/MethodHandle" ∧ yX0_remove.cls ≠ "java/lang/invoke/VarHandle" ∧ (parseMethodDescriptor yX0_remove.desc).map (fun d => d.parameters.length) = some 1 := by decide +kernel
theorem hd_X0_uppermost : yX0_uppermost.cls = RX0 ∧ yX0_uppermost.cls ≠ "java/lang/invoke/MethodHandle" ∧ yX0_uppermost.cls ≠ "java/lang/invoke/VarHandle" ∧ (parseMethodDescriptor yX0_uppermost.desc).map (fun d => d.parameters.length) = some 2 := by decide +kernel
theorem hd_X1_holds : yX1_holds.cls = RX1 ∧ yX1_holds.cls ≠ "java/lang/invoke/MethodHandle" ∧ yX1_holds.cls ≠ "java/lang/invoke/VarHandle" ∧ (parseMethodDescriptor yX1_holds.desc).map (fun d => d.parameters.length) = some 6 := by decide +kernel
theorem hd_X1_keep : yX1_keep.cls = RX1 ∧ yX1_keep.cls ≠ "java/lang/invoke/MethodHandle" ∧ yX1_keep.cls ≠ "java/lang/invoke/VarHandle" ∧ (parseMethodDescriptor yX1_keep.desc).map (fun d => d.parameters.length) = some 3 := by decide +kernel
theorem hd_X1_raise : yX1_raise.cls = RX1 ∧ yX1_raise.cls ≠ "java/lang/invoke/MethodHandle" ∧ yX1_raise.cls ≠ "java/lang/invoke/VarHandle" ∧ (parseMethodDescriptor yX1_raise.desc).map (fun d => d.parameters.length) = some 2 := by decide +kernel
theorem hd_X1_search : yX1_search.cls = RX1 ∧ yX1_search.cls ≠ "java/lang/invoke/MethodHandle" ∧ yX1_search.cls ≠ "java/lang/invoke/VarHandle" ∧ (parseMethodDescriptor yX1_search.desc).map (fun d => d.parameters.length) = some 3 := by decide +kernel
theorem hd_X1_survey : yX1_survey.cls = RX1 ∧ yX1_survey.cls ≠ "java/lang/invoke/MethodHandle" ∧ yX1_survey.cls ≠ "java/lang/invoke/VarHandle" ∧ (parseMethodDescriptor yX1_survey.desc).map (fun d => d.parameters.length) = some 1 := by decide +kernel
theorem hd_X2_record : yX2_record.cls = RX2 ∧ yX2_record.cls ≠ "java/lang/invoke/MethodHandle" ∧ yX2_record.cls ≠ "java/lang/invoke/VarHandle" ∧ (parseMethodDescriptor yX2_record.desc).map (fun d => d.parameters.length) = some 1 := by decide +kernel
theorem hd_X2_restore : yX2_restore.cls = RX2 ∧ yX2_restore.cls ≠ "java/lang/invoke/MethodHandle" ∧ yX2_restore.cls ≠ "java/lang/invoke/VarHandle" ∧ (parseMethodDescriptor yX2_restore.desc).map (fun d => d.parameters.length) = some 1 := by decide +kernel
theorem hd_X3_isBefore : yX3_isBefore.cls ≠ "java/lang/invoke/MethodHandle" ∧ yX3_isBefore.cls ≠ "java/lang/invoke/VarHandle" ∧ (parseMethodDescriptor yX3_isBefore.desc).map (fun d => d.parameters.length) = some 2 := by decide +kernel
theorem hd_X3_isTriedBetter : yX3_isTriedBetter.cls = RX3 ∧ yX3_isTriedBetter.cls ≠ "java/lang/invoke/MethodHandle" ∧ yX3_isTriedBetter.cls ≠ "java/lang/invoke/VarHandle" ∧ (parseMethodDescriptor yX3_isTriedBetter.desc).map (fun d => d.parameters.length) = some 0 := by decide +kernel
theorem hd_X3_letDownFrom : yX3_letDownFrom.cls = RX3 ∧ yX3_letDownFrom.cls ≠ "java/lang/invoke/MethodHandle" ∧ yX3_letDownFrom.cls ≠ "java/lang/invoke/VarHandle" ∧ (parseMethodDescriptor yX3_letDownFrom.desc).map (fun d => d.parameters.length) = some 2 := by decide +kernel
theorem hd_X3_measure : yX3_measure.cls = RX3 ∧ yX3_measure.cls ≠ "java/lang/invoke/MethodHandle" ∧ yX3_measure.cls ≠ "java/lang/invoke/VarHandle" ∧ (parseMethodDescriptor yX3_measure.desc).map (fun d => d.parameters.length) = some 1 := by decide +kernel
theorem hd_X3_packByBest : yX3_packByBest.cls = RX3 ∧ yX3_packByBest.cls ≠ "java/lang/invoke/MethodHandle" ∧ yX3_packByBest.cls ≠ "java/lang/invoke/VarHandle" ∧ (parseMethodDescriptor yX3_packByBest.desc).map (fun d => d.parameters.length) = some 1 := by decide +kernel
theorem hd_X3_packUsually : yX3_packUsually.cls = RX3 ∧ yX3_packUsually.cls ≠ "java/lang/invoke/MethodHandle" ∧ yX3_packUsually.cls ≠ "java/lang/invoke/VarHandle" ∧ (parseMethodDescriptor yX3_packUsually.desc).map (fun d => d.parameters.length) = some 1 := by decide +kernel
theorem hd_X3_stepToNextOrder : yX3_stepToNextOrder.cls = RX3 ∧ yX3_stepToNextOrder.cls ≠ "java/lang/invoke/MethodHandle" ∧ yX3_stepToNextOrder.cls ≠ "java/lang/invoke/VarHandle" ∧ (parseMethodDescriptor yX3_stepToNextOrder.desc).map (fun d => d.parameters.length) = some 0 := by decide +kernel
theorem hd_X3_swap : yX3_swap.cls = RX3 ∧ yX3_swap.cls ≠ "java/lang/invoke/MethodHandle" ∧ yX3_swap.cls ≠ "java/lang/invoke/VarHandle" ∧ (parseMethodDescriptor yX3_swap.desc).map (fun d => d.parameters.length) = some 2 := by decide +kernel
theorem hd_X4_append : yX4_append.cls = RX4 ∧ yX4_append.cls ≠ "java/lang/invoke/MethodHandle" ∧ yX4_append.cls ≠ "java/lang/invoke/VarHandle" ∧ (parseMethodDescriptor yX4_append.desc).map (fun d => d.parameters.length) = some 1 := by decide +kernel
theorem hd_X4_fail : yX4_fail.cls = RX4 ∧ yX4_fail.cls ≠ "java/lang/invoke/MethodHandle" ∧ yX4_fail.cls ≠ "java/lang/invoke/VarHandle" ∧ (parseMethodDescriptor yX4_fail.desc).map (fun d => d.parameters.length) = some 2 := by decide +kernel
theorem hd_X4_isDigit : yX4_isDigit.cls ≠ "java/lang/invoke/MethodHandle" ∧ yX4_isDigit.cls ≠ "java/lang/invoke/VarHandle" ∧ (parseMethodDescriptor yX4_isDigit.desc).map (fun d => d.parameters.length) = some 1 := by decide +kernel
theorem hd_X4_next : yX4_next.cls = RX4 ∧ yX4_next.cls ≠ "java/lang/invoke/MethodHandle" ∧ yX4_next.cls ≠ "java/lang/invoke/VarHandle" ∧ (parseMethodDescriptor yX4_next.desc).map (fun d => d.parameters.length) = some 0 := by decide +kernel
theorem hd_X4_read : yX4_read.cls = RX4 ∧ yX4_read.cls ≠ "java/lang/invoke/MethodHandle" ∧ yX4_read.cls ≠ "java/lang/invoke/VarHandle" ∧ (parseMethodDescriptor yX4_read.desc).map (fun d => d.parameters.length) = some 0 := by decide +kernel
theorem hd_X4_readLid : yX4_readLid.cls = RX4 ∧ yX4_readLid.cls ≠ "java/lang/invoke/MethodHandle" ∧ yX4_readLid.cls ≠ "java/lang/invoke/VarHandle" ∧ (parseMethodDescriptor yX4_readLid.desc).map (fun d => d.parameters.length) = some 1 := by decide +kernel
theorem hd_X4_readNumber : yX4_readNumber.cls = RX4 ∧ yX4_readNumber.cls ≠ "java/lang/invoke/MethodHandle" ∧ yX4_readNumber.cls ≠ "java/lang/invoke/VarHandle" ∧ (parseMethodDescriptor yX4_readNumber.desc).map (fun d => d.parameters.length) = some 1 := by decide +kernel
theorem hd_X4_readSign : yX4_readSign.cls = RX4 ∧ yX4_readSign.cls ≠ "java/lang/invoke/MethodHandle" ∧ yX4_readSign.cls ≠ "java/lang/invoke/VarHandle" ∧ (parseMethodDescriptor yX4_readSign.desc).map (fun d => d.parameters.length) = some 1 := by decide +kernel
theorem hd_X4_readTray : yX4_readTray.cls = RX4 ∧ yX4_readTray.cls ≠ "java/lang/invoke/MethodHandle" ∧ yX4_readTray.cls ≠ "java/lang/invoke/VarHandle" ∧ (parseMethodDescriptor yX4_readTray.desc).map (fun d => d.parameters.length) = some 0 := by decide +kernel
theorem hd_X4_readTurn : yX4_readTurn.cls = RX4 ∧ yX4_readTurn.cls ≠ "java/lang/invoke/MethodHandle" ∧ yX4_readTurn.cls ≠ "java/lang/invoke/VarHandle" ∧ (parseMethodDescriptor yX4_readTurn.desc).map (fun d => d.parameters.length) = some 1 := by decide +kernel
theorem hd_X5_alongX : yX5_alongX.cls = RX5 ∧ yX5_alongX.cls ≠ "java/lang/invoke/MethodHandle" ∧ yX5_alongX.cls ≠ "java/lang/invoke/VarHandle" ∧ (parseMethodDescriptor yX5_alongX.desc).map (fun d => d.parameters.length) = some 1 := by decide +kernel
theorem hd_X5_alongY : yX5_alongY.cls = RX5 ∧ yX5_alongY.cls ≠ "java/lang/invoke/MethodHandle" ∧ yX5_alongY.cls ≠ "java/lang/invoke/VarHandle" ∧ (parseMethodDescriptor yX5_alongY.desc).map (fun d => d.parameters.length) = some 1 := by decide +kernel
theorem hd_X5_area : yX5_area.cls = RX5 ∧ yX5_area.cls ≠ "java/lang/invoke/MethodHandle" ∧ yX5_area.cls ≠ "java/lang/invoke/VarHandle" ∧ (parseMethodDescriptor yX5_area.desc).map (fun d => d.parameters.length) = some 0 := by decide +kernel
theorem hd_X5_become : yX5_become.cls = RX5 ∧ yX5_become.cls ≠ "java/lang/invoke/MethodHandle" ∧ yX5_become.cls ≠ "java/lang/invoke/VarHandle" ∧ (parseMethodDescriptor yX5_become.desc).map (fun d => d.parameters.length) = some 4 := by decide +kernel
theorem hd_X5_copyFrom : yX5_copyFrom.cls = RX5 ∧ yX5_copyFrom.cls ≠ "java/lang/invoke/MethodHandle" ∧ yX5_copyFrom.cls ≠ "java/lang/invoke/VarHandle" ∧ (parseMethodDescriptor yX5_copyFrom.desc).map (fun d => d.parameters.length) = some 1 := by decide +kernel
theorem hd_X5_covers : yX5_covers.cls = RX5 ∧ yX5_covers.cls ≠ "java/lang/invoke/MethodHandle" ∧ yX5_covers.cls ≠ "java/lang/invoke/VarHandle" ∧ (parseMethodDescriptor yX5_covers.desc).map (fun d => d.parameters.length) = some 2 := by decide +kernel
theorem hd_X5_leave : yX5_leave.cls = RX5 ∧ yX5_leave.cls ≠ "java/lang/invoke/MethodHandle" ∧ yX5_leave.cls ≠ "java/lang/invoke/VarHandle" ∧ (parseMethodDescriptor yX5_leave.desc).map (fun d => d.parameters.length) = some 0 := by decide +kernel
theorem hd_X5_lie : yX5_lie.cls = RX5 ∧ yX5_lie.cls ≠ "java/lang/invoke/MethodHandle" ∧ yX5_lie.cls ≠ "java/lang/invoke/VarHandle" ∧ (parseMethodDescriptor yX5_lie.desc).map (fun d => d.parameters.length) = some 5 := by decide +kernel
theorem hd_X5_liesOn : yX5_liesOn.cls = RX5 ∧ yX5_liesOn.cls ≠ "java/lang/invoke/MethodHandle" ∧ yX5_liesOn.cls ≠ "java/lang/invoke/VarHandle" ∧ (parseMethodDescriptor yX5_liesOn.desc).map (fun d => d.parameters.length) = some 1 := by decide +kernel
theorem hd_X5_property : yX5_property.cls = RX5 ∧ yX5_property.cls ≠ "java/lang/invoke/MethodHandle" ∧ yX5_property.cls ≠ "java/lang/invoke/VarHandle" ∧ (parseMethodDescriptor yX5_property.desc).map (fun d => d.parameters.length) = some 1 := by decide +kernel
theorem hd_X5_tall : yX5_tall.cls = RX5 ∧ yX5_tall.cls ≠ "java/lang/invoke/MethodHandle" ∧ yX5_tall.cls ≠ "java/lang/invoke/VarHandle" ∧ (parseMethodDescriptor yX5_tall.desc).map (fun d => d.parameters.length) = some 0 := by decide +kernel
theorem hd_X6_count : yX6_count.cls = RX6 ∧ yX6_count.cls ≠ "java/lang/invoke/MethodHandle" ∧ yX6_count.cls ≠ "java/lang/invoke/VarHandle" ∧ (parseMethodDescriptor yX6_count.desc).map (fun d => d.parameters.length) = some 1 := by decide +kernel
theorem hd_X6_isWithin : yX6_isWithin.cls ≠ "java/lang/invoke/MethodHandle" ∧ yX6_isWithin.cls ≠ "java/lang/invoke/VarHandle" ∧ (parseMethodDescriptor yX6_isWithin.desc).map (fun d => d.parameters.length) = some 3 := by decide +kernel
theorem hd_X6_liftsTo : yX6_liftsTo.cls = RX6 ∧ yX6_liftsTo.cls ≠ "java/lang/invoke/MethodHandle" ∧ yX6_liftsTo.cls ≠ "java/lang/invoke/VarHandle" ∧ (parseMethodDescriptor yX6_liftsTo.desc).map (fun d => d.parameters.length) = some 1 := by decide +kernel
theorem hd_X6_place : yX6_place.cls = RX6 ∧ yX6_place.cls ≠ "java/lang/invoke/MethodHandle" ∧ yX6_place.cls ≠ "java/lang/invoke/VarHandle" ∧ (parseMethodDescriptor yX6_place.desc).map (fun d => d.parameters.length) = some 2 := by decide +kernel
theorem hd_X6_placedProperty : yX6_placedProperty.cls = RX6 ∧ yX6_placedProperty.cls ≠ "java/lang/invoke/MethodHandle" ∧ yX6_placedProperty.cls ≠ "java/lang/invoke/VarHandle" ∧ (parseMethodDescriptor yX6_placedProperty.desc).map (fun d => d.parameters.length) = some 2 := by decide +kernel
theorem hd_X6_seen : yX6_seen.cls = RX6 ∧ yX6_seen.cls ≠ "java/lang/invoke/MethodHandle" ∧ yX6_seen.cls ≠ "java/lang/invoke/VarHandle" ∧ (parseMethodDescriptor yX6_seen.desc).map (fun d => d.parameters.length) = some 3 := by decide +kernel
theorem hd_X6_takeOverPacked : yX6_takeOverPacked.cls = RX6 ∧ yX6_takeOverPacked.cls ≠ "java/lang/invoke/MethodHandle" ∧ yX6_takeOverPacked.cls ≠ "java/lang/invoke/VarHandle" ∧ (parseMethodDescriptor yX6_takeOverPacked.desc).map (fun d => d.parameters.length) = some 0 := by decide +kernel
theorem hd_X6_tray : yX6_tray.cls = RX6 ∧ yX6_tray.cls ≠ "java/lang/invoke/MethodHandle" ∧ yX6_tray.cls ≠ "java/lang/invoke/VarHandle" ∧ (parseMethodDescriptor yX6_tray.desc).map (fun d => d.parameters.length) = some 2 := by decide +kernel
theorem hd_X7_above : yX7_above.cls = RX7 ∧ yX7_above.cls ≠ "java/lang/invoke/MethodHandle" ∧ yX7_above.cls ≠ "java/lang/invoke/VarHandle" ∧ (parseMethodDescriptor yX7_above.desc).map (fun d => d.parameters.length) = some 1 := by decide +kernel
theorem hd_X7_air : yX7_air.cls = RX7 ∧ yX7_air.cls ≠ "java/lang/invoke/MethodHandle" ∧ yX7_air.cls ≠ "java/lang/invoke/VarHandle" ∧ (parseMethodDescriptor yX7_air.desc).map (fun d => d.parameters.length) = some 0 := by decide +kernel
theorem hd_X7_along : yX7_along.cls = RX7 ∧ yX7_along.cls ≠ "java/lang/invoke/MethodHandle" ∧ yX7_along.cls ≠ "java/lang/invoke/VarHandle" ∧ (parseMethodDescriptor yX7_along.desc).map (fun d => d.parameters.length) = some 3 := by decide +kernel
theorem hd_X7_boxHeight : yX7_boxHeight.cls = RX7 ∧ yX7_boxHeight.cls ≠ "java/lang/invoke/MethodHandle" ∧ yX7_boxHeight.cls ≠ "java/lang/invoke/VarHandle" ∧ (parseMethodDescriptor yX7_boxHeight.desc).map (fun d => d.parameters.length) = some 0 := by decide +kernel
theorem hd_X7_can : yX7_can.cls = RX7 ∧ yX7_can.cls ≠ "java/lang/invoke/MethodHandle" ∧ yX7_can.cls ≠ "java/lang/invoke/VarHandle" ∧ (parseMethodDescriptor yX7_can.desc).map (fun d => d.parameters.length) = some 4 := by decide +kernel
theorem hd_X7_comes : yX7_comes.cls = RX7 ∧ yX7_comes.cls ≠ "java/lang/invoke/MethodHandle" ∧ yX7_comes.cls ≠ "java/lang/invoke/VarHandle" ∧ (parseMethodDescriptor yX7_comes.desc).map (fun d => d.parameters.length) = some 4 := by decide +kernel
theorem hd_X7_comesTo : yX7_comesTo.cls = RX7 ∧ yX7_comesTo.cls ≠ "java/lang/invoke/MethodHandle" ∧ yX7_comesTo.cls ≠ "java/lang/invoke/VarHandle" ∧ (parseMethodDescriptor yX7_comesTo.desc).map (fun d => d.parameters.length) = some 1 := by decide +kernel
theorem hd_X7_copies : yX7_copies.cls = RX7 ∧ yX7_copies.cls ≠ "java/lang/invoke/MethodHandle" ∧ yX7_copies.cls ≠ "java/lang/invoke/VarHandle" ∧ (parseMethodDescriptor yX7_copies.desc).map (fun d => d.parameters.length) = some 2 := by decide +kernel
theorem hd_X7_count : yX7_count.cls = RX7 ∧ yX7_count.cls ≠ "java/lang/invoke/MethodHandle" ∧ yX7_count.cls ≠ "java/lang/invoke/VarHandle" ∧ (parseMethodDescriptor yX7_count.desc).map (fun d => d.parameters.length) = some 1 := by decide +kernel
theorem hd_X7_covers : yX7_covers.cls = RX7 ∧ yX7_covers.cls ≠ "java/lang/invoke/MethodHandle" ∧ yX7_covers.cls ≠ "java/lang/invoke/VarHandle" ∧ (parseMethodDescriptor yX7_covers.desc).map (fun d => d.parameters.length) = some 3 := by decide +kernel
theorem hd_X7_empties : yX7_empties.cls = RX7 ∧ yX7_empties.cls ≠ "java/lang/invoke/MethodHandle" ∧ yX7_empties.cls ≠ "java/lang/invoke/VarHandle" ∧ (parseMethodDescriptor yX7_empties.desc).map (fun d => d.parameters.length) = some 0 := by decide +kernel
theorem hd_X7_fails : yX7_fails.cls = RX7 ∧ yX7_fails.cls ≠ "java/lang/invoke/MethodHandle" ∧ yX7_fails.cls ≠ "java/lang/invoke/VarHandle" ∧ (parseMethodDescriptor yX7_fails.desc).map (fun d => d.parameters.length) = some 2 := by decide +kernel
theorem hd_X7_fault : yX7_fault.cls = RX7 ∧ yX7_fault.cls ≠ "java/lang/invoke/MethodHandle" ∧ yX7_fault.cls ≠ "java/lang/invoke/VarHandle" ∧ (parseMethodDescriptor yX7_fault.desc).map (fun d => d.parameters.length) = some 1 := by decide +kernel
theorem hd_X7_faults : yX7_faults.cls = RX7 ∧ yX7_faults.cls ≠ "java/lang/invoke/MethodHandle" ∧ yX7_faults.cls ≠ "java/lang/invoke/VarHandle" ∧ (parseMethodDescriptor yX7_faults.desc).map (fun d => d.parameters.length) = some 0 := by decide +kernel
theorem hd_X7_finds : yX7_finds.cls = RX7 ∧ yX7_finds.cls ≠ "java/lang/invoke/MethodHandle" ∧ yX7_finds.cls ≠ "java/lang/invoke/VarHandle" ∧ (parseMethodDescriptor yX7_finds.desc).map (fun d => d.parameters.length) = some 1 := by decide +kernel
theorem hd_X7_frees : yX7_frees.cls = RX7 ∧ yX7_frees.cls ≠ "java/lang/invoke/MethodHandle" ∧ yX7_frees.cls ≠ "java/lang/invoke/VarHandle" ∧ (parseMethodDescriptor yX7_frees.desc).map (fun d => d.parameters.length) = some 0 := by decide +kernel
theorem hd_X7_gets : yX7_gets.cls = RX7 ∧ yX7_gets.cls ≠ "java/lang/invoke/MethodHandle" ∧ yX7_gets.cls ≠ "java/lang/invoke/VarHandle" ∧ (parseMethodDescriptor yX7_gets.desc).map (fun d => d.parameters.length) = some 1 := by decide +kernel
theorem hd_X7_here : yX7_here.cls = RX7 ∧ yX7_here.cls ≠ "java/lang/invoke/MethodHandle" ∧ yX7_here.cls ≠ "java/lang/invoke/VarHandle" ∧ (parseMethodDescriptor yX7_here.desc).map (fun d => d.parameters.length) = some 0 := by decide +kernel
theorem hd_X7_high : yX7_high.cls = RX7 ∧ yX7_high.cls ≠ "java/lang/invoke/MethodHandle" ∧ yX7_high.cls ≠ "java/lang/invoke/VarHandle" ∧ (parseMethodDescriptor yX7_high.desc).map (fun d => d.parameters.length) = some 1 := by decide +kernel
theorem hd_X7_ifPacked : yX7_ifPacked.cls = RX7 ∧ yX7_ifPacked.cls ≠ "java/lang/invoke/MethodHandle" ∧ yX7_ifPacked.cls ≠ "java/lang/invoke/VarHandle" ∧ (parseMethodDescriptor yX7_ifPacked.desc).map (fun d => d.parameters.length) = some 2 := by decide +kernel
theorem hd_X7_in : yX7_in.cls ≠ "java/lang/invoke/MethodHandle" ∧ yX7_in.cls ≠ "java/lang/invoke/VarHandle" ∧ (parseMethodDescriptor yX7_in.desc).map (fun d => d.parameters.length) = some 3 := by decide +kernel
theorem hd_X7_inBox : yX7_inBox.cls = RX7 ∧ yX7_inBox.cls ≠ "java/lang/invoke/MethodHandle" ∧ yX7_inBox.cls ≠ "java/lang/invoke/VarHandle" ∧ (parseMethodDescriptor yX7_inBox.desc).map (fun d => d.parameters.length) = some 0 := by decide +kernel
theorem hd_X7_isAhead : yX7_isAhead.cls = RX7 ∧ yX7_isAhead.cls ≠ "java/lang/invoke/MethodHandle" ∧ yX7_isAhead.cls ≠ "java/lang/invoke/VarHandle" ∧ (parseMethodDescriptor yX7_isAhead.desc).map (fun d => d.parameters.length) = some 2 := by decide +kernel
theorem hd_X7_isBetter : yX7_isBetter.cls = RX7 ∧ yX7_isBetter.cls ≠ "java/lang/invoke/MethodHandle" ∧ yX7_isBetter.cls ≠ "java/lang/invoke/VarHandle" ∧ (parseMethodDescriptor yX7_isBetter.desc).map (fun d => d.parameters.length) = some 0 := by decide +kernel
theorem hd_X7_isDigit : yX7_isDigit.cls = RX7 ∧ yX7_isDigit.cls ≠ "java/lang/invoke/MethodHandle" ∧ yX7_isDigit.cls ≠ "java/lang/invoke/VarHandle" ∧ (parseMethodDescriptor yX7_isDigit.desc).map (fun d => d.parameters.length) = some 0 := by decide +kernel
theorem hd_X7_isIn : yX7_isIn.cls = RX7 ∧ yX7_isIn.cls ≠ "java/lang/invoke/MethodHandle" ∧ yX7_isIn.cls ≠ "java/lang/invoke/VarHandle" ∧ (parseMethodDescriptor yX7_isIn.desc).map (fun d => d.parameters.length) = some 1 := by decide +kernel
theorem hd_X7_isInside : yX7_isInside.cls = RX7 ∧ yX7_isInside.cls ≠ "java/lang/invoke/MethodHandle" ∧ yX7_isInside.cls ≠ "java/lang/invoke/VarHandle" ∧ (parseMethodDescriptor yX7_isInside.desc).map (fun d => d.parameters.length) = some 4 := by decide +kernel
theorem hd_X7_isTray : yX7_isTray.cls = RX7 ∧ yX7_isTray.cls ≠ "java/lang/invoke/MethodHandle" ∧ yX7_isTray.cls ≠ "java/lang/invoke/VarHandle" ∧ (parseMethodDescriptor yX7_isTray.desc).map (fun d => d.parameters.length) = some 1 := by decide +kernel
theorem hd_X7_laysTops : yX7_laysTops.cls = RX7 ∧ yX7_laysTops.cls ≠ "java/lang/invoke/MethodHandle" ∧ yX7_laysTops.cls ≠ "java/lang/invoke/VarHandle" ∧ (parseMethodDescriptor yX7_laysTops.desc).map (fun d => d.parameters.length) = some 0 := by decide +kernel
theorem hd_X7_leaves : yX7_leaves.cls = RX7 ∧ yX7_leaves.cls ≠ "java/lang/invoke/MethodHandle" ∧ yX7_leaves.cls ≠ "java/lang/invoke/VarHandle" ∧ (parseMethodDescriptor yX7_leaves.desc).map (fun d => d.parameters.length) = some 1 := by decide +kernel
theorem hd_X7_liesOn : yX7_liesOn.cls = RX7 ∧ yX7_liesOn.cls ≠ "java/lang/invoke/MethodHandle" ∧ yX7_liesOn.cls ≠ "java/lang/invoke/VarHandle" ∧ (parseMethodDescriptor yX7_liesOn.desc).map (fun d => d.parameters.length) = some 2 := by decide +kernel
theorem hd_X7_lift : yX7_lift.cls = RX7 ∧ yX7_lift.cls ≠ "java/lang/invoke/MethodHandle" ∧ yX7_lift.cls ≠ "java/lang/invoke/VarHandle" ∧ (parseMethodDescriptor yX7_lift.desc).map (fun d => d.parameters.length) = some 1 := by decide +kernel
theorem hd_X7_lifts : yX7_lifts.cls = RX7 ∧ yX7_lifts.cls ≠ "java/lang/invoke/MethodHandle" ∧ yX7_lifts.cls ≠ "java/lang/invoke/VarHandle" ∧ (parseMethodDescriptor yX7_lifts.desc).map (fun d => d.parameters.length) = some 0 := by decide +kernel
theorem hd_X7_liftsTo : yX7_liftsTo.cls = RX7 ∧ yX7_liftsTo.cls ≠ "java/lang/invoke/MethodHandle" ∧ yX7_liftsTo.cls ≠ "java/lang/invoke/VarHandle" ∧ (parseMethodDescriptor yX7_liftsTo.desc).map (fun d => d.parameters.length) = some 1 := by decide +kernel
theorem hd_X7_looksAt : yX7_looksAt.cls = RX7 ∧ yX7_looksAt.cls ≠ "java/lang/invoke/MethodHandle" ∧ yX7_looksAt.cls ≠ "java/lang/invoke/VarHandle" ∧ (parseMethodDescriptor yX7_looksAt.desc).map (fun d => d.parameters.length) = some 4 := by decide +kernel
theorem hd_X7_meet : yX7_meet.cls = RX7 ∧ yX7_meet.cls ≠ "java/lang/invoke/MethodHandle" ∧ yX7_meet.cls ≠ "java/lang/invoke/VarHandle" ∧ (parseMethodDescriptor yX7_meet.desc).map (fun d => d.parameters.length) = some 2 := by decide +kernel
theorem hd_X7_mixes : yX7_mixes.cls = RX7 ∧ yX7_mixes.cls ≠ "java/lang/invoke/MethodHandle" ∧ yX7_mixes.cls ≠ "java/lang/invoke/VarHandle" ∧ (parseMethodDescriptor yX7_mixes.desc).map (fun d => d.parameters.length) = some 1 := by decide +kernel
theorem hd_X7_of : yX7_of.cls = RX7 ∧ yX7_of.cls ≠ "java/lang/invoke/MethodHandle" ∧ yX7_of.cls ≠ "java/lang/invoke/VarHandle" ∧ (parseMethodDescriptor yX7_of.desc).map (fun d => d.parameters.length) = some 2 := by decide +kernel
theorem hd_X7_ordersBest : yX7_ordersBest.cls = RX7 ∧ yX7_ordersBest.cls ≠ "java/lang/invoke/MethodHandle" ∧ yX7_ordersBest.cls ≠ "java/lang/invoke/VarHandle" ∧ (parseMethodDescriptor yX7_ordersBest.desc).map (fun d => d.parameters.length) = some 0 := by decide +kernel
theorem hd_X7_ordersNext : yX7_ordersNext.cls = RX7 ∧ yX7_ordersNext.cls ≠ "java/lang/invoke/MethodHandle" ∧ yX7_ordersNext.cls ≠ "java/lang/invoke/VarHandle" ∧ (parseMethodDescriptor yX7_ordersNext.desc).map (fun d => d.parameters.length) = some 0 := by decide +kernel
theorem hd_X7_ordersUsually : yX7_ordersUsually.cls = RX7 ∧ yX7_ordersUsually.cls ≠ "java/lang/invoke/MethodHandle" ∧ yX7_ordersUsually.cls ≠ "java/lang/invoke/VarHandle" ∧ (parseMethodDescriptor yX7_ordersUsually.desc).map (fun d => d.parameters.length) = some 0 := by decide +kernel
theorem hd_X7_packs : yX7_packs.cls = RX7 ∧ yX7_packs.cls ≠ "java/lang/invoke/MethodHandle" ∧ yX7_packs.cls ≠ "java/lang/invoke/VarHandle" ∧ (parseMethodDescriptor yX7_packs.desc).map (fun d => d.parameters.length) = some 0 := by decide +kernel
theorem hd_X7_place : yX7_place.cls = RX7 ∧ yX7_place.cls ≠ "java/lang/invoke/MethodHandle" ∧ yX7_place.cls ≠ "java/lang/invoke/VarHandle" ∧ (parseMethodDescriptor yX7_place.desc).map (fun d => d.parameters.length) = some 2 := by decide +kernel
theorem hd_X7_plays : yX7_plays.cls = RX7 ∧ yX7_plays.cls ≠ "java/lang/invoke/MethodHandle" ∧ yX7_plays.cls ≠ "java/lang/invoke/VarHandle" ∧ (parseMethodDescriptor yX7_plays.desc).map (fun d => d.parameters.length) = some 1 := by decide +kernel
theorem hd_X7_readsInto : yX7_readsInto.cls = RX7 ∧ yX7_readsInto.cls ≠ "java/lang/invoke/MethodHandle" ∧ yX7_readsInto.cls ≠ "java/lang/invoke/VarHandle" ∧ (parseMethodDescriptor yX7_readsInto.desc).map (fun d => d.parameters.length) = some 3 := by decide +kernel
theorem hd_X7_readsNumber : yX7_readsNumber.cls = RX7 ∧ yX7_readsNumber.cls ≠ "java/lang/invoke/MethodHandle" ∧ yX7_readsNumber.cls ≠ "java/lang/invoke/VarHandle" ∧ (parseMethodDescriptor yX7_readsNumber.desc).map (fun d => d.parameters.length) = some 3 := by decide +kernel
theorem hd_X7_readsTray : yX7_readsTray.cls = RX7 ∧ yX7_readsTray.cls ≠ "java/lang/invoke/MethodHandle" ∧ yX7_readsTray.cls ≠ "java/lang/invoke/VarHandle" ∧ (parseMethodDescriptor yX7_readsTray.desc).map (fun d => d.parameters.length) = some 0 := by decide +kernel
theorem hd_X7_records : yX7_records.cls = RX7 ∧ yX7_records.cls ≠ "java/lang/invoke/MethodHandle" ∧ yX7_records.cls ≠ "java/lang/invoke/VarHandle" ∧ (parseMethodDescriptor yX7_records.desc).map (fun d => d.parameters.length) = some 0 := by decide +kernel
theorem hd_X7_recordsKept : yX7_recordsKept.cls = RX7 ∧ yX7_recordsKept.cls ≠ "java/lang/invoke/MethodHandle" ∧ yX7_recordsKept.cls ≠ "java/lang/invoke/VarHandle" ∧ (parseMethodDescriptor yX7_recordsKept.desc).map (fun d => d.parameters.length) = some 1 := by decide +kernel
theorem hd_X7_rests : yX7_rests.cls = RX7 ∧ yX7_rests.cls ≠ "java/lang/invoke/MethodHandle" ∧ yX7_rests.cls ≠ "java/lang/invoke/VarHandle" ∧ (parseMethodDescriptor yX7_rests.desc).map (fun d => d.parameters.length) = some 1 := by decide +kernel
theorem hd_X7_seen : yX7_seen.cls = RX7 ∧ yX7_seen.cls ≠ "java/lang/invoke/MethodHandle" ∧ yX7_seen.cls ≠ "java/lang/invoke/VarHandle" ∧ (parseMethodDescriptor yX7_seen.desc).map (fun d => d.parameters.length) = some 3 := by decide +kernel
theorem hd_X7_sets : yX7_sets.cls = RX7 ∧ yX7_sets.cls ≠ "java/lang/invoke/MethodHandle" ∧ yX7_sets.cls ≠ "java/lang/invoke/VarHandle" ∧ (parseMethodDescriptor yX7_sets.desc).map (fun d => d.parameters.length) = some 3 := by decide +kernel
theorem hd_X7_spans : yX7_spans.cls = RX7 ∧ yX7_spans.cls ≠ "java/lang/invoke/MethodHandle" ∧ yX7_spans.cls ≠ "java/lang/invoke/VarHandle" ∧ (parseMethodDescriptor yX7_spans.desc).map (fun d => d.parameters.length) = some 2 := by decide +kernel
theorem hd_X7_swaps : yX7_swaps.cls = RX7 ∧ yX7_swaps.cls ≠ "java/lang/invoke/MethodHandle" ∧ yX7_swaps.cls ≠ "java/lang/invoke/VarHandle" ∧ (parseMethodDescriptor yX7_swaps.desc).map (fun d => d.parameters.length) = some 2 := by decide +kernel
theorem hd_X7_takes : yX7_takes.cls = RX7 ∧ yX7_takes.cls ≠ "java/lang/invoke/MethodHandle" ∧ yX7_takes.cls ≠ "java/lang/invoke/VarHandle" ∧ (parseMethodDescriptor yX7_takes.desc).map (fun d => d.parameters.length) = some 1 := by decide +kernel
theorem hd_X7_top : yX7_top.cls = RX7 ∧ yX7_top.cls ≠ "java/lang/invoke/MethodHandle" ∧ yX7_top.cls ≠ "java/lang/invoke/VarHandle" ∧ (parseMethodDescriptor yX7_top.desc).map (fun d => d.parameters.length) = some 1 := by decide +kernel
theorem hd_X7_tray : yX7_tray.cls = RX7 ∧ yX7_tray.cls ≠ "java/lang/invoke/MethodHandle" ∧ yX7_tray.cls ≠ "java/lang/invoke/VarHandle" ∧ (parseMethodDescriptor yX7_tray.desc).map (fun d => d.parameters.length) = some 2 := by decide +kernel
theorem hd_X7_trays : yX7_trays.cls = RX7 ∧ yX7_trays.cls ≠ "java/lang/invoke/MethodHandle" ∧ yX7_trays.cls ≠ "java/lang/invoke/VarHandle" ∧ (parseMethodDescriptor yX7_trays.desc).map (fun d => d.parameters.length) = some 0 := by decide +kernel
