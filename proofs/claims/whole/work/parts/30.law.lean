set_option maxRecDepth 100000 in
theorem wc_X6_add : Cond.code yX6_add cX6_add 5 (some .int) ∈ lwT := lwT_t (List.mem_of_getElem? (i := 390) (by decide +kernel)) rfl
set_option maxRecDepth 100000 in
theorem wc_X6_clearText : Cond.code yX6_clearText cX6_clearText 2 (some .int) ∈ lwT := lwT_t (List.mem_of_getElem? (i := 336) (by decide +kernel)) rfl
set_option maxRecDepth 100000 in
theorem wc_X6_digest : Cond.code yX6_digest cX6_digest 5 (some .long) ∈ lwT := lwT_t (List.mem_of_getElem? (i := 653) (by decide +kernel)) rfl
set_option maxRecDepth 100000 in
theorem wc_X6_drop : Cond.code yX6_drop cX6_drop 2 (some .int) ∈ lwT := lwT_t (List.mem_of_getElem? (i := 395) (by decide +kernel)) rfl
set_option maxRecDepth 100000 in
theorem wc_X6_empty : Cond.code yX6_empty cX6_empty 2 (some .int) ∈ lwT := lwT_t (List.mem_of_getElem? (i := 481) (by decide +kernel)) rfl
set_option maxRecDepth 100000 in
theorem wc_X6_faultKind : Cond.code yX6_faultKind cX6_faultKind 1 (some .int) ∈ lwT := lwT_t (List.mem_of_getElem? (i := 386) (by decide +kernel)) rfl
set_option maxRecDepth 100000 in
theorem wc_X6_ifPacked : Cond.code yX6_ifPacked cX6_ifPacked 4 (some .int) ∈ lwT := lwT_t (List.mem_of_getElem? (i := 612) (by decide +kernel)) rfl
set_option maxRecDepth 100000 in
theorem wc_X6_letDown : Cond.code yX6_letDown cX6_letDown 6 (some .int) ∈ lwT := lwT_t (List.mem_of_getElem? (i := 411) (by decide +kernel)) rfl
set_option maxRecDepth 100000 in
theorem wc_X6_load : Cond.code yX6_load cX6_load 2 (some .int) ∈ lwT := lwT_t (List.mem_of_getElem? (i := 340) (by decide +kernel)) rfl
set_option maxRecDepth 100000 in
theorem wc_X6_pack : Cond.code yX6_pack cX6_pack 1 (some .int) ∈ lwT := lwT_t (List.mem_of_getElem? (i := 542) (by decide +kernel)) rfl
set_option maxRecDepth 100000 in
theorem wc_X6_packBest : Cond.code yX6_packBest cX6_packBest 1 (some .int) ∈ lwT := lwT_t (List.mem_of_getElem? (i := 589) (by decide +kernel)) rfl
set_option maxRecDepth 100000 in
theorem wc_X6_places : Cond.code yX6_places cX6_places 2 (some .int) ∈ lwT := lwT_t (List.mem_of_getElem? (i := 538) (by decide +kernel)) rfl
set_option maxRecDepth 100000 in
theorem wc_X6_play : Cond.code yX6_play cX6_play 2 (some .int) ∈ lwT := lwT_t (List.mem_of_getElem? (i := 616) (by decide +kernel)) rfl
set_option maxRecDepth 100000 in
theorem wc_X6_setBox : Cond.code yX6_setBox cX6_setBox 5 (some .int) ∈ lwT := lwT_t (List.mem_of_getElem? (i := 283) (by decide +kernel)) rfl
set_option maxRecDepth 100000 in
theorem wc_X6_setShare : Cond.code yX6_setShare cX6_setShare 3 (some .int) ∈ lwT := lwT_t (List.mem_of_getElem? (i := 324) (by decide +kernel)) rfl
set_option maxRecDepth 100000 in
theorem wc_X6_setTray : Cond.code yX6_setTray cX6_setTray 6 (some .int) ∈ lwT := lwT_t (List.mem_of_getElem? (i := 407) (by decide +kernel)) rfl
set_option maxRecDepth 100000 in
theorem wc_X6_takeOut : Cond.code yX6_takeOut cX6_takeOut 3 (some .int) ∈ lwT := lwT_t (List.mem_of_getElem? (i := 464) (by decide +kernel)) rfl
set_option maxRecDepth 100000 in
theorem wc_X6_type : Cond.code yX6_type cX6_type 2 (some .int) ∈ lwT := lwT_t (List.mem_of_getElem? (i := 328) (by decide +kernel)) rfl
set_option maxRecDepth 100000 in
theorem wc_X6_undo : Cond.code yX6_undo cX6_undo 1 (some .int) ∈ lwT := lwT_t (List.mem_of_getElem? (i := 629) (by decide +kernel)) rfl
set_option maxRecDepth 100000 in
theorem wc_X7_add : Cond.code yX7_add cX7_add 6 (some .int) ∈ lwT := lwT_t (List.mem_of_getElem? (i := 881) (by decide +kernel)) rfl
set_option maxRecDepth 100000 in
theorem wc_X7_clearText : Cond.code yX7_clearText cX7_clearText 2 (some .int) ∈ lwT := lwT_t (List.mem_of_getElem? (i := 817) (by decide +kernel)) rfl
set_option maxRecDepth 100000 in
theorem wc_X7_digest : Cond.code yX7_digest cX7_digest 3 (some .long) ∈ lwT := lwT_t (List.mem_of_getElem? (i := 1029) (by decide +kernel)) rfl
set_option maxRecDepth 100000 in
theorem wc_X7_drop : Cond.code yX7_drop cX7_drop 3 (some .int) ∈ lwT := lwT_t (List.mem_of_getElem? (i := 885) (by decide +kernel)) rfl
set_option maxRecDepth 100000 in
theorem wc_X7_empty : Cond.code yX7_empty cX7_empty 2 (some .int) ∈ lwT := lwT_t (List.mem_of_getElem? (i := 909) (by decide +kernel)) rfl
set_option maxRecDepth 100000 in
theorem wc_X7_faultKind : Cond.code yX7_faultKind cX7_faultKind 1 (some .int) ∈ lwT := lwT_t (List.mem_of_getElem? (i := 861) (by decide +kernel)) rfl
set_option maxRecDepth 100000 in
theorem wc_X7_letDown : Cond.code yX7_letDown cX7_letDown 5 (some .int) ∈ lwT := lwT_t (List.mem_of_getElem? (i := 742) (by decide +kernel)) rfl
set_option maxRecDepth 100000 in
theorem wc_X7_load : Cond.code yX7_load cX7_load 2 (some .int) ∈ lwT := lwT_t (List.mem_of_getElem? (i := 821) (by decide +kernel)) rfl
set_option maxRecDepth 100000 in
theorem wc_X7_pack : Cond.code yX7_pack cX7_pack 1 (some .int) ∈ lwT := lwT_t (List.mem_of_getElem? (i := 945) (by decide +kernel)) rfl
set_option maxRecDepth 100000 in
theorem wc_X7_packBest : Cond.code yX7_packBest cX7_packBest 1 (some .int) ∈ lwT := lwT_t (List.mem_of_getElem? (i := 977) (by decide +kernel)) rfl
set_option maxRecDepth 100000 in
theorem wc_X7_places : Cond.code yX7_places cX7_places 2 (some .int) ∈ lwT := lwT_t (List.mem_of_getElem? (i := 941) (by decide +kernel)) rfl
set_option maxRecDepth 100000 in
theorem wc_X7_play : Cond.code yX7_play cX7_play 1 (some .int) ∈ lwT := lwT_t (List.mem_of_getElem? (i := 1001) (by decide +kernel)) rfl
set_option maxRecDepth 100000 in
theorem wc_X7_setBox : Cond.code yX7_setBox cX7_setBox 5 (some .int) ∈ lwT := lwT_t (List.mem_of_getElem? (i := 865) (by decide +kernel)) rfl
set_option maxRecDepth 100000 in
theorem wc_X7_setShare : Cond.code yX7_setShare cX7_setShare 3 (some .int) ∈ lwT := lwT_t (List.mem_of_getElem? (i := 877) (by decide +kernel)) rfl
set_option maxRecDepth 100000 in
theorem wc_X7_setTray : Cond.code yX7_setTray cX7_setTray 5 (some .int) ∈ lwT := lwT_t (List.mem_of_getElem? (i := 889) (by decide +kernel)) rfl
set_option maxRecDepth 100000 in
theorem wc_X7_takeOut : Cond.code yX7_takeOut cX7_takeOut 3 (some .int) ∈ lwT := lwT_t (List.mem_of_getElem? (i := 893) (by decide +kernel)) rfl
set_option maxRecDepth 100000 in
theorem wc_X7_type : Cond.code yX7_type cX7_type 2 (some .int) ∈ lwT := lwT_t (List.mem_of_getElem? (i := 813) (by decide +kernel)) rfl
set_option maxRecDepth 100000 in
theorem wc_X7_undo : Cond.code yX7_undo cX7_undo 1 (some .int) ∈ lwT := lwT_t (List.mem_of_getElem? (i := 734) (by decide +kernel)) rfl
set_option maxRecDepth 100000 in
theorem wi_X6_add : Cond.instanceMethod yX6_add ∈ lwT := lwT_t (List.mem_of_getElem? (i := 388) (by decide +kernel)) rfl
set_option maxRecDepth 100000 in
theorem wi_X6_clearText : Cond.instanceMethod yX6_clearText ∈ lwT := lwT_t (List.mem_of_getElem? (i := 334) (by decide +kernel)) rfl
set_option maxRecDepth 100000 in
theorem wi_X6_digest : Cond.instanceMethod yX6_digest ∈ lwT := lwT_t (List.mem_of_getElem? (i := 651) (by decide +kernel)) rfl
set_option maxRecDepth 100000 in
theorem wi_X6_drop : Cond.instanceMethod yX6_drop ∈ lwT := lwT_t (List.mem_of_getElem? (i := 393) (by decide +kernel)) rfl
set_option maxRecDepth 100000 in
theorem wi_X6_empty : Cond.instanceMethod yX6_empty ∈ lwT := lwT_t (List.mem_of_getElem? (i := 479) (by decide +kernel)) rfl
set_option maxRecDepth 100000 in
theorem wi_X6_faultKind : Cond.instanceMethod yX6_faultKind ∈ lwT := lwT_t (List.mem_of_getElem? (i := 384) (by decide +kernel)) rfl
set_option maxRecDepth 100000 in
theorem wi_X6_ifPacked : Cond.instanceMethod yX6_ifPacked ∈ lwT := lwT_t (List.mem_of_getElem? (i := 610) (by decide +kernel)) rfl
set_option maxRecDepth 100000 in
theorem wi_X6_letDown : Cond.instanceMethod yX6_letDown ∈ lwT := lwT_t (List.mem_of_getElem? (i := 409) (by decide +kernel)) rfl
set_option maxRecDepth 100000 in
theorem wi_X6_load : Cond.instanceMethod yX6_load ∈ lwT := lwT_t (List.mem_of_getElem? (i := 338) (by decide +kernel)) rfl
set_option maxRecDepth 100000 in
theorem wi_X6_pack : Cond.instanceMethod yX6_pack ∈ lwT := lwT_t (List.mem_of_getElem? (i := 540) (by decide +kernel)) rfl
set_option maxRecDepth 100000 in
theorem wi_X6_packBest : Cond.instanceMethod yX6_packBest ∈ lwT := lwT_t (List.mem_of_getElem? (i := 587) (by decide +kernel)) rfl
set_option maxRecDepth 100000 in
theorem wi_X6_places : Cond.instanceMethod yX6_places ∈ lwT := lwT_t (List.mem_of_getElem? (i := 536) (by decide +kernel)) rfl
set_option maxRecDepth 100000 in
theorem wi_X6_play : Cond.instanceMethod yX6_play ∈ lwT := lwT_t (List.mem_of_getElem? (i := 614) (by decide +kernel)) rfl
set_option maxRecDepth 100000 in
theorem wi_X6_setBox : Cond.instanceMethod yX6_setBox ∈ lwT := lwT_t (List.mem_of_getElem? (i := 281) (by decide +kernel)) rfl
set_option maxRecDepth 100000 in
theorem wi_X6_setShare : Cond.instanceMethod yX6_setShare ∈ lwT := lwT_t (List.mem_of_getElem? (i := 322) (by decide +kernel)) rfl
set_option maxRecDepth 100000 in
theorem wi_X6_setTray : Cond.instanceMethod yX6_setTray ∈ lwT := lwT_t (List.mem_of_getElem? (i := 405) (by decide +kernel)) rfl
set_option maxRecDepth 100000 in
theorem wi_X6_takeOut : Cond.instanceMethod yX6_takeOut ∈ lwT := lwT_t (List.mem_of_getElem? (i := 462) (by decide +kernel)) rfl
set_option maxRecDepth 100000 in
theorem wi_X6_type : Cond.instanceMethod yX6_type ∈ lwT := lwT_t (List.mem_of_getElem? (i := 326) (by decide +kernel)) rfl
set_option maxRecDepth 100000 in
theorem wi_X6_undo : Cond.instanceMethod yX6_undo ∈ lwT := lwT_t (List.mem_of_getElem? (i := 627) (by decide +kernel)) rfl
set_option maxRecDepth 100000 in
theorem wi_X7_add : Cond.instanceMethod yX7_add ∈ lwT := lwT_t (List.mem_of_getElem? (i := 879) (by decide +kernel)) rfl
set_option maxRecDepth 100000 in
theorem wi_X7_clearText : Cond.instanceMethod yX7_clearText ∈ lwT := lwT_t (List.mem_of_getElem? (i := 815) (by decide +kernel)) rfl
set_option maxRecDepth 100000 in
theorem wi_X7_digest : Cond.instanceMethod yX7_digest ∈ lwT := lwT_t (List.mem_of_getElem? (i := 1027) (by decide +kernel)) rfl
set_option maxRecDepth 100000 in
theorem wi_X7_drop : Cond.instanceMethod yX7_drop ∈ lwT := lwT_t (List.mem_of_getElem? (i := 883) (by decide +kernel)) rfl
set_option maxRecDepth 100000 in
theorem wi_X7_empty : Cond.instanceMethod yX7_empty ∈ lwT := lwT_t (List.mem_of_getElem? (i := 907) (by decide +kernel)) rfl
set_option maxRecDepth 100000 in
theorem wi_X7_faultKind : Cond.instanceMethod yX7_faultKind ∈ lwT := lwT_t (List.mem_of_getElem? (i := 859) (by decide +kernel)) rfl
set_option maxRecDepth 100000 in
theorem wi_X7_letDown : Cond.instanceMethod yX7_letDown ∈ lwT := lwT_t (List.mem_of_getElem? (i := 740) (by decide +kernel)) rfl
set_option maxRecDepth 100000 in
theorem wi_X7_load : Cond.instanceMethod yX7_load ∈ lwT := lwT_t (List.mem_of_getElem? (i := 819) (by decide +kernel)) rfl
set_option maxRecDepth 100000 in
theorem wi_X7_pack : Cond.instanceMethod yX7_pack ∈ lwT := lwT_t (List.mem_of_getElem? (i := 943) (by decide +kernel)) rfl
set_option maxRecDepth 100000 in
theorem wi_X7_packBest : Cond.instanceMethod yX7_packBest ∈ lwT := lwT_t (List.mem_of_getElem? (i := 975) (by decide +kernel)) rfl
set_option maxRecDepth 100000 in
theorem wi_X7_places : Cond.instanceMethod yX7_places ∈ lwT := lwT_t (List.mem_of_getElem? (i := 939) (by decide +kernel)) rfl
set_option maxRecDepth 100000 in
theorem wi_X7_play : Cond.instanceMethod yX7_play ∈ lwT := lwT_t (List.mem_of_getElem? (i := 999) (by decide +kernel)) rfl
set_option maxRecDepth 100000 in
theorem wi_X7_setBox : Cond.instanceMethod yX7_setBox ∈ lwT := lwT_t (List.mem_of_getElem? (i := 863) (by decide +kernel)) rfl
set_option maxRecDepth 100000 in
theorem wi_X7_setShare : Cond.instanceMethod yX7_setShare ∈ lwT := lwT_t (List.mem_of_getElem? (i := 875) (by decide +kernel)) rfl
set_option maxRecDepth 100000 in
theorem wi_X7_setTray : Cond.instanceMethod yX7_setTray ∈ lwT := lwT_t (List.mem_of_getElem? (i := 887) (by decide +kernel)) rfl
set_option maxRecDepth 100000 in
theorem wi_X7_takeOut : Cond.instanceMethod yX7_takeOut ∈ lwT := lwT_t (List.mem_of_getElem? (i := 891) (by decide +kernel)) rfl
set_option maxRecDepth 100000 in
theorem wi_X7_type : Cond.instanceMethod yX7_type ∈ lwT := lwT_t (List.mem_of_getElem? (i := 811) (by decide +kernel)) rfl
set_option maxRecDepth 100000 in
theorem wi_X7_undo : Cond.instanceMethod yX7_undo ∈ lwT := lwT_t (List.mem_of_getElem? (i := 732) (by decide +kernel)) rfl
set_option maxRecDepth 100000 in
theorem wm_L_100 : Cond.methodLink RL 100 yX7_play ∈ lwT := lwT_t (List.mem_of_getElem? (i := 998) (by decide +kernel)) rfl
set_option maxRecDepth 100000 in
theorem wm_L_101 : Cond.methodLink RL 101 yX6_liftsTo ∈ lwT := lwT_t (List.mem_of_getElem? (i := 622) (by decide +kernel)) rfl
set_option maxRecDepth 100000 in
theorem wm_L_104 : Cond.methodLink RL 104 yX7_liftsTo ∈ lwT := lwT_t (List.mem_of_getElem? (i := 1010) (by decide +kernel)) rfl
set_option maxRecDepth 100000 in
theorem wm_L_105 : Cond.methodLink RL 105 yX6_undo ∈ lwT := lwT_t (List.mem_of_getElem? (i := 626) (by decide +kernel)) rfl
set_option maxRecDepth 100000 in
theorem wm_L_108 : Cond.methodLink RL 108 yX7_undo ∈ lwT := lwT_t (List.mem_of_getElem? (i := 731) (by decide +kernel)) rfl
set_option maxRecDepth 100000 in
theorem wm_L_109 : Cond.methodLink RL 109 yX6_count ∈ lwT := lwT_t (List.mem_of_getElem? (i := 634) (by decide +kernel)) rfl
set_option maxRecDepth 100000 in
theorem wm_L_112 : Cond.methodLink RL 112 yX7_count ∈ lwT := lwT_t (List.mem_of_getElem? (i := 1014) (by decide +kernel)) rfl
set_option maxRecDepth 100000 in
theorem wm_L_113 : Cond.methodLink RL 113 yX6_digest ∈ lwT := lwT_t (List.mem_of_getElem? (i := 650) (by decide +kernel)) rfl
set_option maxRecDepth 100000 in
theorem wm_L_117 : Cond.methodLink RL 117 yX7_digest ∈ lwT := lwT_t (List.mem_of_getElem? (i := 1026) (by decide +kernel)) rfl
set_option maxRecDepth 100000 in
theorem wm_L_13 : Cond.methodLink RL 13 yX6_setBox ∈ lwT := lwT_t (List.mem_of_getElem? (i := 280) (by decide +kernel)) rfl
set_option maxRecDepth 100000 in
theorem wm_L_17 : Cond.methodLink RL 17 yX7_setBox ∈ lwT := lwT_t (List.mem_of_getElem? (i := 862) (by decide +kernel)) rfl
set_option maxRecDepth 100000 in
theorem wm_L_18 : Cond.methodLink RL 18 yX6_setShare ∈ lwT := lwT_t (List.mem_of_getElem? (i := 321) (by decide +kernel)) rfl
set_option maxRecDepth 100000 in
theorem wm_L_22 : Cond.methodLink RL 22 yX7_setShare ∈ lwT := lwT_t (List.mem_of_getElem? (i := 874) (by decide +kernel)) rfl
set_option maxRecDepth 100000 in
theorem wm_L_23 : Cond.methodLink RL 23 yX6_type ∈ lwT := lwT_t (List.mem_of_getElem? (i := 325) (by decide +kernel)) rfl
set_option maxRecDepth 100000 in
theorem wm_L_26 : Cond.methodLink RL 26 yX7_type ∈ lwT := lwT_t (List.mem_of_getElem? (i := 810) (by decide +kernel)) rfl
set_option maxRecDepth 100000 in
theorem wm_L_27 : Cond.methodLink RL 27 yX6_clearText ∈ lwT := lwT_t (List.mem_of_getElem? (i := 333) (by decide +kernel)) rfl
set_option maxRecDepth 100000 in
theorem wm_L_31 : Cond.methodLink RL 31 yX7_clearText ∈ lwT := lwT_t (List.mem_of_getElem? (i := 814) (by decide +kernel)) rfl
set_option maxRecDepth 100000 in
theorem wm_L_32 : Cond.methodLink RL 32 yX6_load ∈ lwT := lwT_t (List.mem_of_getElem? (i := 337) (by decide +kernel)) rfl
set_option maxRecDepth 100000 in
theorem wm_L_35 : Cond.methodLink RL 35 yX7_load ∈ lwT := lwT_t (List.mem_of_getElem? (i := 818) (by decide +kernel)) rfl
set_option maxRecDepth 100000 in
theorem wm_L_36 : Cond.methodLink RL 36 yX6_faultKind ∈ lwT := lwT_t (List.mem_of_getElem? (i := 383) (by decide +kernel)) rfl
set_option maxRecDepth 100000 in
theorem wm_L_39 : Cond.methodLink RL 39 yX7_faultKind ∈ lwT := lwT_t (List.mem_of_getElem? (i := 858) (by decide +kernel)) rfl
set_option maxRecDepth 100000 in
theorem wm_L_40 : Cond.methodLink RL 40 yX6_add ∈ lwT := lwT_t (List.mem_of_getElem? (i := 387) (by decide +kernel)) rfl
set_option maxRecDepth 100000 in
theorem wm_L_44 : Cond.methodLink RL 44 yX7_add ∈ lwT := lwT_t (List.mem_of_getElem? (i := 878) (by decide +kernel)) rfl
set_option maxRecDepth 100000 in
theorem wm_L_45 : Cond.methodLink RL 45 yX6_drop ∈ lwT := lwT_t (List.mem_of_getElem? (i := 392) (by decide +kernel)) rfl
set_option maxRecDepth 100000 in
theorem wm_L_48 : Cond.methodLink RL 48 yX7_drop ∈ lwT := lwT_t (List.mem_of_getElem? (i := 882) (by decide +kernel)) rfl
set_option maxRecDepth 100000 in
theorem wm_L_49 : Cond.methodLink RL 49 yX6_setTray ∈ lwT := lwT_t (List.mem_of_getElem? (i := 404) (by decide +kernel)) rfl
set_option maxRecDepth 100000 in
theorem wm_L_52 : Cond.methodLink RL 52 yX7_setTray ∈ lwT := lwT_t (List.mem_of_getElem? (i := 886) (by decide +kernel)) rfl
set_option maxRecDepth 100000 in
theorem wm_L_53 : Cond.methodLink RL 53 yX6_letDown ∈ lwT := lwT_t (List.mem_of_getElem? (i := 408) (by decide +kernel)) rfl
set_option maxRecDepth 100000 in
theorem wm_L_57 : Cond.methodLink RL 57 yX7_letDown ∈ lwT := lwT_t (List.mem_of_getElem? (i := 739) (by decide +kernel)) rfl
set_option maxRecDepth 100000 in
theorem wm_L_58 : Cond.methodLink RL 58 yX6_takeOut ∈ lwT := lwT_t (List.mem_of_getElem? (i := 461) (by decide +kernel)) rfl
set_option maxRecDepth 100000 in
theorem wm_L_61 : Cond.methodLink RL 61 yX7_takeOut ∈ lwT := lwT_t (List.mem_of_getElem? (i := 890) (by decide +kernel)) rfl
set_option maxRecDepth 100000 in
theorem wm_L_62 : Cond.methodLink RL 62 yX6_empty ∈ lwT := lwT_t (List.mem_of_getElem? (i := 478) (by decide +kernel)) rfl
set_option maxRecDepth 100000 in
theorem wm_L_65 : Cond.methodLink RL 65 yX7_empty ∈ lwT := lwT_t (List.mem_of_getElem? (i := 906) (by decide +kernel)) rfl
set_option maxRecDepth 100000 in
theorem wm_L_66 : Cond.methodLink RL 66 yX6_tray ∈ lwT := lwT_t (List.mem_of_getElem? (i := 482) (by decide +kernel)) rfl
set_option maxRecDepth 100000 in
theorem wm_L_70 : Cond.methodLink RL 70 yX7_tray ∈ lwT := lwT_t (List.mem_of_getElem? (i := 910) (by decide +kernel)) rfl
set_option maxRecDepth 100000 in
theorem wm_L_71 : Cond.methodLink RL 71 yX6_seen ∈ lwT := lwT_t (List.mem_of_getElem? (i := 508) (by decide +kernel)) rfl
set_option maxRecDepth 100000 in
theorem wm_L_75 : Cond.methodLink RL 75 yX7_seen ∈ lwT := lwT_t (List.mem_of_getElem? (i := 926) (by decide +kernel)) rfl
set_option maxRecDepth 100000 in
theorem wm_L_76 : Cond.methodLink RL 76 yX6_place ∈ lwT := lwT_t (List.mem_of_getElem? (i := 520) (by decide +kernel)) rfl
set_option maxRecDepth 100000 in
theorem wm_L_79 : Cond.methodLink RL 79 yX7_place ∈ lwT := lwT_t (List.mem_of_getElem? (i := 930) (by decide +kernel)) rfl
set_option maxRecDepth 100000 in
theorem wm_L_80 : Cond.methodLink RL 80 yX6_places ∈ lwT := lwT_t (List.mem_of_getElem? (i := 535) (by decide +kernel)) rfl
set_option maxRecDepth 100000 in
theorem wm_L_83 : Cond.methodLink RL 83 yX7_places ∈ lwT := lwT_t (List.mem_of_getElem? (i := 938) (by decide +kernel)) rfl
set_option maxRecDepth 100000 in
theorem wm_L_84 : Cond.methodLink RL 84 yX6_pack ∈ lwT := lwT_t (List.mem_of_getElem? (i := 539) (by decide +kernel)) rfl
set_option maxRecDepth 100000 in
theorem wm_L_87 : Cond.methodLink RL 87 yX7_pack ∈ lwT := lwT_t (List.mem_of_getElem? (i := 942) (by decide +kernel)) rfl
set_option maxRecDepth 100000 in
theorem wm_L_88 : Cond.methodLink RL 88 yX6_packBest ∈ lwT := lwT_t (List.mem_of_getElem? (i := 586) (by decide +kernel)) rfl
set_option maxRecDepth 100000 in
theorem wm_L_91 : Cond.methodLink RL 91 yX7_packBest ∈ lwT := lwT_t (List.mem_of_getElem? (i := 974) (by decide +kernel)) rfl
set_option maxRecDepth 100000 in
theorem wm_L_92 : Cond.methodLink RL 92 yX6_ifPacked ∈ lwT := lwT_t (List.mem_of_getElem? (i := 609) (by decide +kernel)) rfl
set_option maxRecDepth 100000 in
theorem wm_L_96 : Cond.methodLink RL 96 yX7_ifPacked ∈ lwT := lwT_t (List.mem_of_getElem? (i := 994) (by decide +kernel)) rfl
set_option maxRecDepth 100000 in
theorem wm_L_97 : Cond.methodLink RL 97 yX6_play ∈ lwT := lwT_t (List.mem_of_getElem? (i := 613) (by decide +kernel)) rfl
set_option maxRecDepth 100000 in
theorem ws_X6_add : Cond.selects RX6 yX6_add yX6_add ∈ lwT := lwT_t (List.mem_of_getElem? (i := 389) (by decide +kernel)) rfl
set_option maxRecDepth 100000 in
theorem ws_X6_clearText : Cond.selects RX6 yX6_clearText yX6_clearText ∈ lwT := lwT_t (List.mem_of_getElem? (i := 335) (by decide +kernel)) rfl
set_option maxRecDepth 100000 in
theorem ws_X6_digest : Cond.selects RX6 yX6_digest yX6_digest ∈ lwT := lwT_t (List.mem_of_getElem? (i := 652) (by decide +kernel)) rfl
set_option maxRecDepth 100000 in
theorem ws_X6_drop : Cond.selects RX6 yX6_drop yX6_drop ∈ lwT := lwT_t (List.mem_of_getElem? (i := 394) (by decide +kernel)) rfl
set_option maxRecDepth 100000 in
theorem ws_X6_empty : Cond.selects RX6 yX6_empty yX6_empty ∈ lwT := lwT_t (List.mem_of_getElem? (i := 480) (by decide +kernel)) rfl
set_option maxRecDepth 100000 in
theorem ws_X6_faultKind : Cond.selects RX6 yX6_faultKind yX6_faultKind ∈ lwT := lwT_t (List.mem_of_getElem? (i := 385) (by decide +kernel)) rfl
set_option maxRecDepth 100000 in
theorem ws_X6_ifPacked : Cond.selects RX6 yX6_ifPacked yX6_ifPacked ∈ lwT := lwT_t (List.mem_of_getElem? (i := 611) (by decide +kernel)) rfl
set_option maxRecDepth 100000 in
theorem ws_X6_letDown : Cond.selects RX6 yX6_letDown yX6_letDown ∈ lwT := lwT_t (List.mem_of_getElem? (i := 410) (by decide +kernel)) rfl
set_option maxRecDepth 100000 in
theorem ws_X6_load : Cond.selects RX6 yX6_load yX6_load ∈ lwT := lwT_t (List.mem_of_getElem? (i := 339) (by decide +kernel)) rfl
set_option maxRecDepth 100000 in
theorem ws_X6_pack : Cond.selects RX6 yX6_pack yX6_pack ∈ lwT := lwT_t (List.mem_of_getElem? (i := 541) (by decide +kernel)) rfl
set_option maxRecDepth 100000 in
theorem ws_X6_packBest : Cond.selects RX6 yX6_packBest yX6_packBest ∈ lwT := lwT_t (List.mem_of_getElem? (i := 588) (by decide +kernel)) rfl
set_option maxRecDepth 100000 in
theorem ws_X6_places : Cond.selects RX6 yX6_places yX6_places ∈ lwT := lwT_t (List.mem_of_getElem? (i := 537) (by decide +kernel)) rfl
set_option maxRecDepth 100000 in
theorem ws_X6_play : Cond.selects RX6 yX6_play yX6_play ∈ lwT := lwT_t (List.mem_of_getElem? (i := 615) (by decide +kernel)) rfl
set_option maxRecDepth 100000 in
theorem ws_X6_setBox : Cond.selects RX6 yX6_setBox yX6_setBox ∈ lwT := lwT_t (List.mem_of_getElem? (i := 282) (by decide +kernel)) rfl
set_option maxRecDepth 100000 in
theorem ws_X6_setShare : Cond.selects RX6 yX6_setShare yX6_setShare ∈ lwT := lwT_t (List.mem_of_getElem? (i := 323) (by decide +kernel)) rfl
set_option maxRecDepth 100000 in
theorem ws_X6_setTray : Cond.selects RX6 yX6_setTray yX6_setTray ∈ lwT := lwT_t (List.mem_of_getElem? (i := 406) (by decide +kernel)) rfl
set_option maxRecDepth 100000 in
theorem ws_X6_takeOut : Cond.selects RX6 yX6_takeOut yX6_takeOut ∈ lwT := lwT_t (List.mem_of_getElem? (i := 463) (by decide +kernel)) rfl
set_option maxRecDepth 100000 in
theorem ws_X6_type : Cond.selects RX6 yX6_type yX6_type ∈ lwT := lwT_t (List.mem_of_getElem? (i := 327) (by decide +kernel)) rfl
set_option maxRecDepth 100000 in
theorem ws_X6_undo : Cond.selects RX6 yX6_undo yX6_undo ∈ lwT := lwT_t (List.mem_of_getElem? (i := 628) (by decide +kernel)) rfl
set_option maxRecDepth 100000 in
theorem ws_X7_add : Cond.selects RX7 yX7_add yX7_add ∈ lwT := lwT_t (List.mem_of_getElem? (i := 880) (by decide +kernel)) rfl
set_option maxRecDepth 100000 in
theorem ws_X7_clearText : Cond.selects RX7 yX7_clearText yX7_clearText ∈ lwT := lwT_t (List.mem_of_getElem? (i := 816) (by decide +kernel)) rfl
set_option maxRecDepth 100000 in
theorem ws_X7_digest : Cond.selects RX7 yX7_digest yX7_digest ∈ lwT := lwT_t (List.mem_of_getElem? (i := 1028) (by decide +kernel)) rfl
set_option maxRecDepth 100000 in
theorem ws_X7_drop : Cond.selects RX7 yX7_drop yX7_drop ∈ lwT := lwT_t (List.mem_of_getElem? (i := 884) (by decide +kernel)) rfl
set_option maxRecDepth 100000 in
theorem ws_X7_empty : Cond.selects RX7 yX7_empty yX7_empty ∈ lwT := lwT_t (List.mem_of_getElem? (i := 908) (by decide +kernel)) rfl
set_option maxRecDepth 100000 in
theorem ws_X7_faultKind : Cond.selects RX7 yX7_faultKind yX7_faultKind ∈ lwT := lwT_t (List.mem_of_getElem? (i := 860) (by decide +kernel)) rfl
set_option maxRecDepth 100000 in
theorem ws_X7_letDown : Cond.selects RX7 yX7_letDown yX7_letDown ∈ lwT := lwT_t (List.mem_of_getElem? (i := 741) (by decide +kernel)) rfl
set_option maxRecDepth 100000 in
theorem ws_X7_load : Cond.selects RX7 yX7_load yX7_load ∈ lwT := lwT_t (List.mem_of_getElem? (i := 820) (by decide +kernel)) rfl
set_option maxRecDepth 100000 in
theorem ws_X7_pack : Cond.selects RX7 yX7_pack yX7_pack ∈ lwT := lwT_t (List.mem_of_getElem? (i := 944) (by decide +kernel)) rfl
set_option maxRecDepth 100000 in
theorem ws_X7_packBest : Cond.selects RX7 yX7_packBest yX7_packBest ∈ lwT := lwT_t (List.mem_of_getElem? (i := 976) (by decide +kernel)) rfl
set_option maxRecDepth 100000 in
theorem ws_X7_places : Cond.selects RX7 yX7_places yX7_places ∈ lwT := lwT_t (List.mem_of_getElem? (i := 940) (by decide +kernel)) rfl
set_option maxRecDepth 100000 in
theorem ws_X7_play : Cond.selects RX7 yX7_play yX7_play ∈ lwT := lwT_t (List.mem_of_getElem? (i := 1000) (by decide +kernel)) rfl
set_option maxRecDepth 100000 in
theorem ws_X7_setBox : Cond.selects RX7 yX7_setBox yX7_setBox ∈ lwT := lwT_t (List.mem_of_getElem? (i := 864) (by decide +kernel)) rfl
set_option maxRecDepth 100000 in
theorem ws_X7_setShare : Cond.selects RX7 yX7_setShare yX7_setShare ∈ lwT := lwT_t (List.mem_of_getElem? (i := 876) (by decide +kernel)) rfl
set_option maxRecDepth 100000 in
theorem ws_X7_setTray : Cond.selects RX7 yX7_setTray yX7_setTray ∈ lwT := lwT_t (List.mem_of_getElem? (i := 888) (by decide +kernel)) rfl
set_option maxRecDepth 100000 in
theorem ws_X7_takeOut : Cond.selects RX7 yX7_takeOut yX7_takeOut ∈ lwT := lwT_t (List.mem_of_getElem? (i := 892) (by decide +kernel)) rfl
set_option maxRecDepth 100000 in
theorem ws_X7_type : Cond.selects RX7 yX7_type yX7_type ∈ lwT := lwT_t (List.mem_of_getElem? (i := 812) (by decide +kernel)) rfl
set_option maxRecDepth 100000 in
theorem ws_X7_undo : Cond.selects RX7 yX7_undo yX7_undo ∈ lwT := lwT_t (List.mem_of_getElem? (i := 733) (by decide +kernel)) rfl
theorem hd_X6_add : yX6_add.cls = RX6 ∧ yX6_add.cls ≠ "java/lang/invoke/MethodHandle" ∧ yX6_add.cls ≠ "java/lang/invoke/VarHandle" ∧ (parseMethodDescriptor yX6_add.desc).map (fun d => d.parameters.length) = some 4 := by decide +kernel
theorem hd_X6_clearText : yX6_clearText.cls = RX6 ∧ yX6_clearText.cls ≠ "java/lang/invoke/MethodHandle" ∧ yX6_clearText.cls ≠ "java/lang/invoke/VarHandle" ∧ (parseMethodDescriptor yX6_clearText.desc).map (fun d => d.parameters.length) = some 0 := by decide +kernel
theorem hd_X6_digest : yX6_digest.cls = RX6 ∧ yX6_digest.cls ≠ "java/lang/invoke/MethodHandle" ∧ yX6_digest.cls ≠ "java/lang/invoke/VarHandle" ∧ (parseMethodDescriptor yX6_digest.desc).map (fun d => d.parameters.length) = some 0 := by decide +kernel
theorem hd_X6_drop : yX6_drop.cls = RX6 ∧ yX6_drop.cls ≠ "java/lang/invoke/MethodHandle" ∧ yX6_drop.cls ≠ "java/lang/invoke/VarHandle" ∧ (parseMethodDescriptor yX6_drop.desc).map (fun d => d.parameters.length) = some 1 := by decide +kernel
theorem hd_X6_empty : yX6_empty.cls = RX6 ∧ yX6_empty.cls ≠ "java/lang/invoke/MethodHandle" ∧ yX6_empty.cls ≠ "java/lang/invoke/VarHandle" ∧ (parseMethodDescriptor yX6_empty.desc).map (fun d => d.parameters.length) = some 0 := by decide +kernel
theorem hd_X6_faultKind : yX6_faultKind.cls = RX6 ∧ yX6_faultKind.cls ≠ "java/lang/invoke/MethodHandle" ∧ yX6_faultKind.cls ≠ "java/lang/invoke/VarHandle" ∧ (parseMethodDescriptor yX6_faultKind.desc).map (fun d => d.parameters.length) = some 0 := by decide +kernel
theorem hd_X6_ifPacked : yX6_ifPacked.cls = RX6 ∧ yX6_ifPacked.cls ≠ "java/lang/invoke/MethodHandle" ∧ yX6_ifPacked.cls ≠ "java/lang/invoke/VarHandle" ∧ (parseMethodDescriptor yX6_ifPacked.desc).map (fun d => d.parameters.length) = some 2 := by decide +kernel
theorem hd_X6_letDown : yX6_letDown.cls = RX6 ∧ yX6_letDown.cls ≠ "java/lang/invoke/MethodHandle" ∧ yX6_letDown.cls ≠ "java/lang/invoke/VarHandle" ∧ (parseMethodDescriptor yX6_letDown.desc).map (fun d => d.parameters.length) = some 4 := by decide +kernel
theorem hd_X6_load : yX6_load.cls = RX6 ∧ yX6_load.cls ≠ "java/lang/invoke/MethodHandle" ∧ yX6_load.cls ≠ "java/lang/invoke/VarHandle" ∧ (parseMethodDescriptor yX6_load.desc).map (fun d => d.parameters.length) = some 0 := by decide +kernel
theorem hd_X6_pack : yX6_pack.cls = RX6 ∧ yX6_pack.cls ≠ "java/lang/invoke/MethodHandle" ∧ yX6_pack.cls ≠ "java/lang/invoke/VarHandle" ∧ (parseMethodDescriptor yX6_pack.desc).map (fun d => d.parameters.length) = some 0 := by decide +kernel
theorem hd_X6_packBest : yX6_packBest.cls = RX6 ∧ yX6_packBest.cls ≠ "java/lang/invoke/MethodHandle" ∧ yX6_packBest.cls ≠ "java/lang/invoke/VarHandle" ∧ (parseMethodDescriptor yX6_packBest.desc).map (fun d => d.parameters.length) = some 0 := by decide +kernel
theorem hd_X6_places : yX6_places.cls = RX6 ∧ yX6_places.cls ≠ "java/lang/invoke/MethodHandle" ∧ yX6_places.cls ≠ "java/lang/invoke/VarHandle" ∧ (parseMethodDescriptor yX6_places.desc).map (fun d => d.parameters.length) = some 1 := by decide +kernel
theorem hd_X6_play : yX6_play.cls = RX6 ∧ yX6_play.cls ≠ "java/lang/invoke/MethodHandle" ∧ yX6_play.cls ≠ "java/lang/invoke/VarHandle" ∧ (parseMethodDescriptor yX6_play.desc).map (fun d => d.parameters.length) = some 0 := by decide +kernel
theorem hd_X6_setBox : yX6_setBox.cls = RX6 ∧ yX6_setBox.cls ≠ "java/lang/invoke/MethodHandle" ∧ yX6_setBox.cls ≠ "java/lang/invoke/VarHandle" ∧ (parseMethodDescriptor yX6_setBox.desc).map (fun d => d.parameters.length) = some 3 := by decide +kernel
theorem hd_X6_setShare : yX6_setShare.cls = RX6 ∧ yX6_setShare.cls ≠ "java/lang/invoke/MethodHandle" ∧ yX6_setShare.cls ≠ "java/lang/invoke/VarHandle" ∧ (parseMethodDescriptor yX6_setShare.desc).map (fun d => d.parameters.length) = some 1 := by decide +kernel
theorem hd_X6_setTray : yX6_setTray.cls = RX6 ∧ yX6_setTray.cls ≠ "java/lang/invoke/MethodHandle" ∧ yX6_setTray.cls ≠ "java/lang/invoke/VarHandle" ∧ (parseMethodDescriptor yX6_setTray.desc).map (fun d => d.parameters.length) = some 3 := by decide +kernel
theorem hd_X6_takeOut : yX6_takeOut.cls = RX6 ∧ yX6_takeOut.cls ≠ "java/lang/invoke/MethodHandle" ∧ yX6_takeOut.cls ≠ "java/lang/invoke/VarHandle" ∧ (parseMethodDescriptor yX6_takeOut.desc).map (fun d => d.parameters.length) = some 1 := by decide +kernel
theorem hd_X6_type : yX6_type.cls = RX6 ∧ yX6_type.cls ≠ "java/lang/invoke/MethodHandle" ∧ yX6_type.cls ≠ "java/lang/invoke/VarHandle" ∧ (parseMethodDescriptor yX6_type.desc).map (fun d => d.parameters.length) = some 1 := by decide +kernel
theorem hd_X6_undo : yX6_undo.cls = RX6 ∧ yX6_undo.cls ≠ "java/lang/invoke/MethodHandle" ∧ yX6_undo.cls ≠ "java/lang/invoke/VarHandle" ∧ (parseMethodDescriptor yX6_undo.desc).map (fun d => d.parameters.length) = some 0 := by decide +kernel
theorem hd_X7_add : yX7_add.cls = RX7 ∧ yX7_add.cls ≠ "java/lang/invoke/MethodHandle" ∧ yX7_add.cls ≠ "java/lang/invoke/VarHandle" ∧ (parseMethodDescriptor yX7_add.desc).map (fun d => d.parameters.length) = some 4 := by decide +kernel
theorem hd_X7_clearText : yX7_clearText.cls = RX7 ∧ yX7_clearText.cls ≠ "java/lang/invoke/MethodHandle" ∧ yX7_clearText.cls ≠ "java/lang/invoke/VarHandle" ∧ (parseMethodDescriptor yX7_clearText.desc).map (fun d => d.parameters.length) = some 0 := by decide +kernel
theorem hd_X7_digest : yX7_digest.cls = RX7 ∧ yX7_digest.cls ≠ "java/lang/invoke/MethodHandle" ∧ yX7_digest.cls ≠ "java/lang/invoke/VarHandle" ∧ (parseMethodDescriptor yX7_digest.desc).map (fun d => d.parameters.length) = some 0 := by decide +kernel
theorem hd_X7_drop : yX7_drop.cls = RX7 ∧ yX7_drop.cls ≠ "java/lang/invoke/MethodHandle" ∧ yX7_drop.cls ≠ "java/lang/invoke/VarHandle" ∧ (parseMethodDescriptor yX7_drop.desc).map (fun d => d.parameters.length) = some 1 := by decide +kernel
theorem hd_X7_empty : yX7_empty.cls = RX7 ∧ yX7_empty.cls ≠ "java/lang/invoke/MethodHandle" ∧ yX7_empty.cls ≠ "java/lang/invoke/VarHandle" ∧ (parseMethodDescriptor yX7_empty.desc).map (fun d => d.parameters.length) = some 0 := by decide +kernel
theorem hd_X7_faultKind : yX7_faultKind.cls = RX7 ∧ yX7_faultKind.cls ≠ "java/lang/invoke/MethodHandle" ∧ yX7_faultKind.cls ≠ "java/lang/invoke/VarHandle" ∧ (parseMethodDescriptor yX7_faultKind.desc).map (fun d => d.parameters.length) = some 0 := by decide +kernel
theorem hd_X7_letDown : yX7_letDown.cls = RX7 ∧ yX7_letDown.cls ≠ "java/lang/invoke/MethodHandle" ∧ yX7_letDown.cls ≠ "java/lang/invoke/VarHandle" ∧ (parseMethodDescriptor yX7_letDown.desc).map (fun d => d.parameters.length) = some 4 := by decide +kernel
theorem hd_X7_load : yX7_load.cls = RX7 ∧ yX7_load.cls ≠ "java/lang/invoke/MethodHandle" ∧ yX7_load.cls ≠ "java/lang/invoke/VarHandle" ∧ (parseMethodDescriptor yX7_load.desc).map (fun d => d.parameters.length) = some 0 := by decide +kernel
theorem hd_X7_pack : yX7_pack.cls = RX7 ∧ yX7_pack.cls ≠ "java/lang/invoke/MethodHandle" ∧ yX7_pack.cls ≠ "java/lang/invoke/VarHandle" ∧ (parseMethodDescriptor yX7_pack.desc).map (fun d => d.parameters.length) = some 0 := by decide +kernel
theorem hd_X7_packBest : yX7_packBest.cls = RX7 ∧ yX7_packBest.cls ≠ "java/lang/invoke/MethodHandle" ∧ yX7_packBest.cls ≠ "java/lang/invoke/VarHandle" ∧ (parseMethodDescriptor yX7_packBest.desc).map (fun d => d.parameters.length) = some 0 := by decide +kernel
theorem hd_X7_places : yX7_places.cls = RX7 ∧ yX7_places.cls ≠ "java/lang/invoke/MethodHandle" ∧ yX7_places.cls ≠ "java/lang/invoke/VarHandle" ∧ (parseMethodDescriptor yX7_places.desc).map (fun d => d.parameters.length) = some 1 := by decide +kernel
theorem hd_X7_play : yX7_play.cls = RX7 ∧ yX7_play.cls ≠ "java/lang/invoke/MethodHandle" ∧ yX7_play.cls ≠ "java/lang/invoke/VarHandle" ∧ (parseMethodDescriptor yX7_play.desc).map (fun d => d.parameters.length) = some 0 := by decide +kernel
theorem hd_X7_setBox : yX7_setBox.cls = RX7 ∧ yX7_setBox.cls ≠ "java/lang/invoke/MethodHandle" ∧ yX7_setBox.cls ≠ "java/lang/invoke/VarHandle" ∧ (parseMethodDescriptor yX7_setBox.desc).map (fun d => d.parameters.length) = some 3 := by decide +kernel
theorem hd_X7_setShare : yX7_setShare.cls = RX7 ∧ yX7_setShare.cls ≠ "java/lang/invoke/MethodHandle" ∧ yX7_setShare.cls ≠ "java/lang/invoke/VarHandle" ∧ (parseMethodDescriptor yX7_setShare.desc).map (fun d => d.parameters.length) = some 1 := by decide +kernel
theorem hd_X7_setTray : yX7_setTray.cls = RX7 ∧ yX7_setTray.cls ≠ "java/lang/invoke/MethodHandle" ∧ yX7_setTray.cls ≠ "java/lang/invoke/VarHandle" ∧ (parseMethodDescriptor yX7_setTray.desc).map (fun d => d.parameters.length) = some 3 := by decide +kernel
theorem hd_X7_takeOut : yX7_takeOut.cls = RX7 ∧ yX7_takeOut.cls ≠ "java/lang/invoke/MethodHandle" ∧ yX7_takeOut.cls ≠ "java/lang/invoke/VarHandle" ∧ (parseMethodDescriptor yX7_takeOut.desc).map (fun d => d.parameters.length) = some 1 := by decide +kernel
theorem hd_X7_type : yX7_type.cls = RX7 ∧ yX7_type.cls ≠ "java/lang/invoke/MethodHandle" ∧ yX7_type.cls ≠ "java/lang/invoke/VarHandle" ∧ (parseMethodDescriptor yX7_type.desc).map (fun d => d.parameters.length) = some 1 := by decide +kernel
theorem hd_X7_undo : yX7_undo.cls = RX7 ∧ yX7_undo.cls ≠ "java/lang/invoke/MethodHandle" ∧ yX7_undo.cls ≠ "java/lang/invoke/VarHandle" ∧ (parseMethodDescriptor yX7_undo.desc).map (fun d => d.parameters.length) = some 0 := by decide +kernel
/-! THE CLAIM OUT OF ONE WALK OF THE LAW'S BODY. Your part is whole_start (and what it stands on); all else here is the same for every law, but numbers. -/
def R_law : String := "TrayBoxLaw"
def lw_P (b : Addr) (xs : List Int32) (args : Array Value) (s : State) : Prop := args = #[.ref b] ∧ s.IntsAt b xs ∧ xs.length ≤ 2560 ∧ (Jvm.Cond.and given_1 narrow_1).before args s = true
def lw_Q (_ : Array Value) (s : State) (o : Outcome) (t : State) : Prop := o = .returned (some (.int 1)) ∧ Framed s o t [] 600000 7302250
def lw_Z (below : List Frame) (a : Array Value) (s : State) : State → Prop := fun t => ∃ o, t.status = .running ∧ Ended t below o ∧ lw_Q a s o t
/-- the law's own end, with 1 on the stack, nothing written that was there before, its room as the claim has it -/
theorem lw_ret {p : Program} {l : Launch} {e : Env} {s : State} {m : MethodId} {below : List Frame} {meth : Method} {c : Code} {b : Nat} (hx : p.tables.exec = Jvm.exec) (hb : c.code = code) (hr : meth.sig.returnType = ret) (hlocks : meth.locks = false) {pc : Nat} {H : Heap} {ls : Array Slot} (hdg : decode code pc = .ok (.ireturn, 1)) : W p l e room_1 s m #[Value.ref b] below meth c H [] 600000 7302250 (lw_Z below #[Value.ref b] s) (F0 m pc ls [.int 1]) := by
  intro T hT X
  obtain ⟨fs, hret, hrun, hended, hW, hframe⟩ := X.leave (v := some (.int 1)) (hlocks := hlocks) (fun h => by rw [hr] at h; cases h)
  have hmeth' : T.vm.method? m = some meth := X.method'
  refine ⟨T.setFrames fs, ?_, .returned (some (.int 1)), hrun, hended, rfl, ⟨_, rfl⟩, hW, hframe⟩
  jvm_step X.here [X.here.top, hx, hb, hdg, hmeth', hr, ret, narrow_b1]
  (try refine ⟨rfl, ?_⟩); (try refine ⟨rfl, ?_⟩)
  first | (intro acts; rw [hret _ acts rfl rfl rfl]) | rw [hret _ _ rfl rfl rfl]
  exact Steps.refl _
/-- what holds at the law's entry: the machine, the code, the tables' words (any of lw_tbl by 'hts w (by decide +kernel)'), the script of L ints xs at the cell b, what the Statement gives of the start (any of its parts by flat_of_before) -/
def lw_At (p : Program) (s : State) (m : MethodId) (meth : Method) (c : Code) (b L : Nat) (xs : Nat → Int32) : Prop :=
  p.tables.exec = Jvm.exec ∧ c.code = code ∧ meth.sig.returnType = ret ∧ c.maxLocals = 4 ∧ s.vm.findClass R_law = some m.cls ∧ (∀ w ∈ lw_tbl, w.before #[Value.ref b] s = true) ∧ va_X b L xs s s.heap ∧ b < s.heap.size ∧ meth.locks = false ∧ (Jvm.Cond.and given_1 narrow_1).before #[Value.ref b] s = true
section XLAW
variable {p : Program} {l : Launch} {e : Env} {R : Room} {s : State} {m : MethodId} {args : Array Value} {below : List Frame} {meth : Method} {c : Code} {H : Heap} {locs : List Loc} {cells slots : Nat} {Q : State → Prop}
variable {cc : ByteArray} {nL pc : Nat} {own : String} {ls : Array Slot} {rest : List Value} {D : va_G} {y : Nat → ClassId} {ad am : Nat → Nat} {u w : S}
def ZH (D : va_G) (y : Nat → ClassId) (ad am : Nat → Nat) (u w : S) (s : State) (H : Heap) (locs : List Loc) : Prop := va_P D vwCl (wx y ad LX 168 u) H ∧ va_P D vwCl (wx y am LM 8 w) H ∧ va_S (fun q : Nat => s.heap.size ≤ q) s.heap H locs
def ZC (ad am : Nat → Nat) (s : State) : Prop := XI ad 168 ∧ XI am 8 ∧ (∀ j, j < 168 → s.heap.size ≤ ad j) ∧ (∀ j, j < 8 → s.heap.size ≤ am j) ∧ ∀ i j, i < 168 → j < 8 → ad i ≠ am j
theorem z_kept {N1 N2 : Nat} {a1 a2 : Nat → Nat} {L2 : XL} {v : S} {H H1 : Heap} (hdis : ∀ i j, i < N1 → j < N2 → a1 i ≠ a2 j) (hP : va_P D vwCl (wx y a2 L2 N2 v) H) (hk : ∀ q : Nat, q < H.size → ¬ XA a1 N1 q → H1[q]? = H[q]?) : va_P D vwCl (wx y a2 L2 N2 v) H1 :=
  hP.kept fun k x hx => by
    obtain ⟨hk2, rfl⟩ := wx_get hx
    refine hk _ ((hP k _ hx).lt) (fun h => ?_)
    obtain ⟨i, hi, he⟩ := h
    exact hdis i k hi hk2 he.symm
theorem z_backX (hZ : ZC ad am s) (hw : ZH D y ad am u w s H locs) {st0 : List Value} {a : Array Value} {o : Int32 × S} (hr : va_Run p l e R s m args below meth c H locs cells slots 0 0 (F0 m pc ls st0) rest (XQi D y ad LX 168 o a) (XA ad 168))
    (kk : ∀ (H1 : Heap) (locs1 : List Loc), ZH D y ad am o.2 w s H1 locs1 → W p l e R s m args below meth c H1 locs1 cells slots Q (F0 m (pc + 3) ls (.int o.1 :: rest))) : W p l e R s m args below meth c H locs cells slots Q (F0 m pc ls st0) :=
  va_calli hr hw.2.2 (fun q _ ⟨j, hj, h⟩ => by rw [h]; exact hZ.2.2.1 j hj) (fun q ⟨j, hj, h⟩ => by rw [h]; exact hZ.2.2.1 j hj) (fun r u t H1 locs1 ht _ hp hB _ hk hS => by
    subst hp
    exact kk H1 locs1 ⟨ht ▸ hB.1, z_kept hZ.2.2.2.2 hw.2.1 hk, hS⟩)
theorem z_backXl (hZ : ZC ad am s) (hw : ZH D y ad am u w s H locs) {st0 : List Value} {a : Array Value} {o : Int64 × S} (hr : va_Run p l e R s m args below meth c H locs cells slots 0 0 (F0 m pc ls st0) rest (XQl D y ad LX 168 o a) (XA ad 168))
    (kk : ∀ (H1 : Heap) (locs1 : List Loc), ZH D y ad am o.2 w s H1 locs1 → W p l e R s m args below meth c H1 locs1 cells slots Q (F0 m (pc + 3) ls (.long o.1 :: rest))) : W p l e R s m args below meth c H locs cells slots Q (F0 m pc ls st0) :=
  va_calll hr hw.2.2 (fun q _ ⟨j, hj, h⟩ => by rw [h]; exact hZ.2.2.1 j hj) (fun q ⟨j, hj, h⟩ => by rw [h]; exact hZ.2.2.1 j hj) (fun r u t H1 locs1 ht _ hp hB _ hk hS => by
    subst hp
    exact kk H1 locs1 ⟨ht ▸ hB.1, z_kept hZ.2.2.2.2 hw.2.1 hk, hS⟩)
theorem z_backM (hZ : ZC ad am s) (hw : ZH D y ad am u w s H locs) {st0 : List Value} {a : Array Value} {o : Int32 × S} (hr : va_Run p l e R s m args below meth c H locs cells slots 0 0 (F0 m pc ls st0) rest (XQi D y am LM 8 o a) (XA am 8))
    (kk : ∀ (H1 : Heap) (locs1 : List Loc), ZH D y ad am u o.2 s H1 locs1 → W p l e R s m args below meth c H1 locs1 cells slots Q (F0 m (pc + 3) ls (.int o.1 :: rest))) : W p l e R s m args below meth c H locs cells slots Q (F0 m pc ls st0) :=
  va_calli hr hw.2.2 (fun q _ ⟨j, hj, h⟩ => by rw [h]; exact hZ.2.2.2.1 j hj) (fun q ⟨j, hj, h⟩ => by rw [h]; exact hZ.2.2.2.1 j hj) (fun r u t H1 locs1 ht _ hp hB _ hk hS => by
    subst hp
    exact kk H1 locs1 ⟨z_kept (fun i j hi hj h => hZ.2.2.2.2 j i hj hi h.symm) hw.1 hk, ht ▸ hB.1, hS⟩)
theorem z_backMl (hZ : ZC ad am s) (hw : ZH D y ad am u w s H locs) {st0 : List Value} {a : Array Value} {o : Int64 × S} (hr : va_Run p l e R s m args below meth c H locs cells slots 0 0 (F0 m pc ls st0) rest (XQl D y am LM 8 o a) (XA am 8))
    (kk : ∀ (H1 : Heap) (locs1 : List Loc), ZH D y ad am u o.2 s H1 locs1 → W p l e R s m args below meth c H1 locs1 cells slots Q (F0 m (pc + 3) ls (.long o.1 :: rest))) : W p l e R s m args below meth c H locs cells slots Q (F0 m pc ls st0) :=
  va_calll hr hw.2.2 (fun q _ ⟨j, hj, h⟩ => by rw [h]; exact hZ.2.2.2.1 j hj) (fun q ⟨j, hj, h⟩ => by rw [h]; exact hZ.2.2.2.1 j hj) (fun r u t H1 locs1 ht _ hp hB _ hk hS => by
    subst hp
    exact kk H1 locs1 ⟨z_kept (fun i j hi hj h => hZ.2.2.2.2 j i hj hi h.symm) hw.1 hk, ht ▸ hB.1, hS⟩)
/-- the law's call of an instance method -/
theorem z_run {L : XL} {N : Nat} {aa : Nat → Nat} {σ : S} (C0 : CallFix p m c cc nL s args lwT own) (hK : XK D y s) (hP : va_P D vwCl (wx y aa L N σ) H) (hl : ls.size = nL) (h0 : cells ≤ R.cells ∧ slots ≤ R.slots) {C : String} {T : u_T} {yy : MethodName} {bytes : ByteArray} {maxL n index : Nat} {ret : Option FieldType} {ws' : List Cond} {rm : Room} {As : List Value} {Qc : Array Value → State → Outcome → State → Prop} {j ci nf : Nat} {r : Nat → Nat}
    (hM : Met l yy ws' rm (va_Pc (.ref (aa j) :: As) (XW D y aa L N σ)) Qc 0 0 (XA aa N)) (hj : j < N) (hL : L j = (ci + 4, nf, r)) (hc : vwCl[ci]? = some (C, T, nf)) (hws : ws' = .code yy bytes maxL ret :: lwT) (hcode : Cond.code yy bytes maxL ret ∈ lwT) (h1 : Cond.methodLink own index yy ∈ lwT) (h2 : Cond.instanceMethod yy ∈ lwT) (h3 : Cond.selects C yy yy ∈ lwT) (h4 : Cond.initialized C ∈ lwT) (hrm : rm.cells = 0 ∧ rm.slots = 0) (hd : yy.cls = C ∧ yy.cls ≠ "java/lang/invoke/MethodHandle" ∧ yy.cls ≠ "java/lang/invoke/VarHandle" ∧ (parseMethodDescriptor yy.desc).map (fun d => d.parameters.length) = some n) (hn : As.length = n) (hR : rm.frames + 1 ≤ R.frames ∧ 8 + (maxL + 11) + rm.locals ≤ R.locals) (hrest : (rest.map fun v => v.category).sum ≤ 8) (hdg : decode cc pc = .ok (.invokevirtual index, 3)) :
    va_Run p l e R s m args below meth c H locs cells slots 0 0 (F0 m pc ls (As.reverse ++ .ref (aa j) :: rest)) rest (Qc (Value.ref (aa j) :: As).toArray) (XA aa N) := by
  have he : (wx y aa L N σ)[j]? = some (aa j, .inr (ci, (List.range nf).map (fun k => xv aa σ j k (r k)))) := by
    rw [wx_at hj]
    simp [xc, hL]
  exact va_runV C0 hM (cwV n C0.2.2.2.2 (x_goodV hws hcode h1 h2 h3 h4) hws hrm.1 hrm.2 hd hR) ⟨xBlind, va_recv hK.1 hP hc he, fun U hU hW => ⟨rfl, by rw [hU]; exact hP, hK.warm hW⟩⟩ rfl hn hl rfl (lv_room hrest) hdg h0
end XLAW
theorem law_le {L i : Nat} (hL : L ≤ 2560) (hi : i ≤ 3000) (h : ¬ (Int32.ofNat L - 5 < nI i)) : i + 5 ≤ L := by
  have h1 : ¬ ((Int32.ofNat L - 5).toInt < (nI i).toInt) := fun q => h (Int32.lt_iff_toInt_lt.mpr q)
  rw [nI_toInt (by omega), Int32.toInt_sub] at h1
  have h2 : (Int32.ofNat L).toInt = L := nI_toInt (n := L) (by omega)
  rw [h2] at h1
  have h3 : (5 : Int32).toInt = 5 := rfl
  rw [h3, Int.bmod_eq_of_le (by omega) (by omega)] at h1
  omega
theorem law_add {i k : Nat} {x : Int32} (hx : x = nI i) : x + nI k = nI (i + k) := by
  rw [hx]
  exact (Int32.ofNat_add i k).symm
theorem law_in {L i : Nat} (hL : L ≤ 2560) (k : Nat) {x v : Int32} (hx : x = nI i) (hk : i + k < L) (hv : nI k = v) : vp_in (x + v) L := by
  rw [← hv, law_add hx]
  exact vp_in_nI hk (by omega)
def Sim_setBox (Rl : S → S → Prop) : Prop := ∀ (u w : S) (a0 a1 a2 : Int32), Rl u w → ∃ (r : Int32) (u' : S) (w' : S), fX6_setBox a0 a1 a2 u = some (r, u') ∧ fX7_setBox a0 a1 a2 w = some (r, w') ∧ Rl u' w'
set_option maxRecDepth 100000 in
set_option maxHeartbeats 4000000 in
theorem law_c0 {Rl : S → S → Prop} {p : Program} {l : Launch} {e : Env} {s : State} {m : MethodId} {args : Array Value} {below : List Frame} {meth : Method} {c : Code} {Q : State → Prop} {D : va_G} {y : Nat → ClassId} {ad am : Nat → Nat} {b L i : Nat} {xs : Nat → Int32} (hsim : Sim_setBox Rl) (hL : L ≤ 2560) (C0 : CallFix p m c code 4 s args lwT RL) (hK : XK D y s) (hZ : ZC ad am s) (hX : va_X b L xs s s.heap) (hbl : b < s.heap.size) {H : Heap} {locs : List Loc} {ls : Array Slot} {u w : S} {x3 : Int32} (ex : x3 = nI i) (hi : i + 5 ≤ L) (hR : Rl u w) (hw : ZH D y ad am u w s H locs) (hl : lv_has ls 4 [(3, .int x3), (2, .ref (am 0)), (1, .ref (ad 167)), (0, .ref b)]) (kk : ∀ (u' w' : S) (H : Heap) (locs : List Loc), Rl u' w' → ZH D y ad am u' w' s H locs → W p l e room_1 s m args below meth c H locs 600000 7302250 Q (F0 m 805 ls [])) : W p l e room_1 s m args below meth c H locs 600000 7302250 Q (F0 m 144 ls []) := by
  have hbA : ¬ (fun q : Nat => s.heap.size ≤ q) b := Nat.not_le.mpr hbl
  have hin1 : vp_in (x3 + 1) L := law_in hL 1 ex (by omega) (by decide)
  have hin2 : vp_in (x3 + 2) L := law_in hL 2 ex (by omega) (by decide)
  have hin3 : vp_in (x3 + 3) L := law_in hL 3 ex (by omega) (by decide)
  refine lv_aload_n (pc := 144) C0.1 C0.2.1 dL_law_144 rfl (lv_at hl 2 rfl) ?_
  refine lv_aload_n (pc := 145) C0.1 C0.2.1 dL_law_145 rfl (lv_at hl 3 rfl) ?_
  refine lv_iload_n (pc := 146) C0.1 C0.2.1 dL_law_146 rfl (lv_at hl 0 rfl) ?_
  refine lv_iconst (v := 1) (pc := 147) C0.1 C0.2.1 dL_law_147 (by decide) ?_
  refine lv_iadd (pc := 148) C0.1 C0.2.1 dL_law_148 ?_
  refine va_sld (pc := 149) C0.1 C0.2.1 hX hbl hbA hw.2.2 hin1 dL_law_149 ?_
  refine lv_aload_n (pc := 150) C0.1 C0.2.1 dL_law_150 rfl (lv_at hl 3 rfl) ?_
  refine lv_iload_n (pc := 151) C0.1 C0.2.1 dL_law_151 rfl (lv_at hl 0 rfl) ?_
  refine lv_iconst (v := 2) (pc := 152) C0.1 C0.2.1 dL_law_152 (by decide) ?_
  refine lv_iadd (pc := 153) C0.1 C0.2.1 dL_law_153 ?_
  refine va_sld (pc := 154) C0.1 C0.2.1 hX hbl hbA hw.2.2 hin2 dL_law_154 ?_
  refine lv_aload_n (pc := 155) C0.1 C0.2.1 dL_law_155 rfl (lv_at hl 3 rfl) ?_
  refine lv_iload_n (pc := 156) C0.1 C0.2.1 dL_law_156 rfl (lv_at hl 0 rfl) ?_
  refine lv_iconst (v := 3) (pc := 157) C0.1 C0.2.1 dL_law_157 (by decide) ?_
  refine lv_iadd (pc := 158) C0.1 C0.2.1 dL_law_158 ?_
  refine va_sld (pc := 159) C0.1 C0.2.1 hX hbl hbA hw.2.2 hin3 dL_law_159 ?_
  obtain ⟨r, u', w', h1, h2, hR'⟩ := hsim u w (xs (x3 + 1).toNatClampNeg) (xs (x3 + 2).toNatClampNeg) (xs (x3 + 3).toNatClampNeg) hR
  refine z_backX (pc := 160) (o := (r, u')) hZ hw (z_run (pc := 160) (As := [.int (xs (x3 + 1).toNatClampNeg), .int (xs (x3 + 2).toNatClampNeg), .int (xs (x3 + 3).toNatClampNeg)]) (rest := []) C0 hK hw.1 hl.1 ⟨Nat.le_of_ble_eq_true rfl, Nat.le_of_ble_eq_true rfl⟩ (kX6_setBox l D y ad hZ.1 (xs (x3 + 1).toNatClampNeg) (xs (x3 + 2).toNatClampNeg) (xs (x3 + 3).toNatClampNeg) u h1) (by decide) ly_M rfl rfl wc_X6_setBox wm_L_13 wi_X6_setBox ws_X6_setBox wn_X6 ⟨rfl, rfl⟩ hd_X6_setBox rfl ⟨Nat.le_of_ble_eq_true rfl, Nat.le_of_ble_eq_true rfl⟩ (Nat.le_of_ble_eq_true rfl) dL_law_160) (fun H locs hw => ?_)
  have hw : ZH D y ad am u' w s H locs := hw
  refine lv_aload_n (pc := 163) C0.1 C0.2.1 dL_law_163 rfl (lv_at hl 1 rfl) ?_
  refine lv_aload_n (pc := 164) C0.1 C0.2.1 dL_law_164 rfl (lv_at hl 3 rfl) ?_
  refine lv_iload_n (pc := 165) C0.1 C0.2.1 dL_law_165 rfl (lv_at hl 0 rfl) ?_
  refine lv_iconst (v := 1) (pc := 166) C0.1 C0.2.1 dL_law_166 (by decide) ?_
  refine lv_iadd (pc := 167) C0.1 C0.2.1 dL_law_167 ?_
  refine va_sld (pc := 168) C0.1 C0.2.1 hX hbl hbA hw.2.2 hin1 dL_law_168 ?_
  refine lv_aload_n (pc := 169) C0.1 C0.2.1 dL_law_169 rfl (lv_at hl 3 rfl) ?_
  refine lv_iload_n (pc := 170) C0.1 C0.2.1 dL_law_170 rfl (lv_at hl 0 rfl) ?_
  refine lv_iconst (v := 2) (pc := 171) C0.1 C0.2.1 dL_law_171 (by decide) ?_
  refine lv_iadd (pc := 172) C0.1 C0.2.1 dL_law_172 ?_
  refine va_sld (pc := 173) C0.1 C0.2.1 hX hbl hbA hw.2.2 hin2 dL_law_173 ?_
  refine lv_aload_n (pc := 174) C0.1 C0.2.1 dL_law_174 rfl (lv_at hl 3 rfl) ?_
  refine lv_iload_n (pc := 175) C0.1 C0.2.1 dL_law_175 rfl (lv_at hl 0 rfl) ?_
  refine lv_iconst (v := 3) (pc := 176) C0.1 C0.2.1 dL_law_176 (by decide) ?_
  refine lv_iadd (pc := 177) C0.1 C0.2.1 dL_law_177 ?_
  refine va_sld (pc := 178) C0.1 C0.2.1 hX hbl hbA hw.2.2 hin3 dL_law_178 ?_
  refine z_backM (pc := 179) (o := (r, w')) hZ hw (z_run (pc := 179) (As := [.int (xs (x3 + 1).toNatClampNeg), .int (xs (x3 + 2).toNatClampNeg), .int (xs (x3 + 3).toNatClampNeg)]) (rest := [.int r]) C0 hK hw.2.1 hl.1 ⟨Nat.le_of_ble_eq_true rfl, Nat.le_of_ble_eq_true rfl⟩ (kX7_setBox l D y am hZ.2.1 (xs (x3 + 1).toNatClampNeg) (xs (x3 + 2).toNatClampNeg) (xs (x3 + 3).toNatClampNeg) w h2) (by decide) ly_m0 rfl rfl wc_X7_setBox wm_L_17 wi_X7_setBox ws_X7_setBox wn_X7 ⟨rfl, rfl⟩ hd_X7_setBox rfl ⟨Nat.le_of_ble_eq_true rfl, Nat.le_of_ble_eq_true rfl⟩ (Nat.le_of_ble_eq_true rfl) dL_law_179) (fun H locs hw => ?_)
  have hw : ZH D y ad am u' w' s H locs := hw
  refine lv_icmp_eq (tgt := 805) (pc := 182) C0.1 C0.2.1 dL_law_182 (by decide) (fun _ => ?_) (fun hc => absurd rfl hc)
  exact kk _ _ H locs hR' hw
def Sim_setShare (Rl : S → S → Prop) : Prop := ∀ (u w : S) (a0 : Int32), Rl u w → ∃ (r : Int32) (u' : S) (w' : S), fX6_setShare a0 u = some (r, u') ∧ fX7_setShare a0 w = some (r, w') ∧ Rl u' w'
set_option maxRecDepth 100000 in
set_option maxHeartbeats 4000000 in
theorem law_c1 {Rl : S → S → Prop} {p : Program} {l : Launch} {e : Env} {s : State} {m : MethodId} {args : Array Value} {below : List Frame} {meth : Method} {c : Code} {Q : State → Prop} {D : va_G} {y : Nat → ClassId} {ad am : Nat → Nat} {b L i : Nat} {xs : Nat → Int32} (hsim : Sim_setShare Rl) (hL : L ≤ 2560) (C0 : CallFix p m c code 4 s args lwT RL) (hK : XK D y s) (hZ : ZC ad am s) (hX : va_X b L xs s s.heap) (hbl : b < s.heap.size) {H : Heap} {locs : List Loc} {ls : Array Slot} {u w : S} {x3 : Int32} (ex : x3 = nI i) (hi : i + 5 ≤ L) (hR : Rl u w) (hw : ZH D y ad am u w s H locs) (hl : lv_has ls 4 [(3, .int x3), (2, .ref (am 0)), (1, .ref (ad 167)), (0, .ref b)]) (kk : ∀ (u' w' : S) (H : Heap) (locs : List Loc), Rl u' w' → ZH D y ad am u' w' s H locs → W p l e room_1 s m args below meth c H locs 600000 7302250 Q (F0 m 805 ls [])) : W p l e room_1 s m args below meth c H locs 600000 7302250 Q (F0 m 187 ls []) := by
  have hbA : ¬ (fun q : Nat => s.heap.size ≤ q) b := Nat.not_le.mpr hbl
  have hin1 : vp_in (x3 + 1) L := law_in hL 1 ex (by omega) (by decide)
  refine lv_aload_n (pc := 187) C0.1 C0.2.1 dL_law_187 rfl (lv_at hl 2 rfl) ?_
  refine lv_aload_n (pc := 188) C0.1 C0.2.1 dL_law_188 rfl (lv_at hl 3 rfl) ?_
  refine lv_iload_n (pc := 189) C0.1 C0.2.1 dL_law_189 rfl (lv_at hl 0 rfl) ?_
  refine lv_iconst (v := 1) (pc := 190) C0.1 C0.2.1 dL_law_190 (by decide) ?_
  refine lv_iadd (pc := 191) C0.1 C0.2.1 dL_law_191 ?_
  refine va_sld (pc := 192) C0.1 C0.2.1 hX hbl hbA hw.2.2 hin1 dL_law_192 ?_
  obtain ⟨r, u', w', h1, h2, hR'⟩ := hsim u w (xs (x3 + 1).toNatClampNeg) hR
  refine z_backX (pc := 193) (o := (r, u')) hZ hw (z_run (pc := 193) (As := [.int (xs (x3 + 1).toNatClampNeg)]) (rest := []) C0 hK hw.1 hl.1 ⟨Nat.le_of_ble_eq_true rfl, Nat.le_of_ble_eq_true rfl⟩ (kX6_setShare l D y ad hZ.1 (xs (x3 + 1).toNatClampNeg) u h1) (by decide) ly_M rfl rfl wc_X6_setShare wm_L_18 wi_X6_setShare ws_X6_setShare wn_X6 ⟨rfl, rfl⟩ hd_X6_setShare rfl ⟨Nat.le_of_ble_eq_true rfl, Nat.le_of_ble_eq_true rfl⟩ (Nat.le_of_ble_eq_true rfl) dL_law_193) (fun H locs hw => ?_)
  have hw : ZH D y ad am u' w s H locs := hw
  refine lv_aload_n (pc := 196) C0.1 C0.2.1 dL_law_196 rfl (lv_at hl 1 rfl) ?_
  refine lv_aload_n (pc := 197) C0.1 C0.2.1 dL_law_197 rfl (lv_at hl 3 rfl) ?_
  refine lv_iload_n (pc := 198) C0.1 C0.2.1 dL_law_198 rfl (lv_at hl 0 rfl) ?_
  refine lv_iconst (v := 1) (pc := 199) C0.1 C0.2.1 dL_law_199 (by decide) ?_
  refine lv_iadd (pc := 200) C0.1 C0.2.1 dL_law_200 ?_
  refine va_sld (pc := 201) C0.1 C0.2.1 hX hbl hbA hw.2.2 hin1 dL_law_201 ?_
  refine z_backM (pc := 202) (o := (r, w')) hZ hw (z_run (pc := 202) (As := [.int (xs (x3 + 1).toNatClampNeg)]) (rest := [.int r]) C0 hK hw.2.1 hl.1 ⟨Nat.le_of_ble_eq_true rfl, Nat.le_of_ble_eq_true rfl⟩ (kX7_setShare l D y am hZ.2.1 (xs (x3 + 1).toNatClampNeg) w h2) (by decide) ly_m0 rfl rfl wc_X7_setShare wm_L_22 wi_X7_setShare ws_X7_setShare wn_X7 ⟨rfl, rfl⟩ hd_X7_setShare rfl ⟨Nat.le_of_ble_eq_true rfl, Nat.le_of_ble_eq_true rfl⟩ (Nat.le_of_ble_eq_true rfl) dL_law_202) (fun H locs hw => ?_)
  have hw : ZH D y ad am u' w' s H locs := hw
  refine lv_icmp_eq (tgt := 805) (pc := 205) C0.1 C0.2.1 dL_law_205 (by decide) (fun _ => ?_) (fun hc => absurd rfl hc)
  exact kk _ _ H locs hR' hw
def Sim_type (Rl : S → S → Prop) : Prop := ∀ (u w : S) (a0 : Int32), Rl u w → ∃ (r : Int32) (u' : S) (w' : S), fX6_type a0 u = some (r, u') ∧ fX7_type a0 w = some (r, w') ∧ Rl u' w'
set_option maxRecDepth 100000 in
set_option maxHeartbeats 4000000 in
theorem law_c2 {Rl : S → S → Prop} {p : Program} {l : Launch} {e : Env} {s : State} {m : MethodId} {args : Array Value} {below : List Frame} {meth : Method} {c : Code} {Q : State → Prop} {D : va_G} {y : Nat → ClassId} {ad am : Nat → Nat} {b L i : Nat} {xs : Nat → Int32} (hsim : Sim_type Rl) (hL : L ≤ 2560) (C0 : CallFix p m c code 4 s args lwT RL) (hK : XK D y s) (hZ : ZC ad am s) (hX : va_X b L xs s s.heap) (hbl : b < s.heap.size) {H : Heap} {locs : List Loc} {ls : Array Slot} {u w : S} {x3 : Int32} (ex : x3 = nI i) (hi : i + 5 ≤ L) (hR : Rl u w) (hw : ZH D y ad am u w s H locs) (hl : lv_has ls 4 [(3, .int x3), (2, .ref (am 0)), (1, .ref (ad 167)), (0, .ref b)]) (kk : ∀ (u' w' : S) (H : Heap) (locs : List Loc), Rl u' w' → ZH D y ad am u' w' s H locs → W p l e room_1 s m args below meth c H locs 600000 7302250 Q (F0 m 805 ls [])) : W p l e room_1 s m args below meth c H locs 600000 7302250 Q (F0 m 210 ls []) := by
  have hbA : ¬ (fun q : Nat => s.heap.size ≤ q) b := Nat.not_le.mpr hbl
  have hin1 : vp_in (x3 + 1) L := law_in hL 1 ex (by omega) (by decide)
  refine lv_aload_n (pc := 210) C0.1 C0.2.1 dL_law_210 rfl (lv_at hl 2 rfl) ?_
  refine lv_aload_n (pc := 211) C0.1 C0.2.1 dL_law_211 rfl (lv_at hl 3 rfl) ?_
  refine lv_iload_n (pc := 212) C0.1 C0.2.1 dL_law_212 rfl (lv_at hl 0 rfl) ?_
  refine lv_iconst (v := 1) (pc := 213) C0.1 C0.2.1 dL_law_213 (by decide) ?_
  refine lv_iadd (pc := 214) C0.1 C0.2.1 dL_law_214 ?_
  refine va_sld (pc := 215) C0.1 C0.2.1 hX hbl hbA hw.2.2 hin1 dL_law_215 ?_
  obtain ⟨r, u', w', h1, h2, hR'⟩ := hsim u w (xs (x3 + 1).toNatClampNeg) hR
  refine z_backX (pc := 216) (o := (r, u')) hZ hw (z_run (pc := 216) (As := [.int (xs (x3 + 1).toNatClampNeg)]) (rest := []) C0 hK hw.1 hl.1 ⟨Nat.le_of_ble_eq_true rfl, Nat.le_of_ble_eq_true rfl⟩ (kX6_type l D y ad hZ.1 (xs (x3 + 1).toNatClampNeg) u h1) (by decide) ly_M rfl rfl wc_X6_type wm_L_23 wi_X6_type ws_X6_type wn_X6 ⟨rfl, rfl⟩ hd_X6_type rfl ⟨Nat.le_of_ble_eq_true rfl, Nat.le_of_ble_eq_true rfl⟩ (Nat.le_of_ble_eq_true rfl) dL_law_216) (fun H locs hw => ?_)
  have hw : ZH D y ad am u' w s H locs := hw
  refine lv_aload_n (pc := 219) C0.1 C0.2.1 dL_law_219 rfl (lv_at hl 1 rfl) ?_
  refine lv_aload_n (pc := 220) C0.1 C0.2.1 dL_law_220 rfl (lv_at hl 3 rfl) ?_
  refine lv_iload_n (pc := 221) C0.1 C0.2.1 dL_law_221 rfl (lv_at hl 0 rfl) ?_
  refine lv_iconst (v := 1) (pc := 222) C0.1 C0.2.1 dL_law_222 (by decide) ?_
  refine lv_iadd (pc := 223) C0.1 C0.2.1 dL_law_223 ?_
  refine va_sld (pc := 224) C0.1 C0.2.1 hX hbl hbA hw.2.2 hin1 dL_law_224 ?_
  refine z_backM (pc := 225) (o := (r, w')) hZ hw (z_run (pc := 225) (As := [.int (xs (x3 + 1).toNatClampNeg)]) (rest := [.int r]) C0 hK hw.2.1 hl.1 ⟨Nat.le_of_ble_eq_true rfl, Nat.le_of_ble_eq_true rfl⟩ (kX7_type l D y am hZ.2.1 (xs (x3 + 1).toNatClampNeg) w h2) (by decide) ly_m0 rfl rfl wc_X7_type wm_L_26 wi_X7_type ws_X7_type wn_X7 ⟨rfl, rfl⟩ hd_X7_type rfl ⟨Nat.le_of_ble_eq_true rfl, Nat.le_of_ble_eq_true rfl⟩ (Nat.le_of_ble_eq_true rfl) dL_law_225) (fun H locs hw => ?_)
  have hw : ZH D y ad am u' w' s H locs := hw
  refine lv_icmp_eq (tgt := 805) (pc := 228) C0.1 C0.2.1 dL_law_228 (by decide) (fun _ => ?_) (fun hc => absurd rfl hc)
  exact kk _ _ H locs hR' hw
def Sim_clearText (Rl : S → S → Prop) : Prop := ∀ (u w : S), Rl u w → ∃ (r : Int32) (u' : S) (w' : S), fX6_clearText u = some (r, u') ∧ fX7_clearText w = some (r, w') ∧ Rl u' w'
set_option maxRecDepth 100000 in
set_option maxHeartbeats 4000000 in
theorem law_c3 {Rl : S → S → Prop} {p : Program} {l : Launch} {e : Env} {s : State} {m : MethodId} {args : Array Value} {below : List Frame} {meth : Method} {c : Code} {Q : State → Prop} {D : va_G} {y : Nat → ClassId} {ad am : Nat → Nat} {b L i : Nat} {xs : Nat → Int32} (hsim : Sim_clearText Rl) (hL : L ≤ 2560) (C0 : CallFix p m c code 4 s args lwT RL) (hK : XK D y s) (hZ : ZC ad am s) (hX : va_X b L xs s s.heap) (hbl : b < s.heap.size) {H : Heap} {locs : List Loc} {ls : Array Slot} {u w : S} {x3 : Int32} (ex : x3 = nI i) (hi : i + 5 ≤ L) (hR : Rl u w) (hw : ZH D y ad am u w s H locs) (hl : lv_has ls 4 [(3, .int x3), (2, .ref (am 0)), (1, .ref (ad 167)), (0, .ref b)]) (kk : ∀ (u' w' : S) (H : Heap) (locs : List Loc), Rl u' w' → ZH D y ad am u' w' s H locs → W p l e room_1 s m args below meth c H locs 600000 7302250 Q (F0 m 805 ls [])) : W p l e room_1 s m args below meth c H locs 600000 7302250 Q (F0 m 233 ls []) := by
  have hbA : ¬ (fun q : Nat => s.heap.size ≤ q) b := Nat.not_le.mpr hbl
  refine lv_aload_n (pc := 233) C0.1 C0.2.1 dL_law_233 rfl (lv_at hl 2 rfl) ?_
  obtain ⟨r, u', w', h1, h2, hR'⟩ := hsim u w  hR
  refine z_backX (pc := 234) (o := (r, u')) hZ hw (z_run (pc := 234) (As := []) (rest := []) C0 hK hw.1 hl.1 ⟨Nat.le_of_ble_eq_true rfl, Nat.le_of_ble_eq_true rfl⟩ (kX6_clearText l D y ad hZ.1  u h1) (by decide) ly_M rfl rfl wc_X6_clearText wm_L_27 wi_X6_clearText ws_X6_clearText wn_X6 ⟨rfl, rfl⟩ hd_X6_clearText rfl ⟨Nat.le_of_ble_eq_true rfl, Nat.le_of_ble_eq_true rfl⟩ (Nat.le_of_ble_eq_true rfl) dL_law_234) (fun H locs hw => ?_)
  have hw : ZH D y ad am u' w s H locs := hw
  refine lv_aload_n (pc := 237) C0.1 C0.2.1 dL_law_237 rfl (lv_at hl 1 rfl) ?_
  refine z_backM (pc := 238) (o := (r, w')) hZ hw (z_run (pc := 238) (As := []) (rest := [.int r]) C0 hK hw.2.1 hl.1 ⟨Nat.le_of_ble_eq_true rfl, Nat.le_of_ble_eq_true rfl⟩ (kX7_clearText l D y am hZ.2.1  w h2) (by decide) ly_m0 rfl rfl wc_X7_clearText wm_L_31 wi_X7_clearText ws_X7_clearText wn_X7 ⟨rfl, rfl⟩ hd_X7_clearText rfl ⟨Nat.le_of_ble_eq_true rfl, Nat.le_of_ble_eq_true rfl⟩ (Nat.le_of_ble_eq_true rfl) dL_law_238) (fun H locs hw => ?_)
  have hw : ZH D y ad am u' w' s H locs := hw
  refine lv_icmp_eq (tgt := 805) (pc := 241) C0.1 C0.2.1 dL_law_241 (by decide) (fun _ => ?_) (fun hc => absurd rfl hc)
  exact kk _ _ H locs hR' hw
def Sim_load (Rl : S → S → Prop) : Prop := ∀ (u w : S), Rl u w → ∃ (r : Int32) (u' : S) (w' : S), fX6_load u = some (r, u') ∧ fX7_load w = some (r, w') ∧ Rl u' w'
set_option maxRecDepth 100000 in
set_option maxHeartbeats 4000000 in
theorem law_c4 {Rl : S → S → Prop} {p : Program} {l : Launch} {e : Env} {s : State} {m : MethodId} {args : Array Value} {below : List Frame} {meth : Method} {c : Code} {Q : State → Prop} {D : va_G} {y : Nat → ClassId} {ad am : Nat → Nat} {b L i : Nat} {xs : Nat → Int32} (hsim : Sim_load Rl) (hL : L ≤ 2560) (C0 : CallFix p m c code 4 s args lwT RL) (hK : XK D y s) (hZ : ZC ad am s) (hX : va_X b L xs s s.heap) (hbl : b < s.heap.size) {H : Heap} {locs : List Loc} {ls : Array Slot} {u w : S} {x3 : Int32} (ex : x3 = nI i) (hi : i + 5 ≤ L) (hR : Rl u w) (hw : ZH D y ad am u w s H locs) (hl : lv_has ls 4 [(3, .int x3), (2, .ref (am 0)), (1, .ref (ad 167)), (0, .ref b)]) (kk : ∀ (u' w' : S) (H : Heap) (locs : List Loc), Rl u' w' → ZH D y ad am u' w' s H locs → W p l e room_1 s m args below meth c H locs 600000 7302250 Q (F0 m 805 ls [])) : W p l e room_1 s m args below meth c H locs 600000 7302250 Q (F0 m 246 ls []) := by
  have hbA : ¬ (fun q : Nat => s.heap.size ≤ q) b := Nat.not_le.mpr hbl
  refine lv_aload_n (pc := 246) C0.1 C0.2.1 dL_law_246 rfl (lv_at hl 2 rfl) ?_
  obtain ⟨r, u', w', h1, h2, hR'⟩ := hsim u w  hR
  refine z_backX (pc := 247) (o := (r, u')) hZ hw (z_run (pc := 247) (As := []) (rest := []) C0 hK hw.1 hl.1 ⟨Nat.le_of_ble_eq_true rfl, Nat.le_of_ble_eq_true rfl⟩ (kX6_load l D y ad hZ.1  u h1) (by decide) ly_M rfl rfl wc_X6_load wm_L_32 wi_X6_load ws_X6_load wn_X6 ⟨rfl, rfl⟩ hd_X6_load rfl ⟨Nat.le_of_ble_eq_true rfl, Nat.le_of_ble_eq_true rfl⟩ (Nat.le_of_ble_eq_true rfl) dL_law_247) (fun H locs hw => ?_)
  have hw : ZH D y ad am u' w s H locs := hw
  refine lv_aload_n (pc := 250) C0.1 C0.2.1 dL_law_250 rfl (lv_at hl 1 rfl) ?_
  refine z_backM (pc := 251) (o := (r, w')) hZ hw (z_run (pc := 251) (As := []) (rest := [.int r]) C0 hK hw.2.1 hl.1 ⟨Nat.le_of_ble_eq_true rfl, Nat.le_of_ble_eq_true rfl⟩ (kX7_load l D y am hZ.2.1  w h2) (by decide) ly_m0 rfl rfl wc_X7_load wm_L_35 wi_X7_load ws_X7_load wn_X7 ⟨rfl, rfl⟩ hd_X7_load rfl ⟨Nat.le_of_ble_eq_true rfl, Nat.le_of_ble_eq_true rfl⟩ (Nat.le_of_ble_eq_true rfl) dL_law_251) (fun H locs hw => ?_)
  have hw : ZH D y ad am u' w' s H locs := hw
  refine lv_icmp_eq (tgt := 805) (pc := 254) C0.1 C0.2.1 dL_law_254 (by decide) (fun _ => ?_) (fun hc => absurd rfl hc)
  exact kk _ _ H locs hR' hw
def Sim_faultKind (Rl : S → S → Prop) : Prop := ∀ (u w : S), Rl u w → ∃ (r : Int32), fX6_faultKind u = some r ∧ fX7_faultKind w = some r ∧ Rl u w
set_option maxRecDepth 100000 in
set_option maxHeartbeats 4000000 in
theorem law_c5 {Rl : S → S → Prop} {p : Program} {l : Launch} {e : Env} {s : State} {m : MethodId} {args : Array Value} {below : List Frame} {meth : Method} {c : Code} {Q : State → Prop} {D : va_G} {y : Nat → ClassId} {ad am : Nat → Nat} {b L i : Nat} {xs : Nat → Int32} (hsim : Sim_faultKind Rl) (hL : L ≤ 2560) (C0 : CallFix p m c code 4 s args lwT RL) (hK : XK D y s) (hZ : ZC ad am s) (hX : va_X b L xs s s.heap) (hbl : b < s.heap.size) {H : Heap} {locs : List Loc} {ls : Array Slot} {u w : S} {x3 : Int32} (ex : x3 = nI i) (hi : i + 5 ≤ L) (hR : Rl u w) (hw : ZH D y ad am u w s H locs) (hl : lv_has ls 4 [(3, .int x3), (2, .ref (am 0)), (1, .ref (ad 167)), (0, .ref b)]) (kk : ∀ (u' w' : S) (H : Heap) (locs : List Loc), Rl u' w' → ZH D y ad am u' w' s H locs → W p l e room_1 s m args below meth c H locs 600000 7302250 Q (F0 m 805 ls [])) : W p l e room_1 s m args below meth c H locs 600000 7302250 Q (F0 m 259 ls []) := by
  have hbA : ¬ (fun q : Nat => s.heap.size ≤ q) b := Nat.not_le.mpr hbl
  refine lv_aload_n (pc := 259) C0.1 C0.2.1 dL_law_259 rfl (lv_at hl 2 rfl) ?_
  obtain ⟨r, h1, h2, hR'⟩ := hsim u w  hR
  refine z_backX (pc := 260) (o := (r, u)) hZ hw (z_run (pc := 260) (As := []) (rest := []) C0 hK hw.1 hl.1 ⟨Nat.le_of_ble_eq_true rfl, Nat.le_of_ble_eq_true rfl⟩ (kX6_faultKind l D y ad hZ.1  u h1) (by decide) ly_M rfl rfl wc_X6_faultKind wm_L_36 wi_X6_faultKind ws_X6_faultKind wn_X6 ⟨rfl, rfl⟩ hd_X6_faultKind rfl ⟨Nat.le_of_ble_eq_true rfl, Nat.le_of_ble_eq_true rfl⟩ (Nat.le_of_ble_eq_true rfl) dL_law_260) (fun H locs hw => ?_)
  have hw : ZH D y ad am u w s H locs := hw
  refine lv_aload_n (pc := 263) C0.1 C0.2.1 dL_law_263 rfl (lv_at hl 1 rfl) ?_
  refine z_backM (pc := 264) (o := (r, w)) hZ hw (z_run (pc := 264) (As := []) (rest := [.int r]) C0 hK hw.2.1 hl.1 ⟨Nat.le_of_ble_eq_true rfl, Nat.le_of_ble_eq_true rfl⟩ (kX7_faultKind l D y am hZ.2.1  w h2) (by decide) ly_m0 rfl rfl wc_X7_faultKind wm_L_39 wi_X7_faultKind ws_X7_faultKind wn_X7 ⟨rfl, rfl⟩ hd_X7_faultKind rfl ⟨Nat.le_of_ble_eq_true rfl, Nat.le_of_ble_eq_true rfl⟩ (Nat.le_of_ble_eq_true rfl) dL_law_264) (fun H locs hw => ?_)
  have hw : ZH D y ad am u w s H locs := hw
  refine lv_icmp_eq (tgt := 805) (pc := 267) C0.1 C0.2.1 dL_law_267 (by decide) (fun _ => ?_) (fun hc => absurd rfl hc)
  exact kk _ _ H locs hR' hw
def Sim_add (Rl : S → S → Prop) : Prop := ∀ (u w : S) (a0 a1 a2 a3 : Int32), Rl u w → ∃ (r : Int32) (u' : S) (w' : S), fX6_add a0 a1 a2 a3 u = some (r, u') ∧ fX7_add a0 a1 a2 a3 w = some (r, w') ∧ Rl u' w'
set_option maxRecDepth 100000 in
set_option maxHeartbeats 4000000 in
theorem law_c6 {Rl : S → S → Prop} {p : Program} {l : Launch} {e : Env} {s : State} {m : MethodId} {args : Array Value} {below : List Frame} {meth : Method} {c : Code} {Q : State → Prop} {D : va_G} {y : Nat → ClassId} {ad am : Nat → Nat} {b L i : Nat} {xs : Nat → Int32} (hsim : Sim_add Rl) (hL : L ≤ 2560) (C0 : CallFix p m c code 4 s args lwT RL) (hK : XK D y s) (hZ : ZC ad am s) (hX : va_X b L xs s s.heap) (hbl : b < s.heap.size) {H : Heap} {locs : List Loc} {ls : Array Slot} {u w : S} {x3 : Int32} (ex : x3 = nI i) (hi : i + 5 ≤ L) (hR : Rl u w) (hw : ZH D y ad am u w s H locs) (hl : lv_has ls 4 [(3, .int x3), (2, .ref (am 0)), (1, .ref (ad 167)), (0, .ref b)]) (kk : ∀ (u' w' : S) (H : Heap) (locs : List Loc), Rl u' w' → ZH D y ad am u' w' s H locs → W p l e room_1 s m args below meth c H locs 600000 7302250 Q (F0 m 805 ls [])) : W p l e room_1 s m args below meth c H locs 600000 7302250 Q (F0 m 272 ls []) := by
  have hbA : ¬ (fun q : Nat => s.heap.size ≤ q) b := Nat.not_le.mpr hbl
  have hin1 : vp_in (x3 + 1) L := law_in hL 1 ex (by omega) (by decide)
  have hin2 : vp_in (x3 + 2) L := law_in hL 2 ex (by omega) (by decide)
  have hin3 : vp_in (x3 + 3) L := law_in hL 3 ex (by omega) (by decide)
  have hin4 : vp_in (x3 + 4) L := law_in hL 4 ex (by omega) (by decide)
  refine lv_aload_n (pc := 272) C0.1 C0.2.1 dL_law_272 rfl (lv_at hl 2 rfl) ?_
  refine lv_aload_n (pc := 273) C0.1 C0.2.1 dL_law_273 rfl (lv_at hl 3 rfl) ?_
  refine lv_iload_n (pc := 274) C0.1 C0.2.1 dL_law_274 rfl (lv_at hl 0 rfl) ?_
  refine lv_iconst (v := 1) (pc := 275) C0.1 C0.2.1 dL_law_275 (by decide) ?_
  refine lv_iadd (pc := 276) C0.1 C0.2.1 dL_law_276 ?_
  refine va_sld (pc := 277) C0.1 C0.2.1 hX hbl hbA hw.2.2 hin1 dL_law_277 ?_
  refine lv_aload_n (pc := 278) C0.1 C0.2.1 dL_law_278 rfl (lv_at hl 3 rfl) ?_
  refine lv_iload_n (pc := 279) C0.1 C0.2.1 dL_law_279 rfl (lv_at hl 0 rfl) ?_
  refine lv_iconst (v := 2) (pc := 280) C0.1 C0.2.1 dL_law_280 (by decide) ?_
  refine lv_iadd (pc := 281) C0.1 C0.2.1 dL_law_281 ?_
  refine va_sld (pc := 282) C0.1 C0.2.1 hX hbl hbA hw.2.2 hin2 dL_law_282 ?_
  refine lv_aload_n (pc := 283) C0.1 C0.2.1 dL_law_283 rfl (lv_at hl 3 rfl) ?_
  refine lv_iload_n (pc := 284) C0.1 C0.2.1 dL_law_284 rfl (lv_at hl 0 rfl) ?_
  refine lv_iconst (v := 3) (pc := 285) C0.1 C0.2.1 dL_law_285 (by decide) ?_
  refine lv_iadd (pc := 286) C0.1 C0.2.1 dL_law_286 ?_
  refine va_sld (pc := 287) C0.1 C0.2.1 hX hbl hbA hw.2.2 hin3 dL_law_287 ?_
  refine lv_aload_n (pc := 288) C0.1 C0.2.1 dL_law_288 rfl (lv_at hl 3 rfl) ?_
  refine lv_iload_n (pc := 289) C0.1 C0.2.1 dL_law_289 rfl (lv_at hl 0 rfl) ?_
  refine lv_iconst (v := 4) (pc := 290) C0.1 C0.2.1 dL_law_290 (by decide) ?_
  refine lv_iadd (pc := 291) C0.1 C0.2.1 dL_law_291 ?_
  refine va_sld (pc := 292) C0.1 C0.2.1 hX hbl hbA hw.2.2 hin4 dL_law_292 ?_
  obtain ⟨r, u', w', h1, h2, hR'⟩ := hsim u w (xs (x3 + 1).toNatClampNeg) (xs (x3 + 2).toNatClampNeg) (xs (x3 + 3).toNatClampNeg) (xs (x3 + 4).toNatClampNeg) hR
  refine z_backX (pc := 293) (o := (r, u')) hZ hw (z_run (pc := 293) (As := [.int (xs (x3 + 1).toNatClampNeg), .int (xs (x3 + 2).toNatClampNeg), .int (xs (x3 + 3).toNatClampNeg), .int (xs (x3 + 4).toNatClampNeg)]) (rest := []) C0 hK hw.1 hl.1 ⟨Nat.le_of_ble_eq_true rfl, Nat.le_of_ble_eq_true rfl⟩ (kX6_add l D y ad hZ.1 (xs (x3 + 1).toNatClampNeg) (xs (x3 + 2).toNatClampNeg) (xs (x3 + 3).toNatClampNeg) (xs (x3 + 4).toNatClampNeg) u h1) (by decide) ly_M rfl rfl wc_X6_add wm_L_40 wi_X6_add ws_X6_add wn_X6 ⟨rfl, rfl⟩ hd_X6_add rfl ⟨Nat.le_of_ble_eq_true rfl, Nat.le_of_ble_eq_true rfl⟩ (Nat.le_of_ble_eq_true rfl) dL_law_293) (fun H locs hw => ?_)
  have hw : ZH D y ad am u' w s H locs := hw
  refine lv_aload_n (pc := 296) C0.1 C0.2.1 dL_law_296 rfl (lv_at hl 1 rfl) ?_
  refine lv_aload_n (pc := 297) C0.1 C0.2.1 dL_law_297 rfl (lv_at hl 3 rfl) ?_
  refine lv_iload_n (pc := 298) C0.1 C0.2.1 dL_law_298 rfl (lv_at hl 0 rfl) ?_
  refine lv_iconst (v := 1) (pc := 299) C0.1 C0.2.1 dL_law_299 (by decide) ?_
  refine lv_iadd (pc := 300) C0.1 C0.2.1 dL_law_300 ?_
  refine va_sld (pc := 301) C0.1 C0.2.1 hX hbl hbA hw.2.2 hin1 dL_law_301 ?_
  refine lv_aload_n (pc := 302) C0.1 C0.2.1 dL_law_302 rfl (lv_at hl 3 rfl) ?_
  refine lv_iload_n (pc := 303) C0.1 C0.2.1 dL_law_303 rfl (lv_at hl 0 rfl) ?_
  refine lv_iconst (v := 2) (pc := 304) C0.1 C0.2.1 dL_law_304 (by decide) ?_
  refine lv_iadd (pc := 305) C0.1 C0.2.1 dL_law_305 ?_
  refine va_sld (pc := 306) C0.1 C0.2.1 hX hbl hbA hw.2.2 hin2 dL_law_306 ?_
  refine lv_aload_n (pc := 307) C0.1 C0.2.1 dL_law_307 rfl (lv_at hl 3 rfl) ?_
  refine lv_iload_n (pc := 308) C0.1 C0.2.1 dL_law_308 rfl (lv_at hl 0 rfl) ?_
  refine lv_iconst (v := 3) (pc := 309) C0.1 C0.2.1 dL_law_309 (by decide) ?_
  refine lv_iadd (pc := 310) C0.1 C0.2.1 dL_law_310 ?_
  refine va_sld (pc := 311) C0.1 C0.2.1 hX hbl hbA hw.2.2 hin3 dL_law_311 ?_
  refine lv_aload_n (pc := 312) C0.1 C0.2.1 dL_law_312 rfl (lv_at hl 3 rfl) ?_
  refine lv_iload_n (pc := 313) C0.1 C0.2.1 dL_law_313 rfl (lv_at hl 0 rfl) ?_
  refine lv_iconst (v := 4) (pc := 314) C0.1 C0.2.1 dL_law_314 (by decide) ?_
  refine lv_iadd (pc := 315) C0.1 C0.2.1 dL_law_315 ?_
  refine va_sld (pc := 316) C0.1 C0.2.1 hX hbl hbA hw.2.2 hin4 dL_law_316 ?_
  refine z_backM (pc := 317) (o := (r, w')) hZ hw (z_run (pc := 317) (As := [.int (xs (x3 + 1).toNatClampNeg), .int (xs (x3 + 2).toNatClampNeg), .int (xs (x3 + 3).toNatClampNeg), .int (xs (x3 + 4).toNatClampNeg)]) (rest := [.int r]) C0 hK hw.2.1 hl.1 ⟨Nat.le_of_ble_eq_true rfl, Nat.le_of_ble_eq_true rfl⟩ (kX7_add l D y am hZ.2.1 (xs (x3 + 1).toNatClampNeg) (xs (x3 + 2).toNatClampNeg) (xs (x3 + 3).toNatClampNeg) (xs (x3 + 4).toNatClampNeg) w h2) (by decide) ly_m0 rfl rfl wc_X7_add wm_L_44 wi_X7_add ws_X7_add wn_X7 ⟨rfl, rfl⟩ hd_X7_add rfl ⟨Nat.le_of_ble_eq_true rfl, Nat.le_of_ble_eq_true rfl⟩ (Nat.le_of_ble_eq_true rfl) dL_law_317) (fun H locs hw => ?_)
  have hw : ZH D y ad am u' w' s H locs := hw
  refine lv_icmp_eq (tgt := 805) (pc := 320) C0.1 C0.2.1 dL_law_320 (by decide) (fun _ => ?_) (fun hc => absurd rfl hc)
  exact kk _ _ H locs hR' hw
def Sim_drop (Rl : S → S → Prop) : Prop := ∀ (u w : S) (a0 : Int32), Rl u w → ∃ (r : Int32) (u' : S) (w' : S), fX6_drop a0 u = some (r, u') ∧ fX7_drop a0 w = some (r, w') ∧ Rl u' w'
set_option maxRecDepth 100000 in
set_option maxHeartbeats 4000000 in
theorem law_c7 {Rl : S → S → Prop} {p : Program} {l : Launch} {e : Env} {s : State} {m : MethodId} {args : Array Value} {below : List Frame} {meth : Method} {c : Code} {Q : State → Prop} {D : va_G} {y : Nat → ClassId} {ad am : Nat → Nat} {b L i : Nat} {xs : Nat → Int32} (hsim : Sim_drop Rl) (hL : L ≤ 2560) (C0 : CallFix p m c code 4 s args lwT RL) (hK : XK D y s) (hZ : ZC ad am s) (hX : va_X b L xs s s.heap) (hbl : b < s.heap.size) {H : Heap} {locs : List Loc} {ls : Array Slot} {u w : S} {x3 : Int32} (ex : x3 = nI i) (hi : i + 5 ≤ L) (hR : Rl u w) (hw : ZH D y ad am u w s H locs) (hl : lv_has ls 4 [(3, .int x3), (2, .ref (am 0)), (1, .ref (ad 167)), (0, .ref b)]) (kk : ∀ (u' w' : S) (H : Heap) (locs : List Loc), Rl u' w' → ZH D y ad am u' w' s H locs → W p l e room_1 s m args below meth c H locs 600000 7302250 Q (F0 m 805 ls [])) : W p l e room_1 s m args below meth c H locs 600000 7302250 Q (F0 m 325 ls []) := by
  have hbA : ¬ (fun q : Nat => s.heap.size ≤ q) b := Nat.not_le.mpr hbl
  have hin1 : vp_in (x3 + 1) L := law_in hL 1 ex (by omega) (by decide)
  refine lv_aload_n (pc := 325) C0.1 C0.2.1 dL_law_325 rfl (lv_at hl 2 rfl) ?_
  refine lv_aload_n (pc := 326) C0.1 C0.2.1 dL_law_326 rfl (lv_at hl 3 rfl) ?_
  refine lv_iload_n (pc := 327) C0.1 C0.2.1 dL_law_327 rfl (lv_at hl 0 rfl) ?_
  refine lv_iconst (v := 1) (pc := 328) C0.1 C0.2.1 dL_law_328 (by decide) ?_
  refine lv_iadd (pc := 329) C0.1 C0.2.1 dL_law_329 ?_
  refine va_sld (pc := 330) C0.1 C0.2.1 hX hbl hbA hw.2.2 hin1 dL_law_330 ?_
  obtain ⟨r, u', w', h1, h2, hR'⟩ := hsim u w (xs (x3 + 1).toNatClampNeg) hR
  refine z_backX (pc := 331) (o := (r, u')) hZ hw (z_run (pc := 331) (As := [.int (xs (x3 + 1).toNatClampNeg)]) (rest := []) C0 hK hw.1 hl.1 ⟨Nat.le_of_ble_eq_true rfl, Nat.le_of_ble_eq_true rfl⟩ (kX6_drop l D y ad hZ.1 (xs (x3 + 1).toNatClampNeg) u h1) (by decide) ly_M rfl rfl wc_X6_drop wm_L_45 wi_X6_drop ws_X6_drop wn_X6 ⟨rfl, rfl⟩ hd_X6_drop rfl ⟨Nat.le_of_ble_eq_true rfl, Nat.le_of_ble_eq_true rfl⟩ (Nat.le_of_ble_eq_true rfl) dL_law_331) (fun H locs hw => ?_)
  have hw : ZH D y ad am u' w s H locs := hw
  refine lv_aload_n (pc := 334) C0.1 C0.2.1 dL_law_334 rfl (lv_at hl 1 rfl) ?_
  refine lv_aload_n (pc := 335) C0.1 C0.2.1 dL_law_335 rfl (lv_at hl 3 rfl) ?_
  refine lv_iload_n (pc := 336) C0.1 C0.2.1 dL_law_336 rfl (lv_at hl 0 rfl) ?_
  refine lv_iconst (v := 1) (pc := 337) C0.1 C0.2.1 dL_law_337 (by decide) ?_
  refine lv_iadd (pc := 338) C0.1 C0.2.1 dL_law_338 ?_
  refine va_sld (pc := 339) C0.1 C0.2.1 hX hbl hbA hw.2.2 hin1 dL_law_339 ?_
  refine z_backM (pc := 340) (o := (r, w')) hZ hw (z_run (pc := 340) (As := [.int (xs (x3 + 1).toNatClampNeg)]) (rest := [.int r]) C0 hK hw.2.1 hl.1 ⟨Nat.le_of_ble_eq_true rfl, Nat.le_of_ble_eq_true rfl⟩ (kX7_drop l D y am hZ.2.1 (xs (x3 + 1).toNatClampNeg) w h2) (by decide) ly_m0 rfl rfl wc_X7_drop wm_L_48 wi_X7_drop ws_X7_drop wn_X7 ⟨rfl, rfl⟩ hd_X7_drop rfl ⟨Nat.le_of_ble_eq_true rfl, Nat.le_of_ble_eq_true rfl⟩ (Nat.le_of_ble_eq_true rfl) dL_law_340) (fun H locs hw => ?_)
  have hw : ZH D y ad am u' w' s H locs := hw
  refine lv_icmp_eq (tgt := 805) (pc := 343) C0.1 C0.2.1 dL_law_343 (by decide) (fun _ => ?_) (fun hc => absurd rfl hc)
  exact kk _ _ H locs hR' hw
def Sim_setTray (Rl : S → S → Prop) : Prop := ∀ (u w : S) (a0 a1 a2 : Int32), Rl u w → ∃ (r : Int32) (u' : S) (w' : S), fX6_setTray a0 a1 a2 u = some (r, u') ∧ fX7_setTray a0 a1 a2 w = some (r, w') ∧ Rl u' w'
set_option maxRecDepth 100000 in
set_option maxHeartbeats 4000000 in
theorem law_c8 {Rl : S → S → Prop} {p : Program} {l : Launch} {e : Env} {s : State} {m : MethodId} {args : Array Value} {below : List Frame} {meth : Method} {c : Code} {Q : State → Prop} {D : va_G} {y : Nat → ClassId} {ad am : Nat → Nat} {b L i : Nat} {xs : Nat → Int32} (hsim : Sim_setTray Rl) (hL : L ≤ 2560) (C0 : CallFix p m c code 4 s args lwT RL) (hK : XK D y s) (hZ : ZC ad am s) (hX : va_X b L xs s s.heap) (hbl : b < s.heap.size) {H : Heap} {locs : List Loc} {ls : Array Slot} {u w : S} {x3 : Int32} (ex : x3 = nI i) (hi : i + 5 ≤ L) (hR : Rl u w) (hw : ZH D y ad am u w s H locs) (hl : lv_has ls 4 [(3, .int x3), (2, .ref (am 0)), (1, .ref (ad 167)), (0, .ref b)]) (kk : ∀ (u' w' : S) (H : Heap) (locs : List Loc), Rl u' w' → ZH D y ad am u' w' s H locs → W p l e room_1 s m args below meth c H locs 600000 7302250 Q (F0 m 805 ls [])) : W p l e room_1 s m args below meth c H locs 600000 7302250 Q (F0 m 348 ls []) := by
  have hbA : ¬ (fun q : Nat => s.heap.size ≤ q) b := Nat.not_le.mpr hbl
  have hin1 : vp_in (x3 + 1) L := law_in hL 1 ex (by omega) (by decide)
  have hin2 : vp_in (x3 + 2) L := law_in hL 2 ex (by omega) (by decide)
  have hin3 : vp_in (x3 + 3) L := law_in hL 3 ex (by omega) (by decide)
  refine lv_aload_n (pc := 348) C0.1 C0.2.1 dL_law_348 rfl (lv_at hl 2 rfl) ?_
  refine lv_aload_n (pc := 349) C0.1 C0.2.1 dL_law_349 rfl (lv_at hl 3 rfl) ?_
  refine lv_iload_n (pc := 350) C0.1 C0.2.1 dL_law_350 rfl (lv_at hl 0 rfl) ?_
  refine lv_iconst (v := 1) (pc := 351) C0.1 C0.2.1 dL_law_351 (by decide) ?_
  refine lv_iadd (pc := 352) C0.1 C0.2.1 dL_law_352 ?_
  refine va_sld (pc := 353) C0.1 C0.2.1 hX hbl hbA hw.2.2 hin1 dL_law_353 ?_
  refine lv_aload_n (pc := 354) C0.1 C0.2.1 dL_law_354 rfl (lv_at hl 3 rfl) ?_
  refine lv_iload_n (pc := 355) C0.1 C0.2.1 dL_law_355 rfl (lv_at hl 0 rfl) ?_
  refine lv_iconst (v := 2) (pc := 356) C0.1 C0.2.1 dL_law_356 (by decide) ?_
  refine lv_iadd (pc := 357) C0.1 C0.2.1 dL_law_357 ?_
  refine va_sld (pc := 358) C0.1 C0.2.1 hX hbl hbA hw.2.2 hin2 dL_law_358 ?_
  refine lv_aload_n (pc := 359) C0.1 C0.2.1 dL_law_359 rfl (lv_at hl 3 rfl) ?_
  refine lv_iload_n (pc := 360) C0.1 C0.2.1 dL_law_360 rfl (lv_at hl 0 rfl) ?_
  refine lv_iconst (v := 3) (pc := 361) C0.1 C0.2.1 dL_law_361 (by decide) ?_
  refine lv_iadd (pc := 362) C0.1 C0.2.1 dL_law_362 ?_
  refine va_sld (pc := 363) C0.1 C0.2.1 hX hbl hbA hw.2.2 hin3 dL_law_363 ?_
  obtain ⟨r, u', w', h1, h2, hR'⟩ := hsim u w (xs (x3 + 1).toNatClampNeg) (xs (x3 + 2).toNatClampNeg) (xs (x3 + 3).toNatClampNeg) hR
  refine z_backX (pc := 364) (o := (r, u')) hZ hw (z_run (pc := 364) (As := [.int (xs (x3 + 1).toNatClampNeg), .int (xs (x3 + 2).toNatClampNeg), .int (xs (x3 + 3).toNatClampNeg)]) (rest := []) C0 hK hw.1 hl.1 ⟨Nat.le_of_ble_eq_true rfl, Nat.le_of_ble_eq_true rfl⟩ (kX6_setTray l D y ad hZ.1 (xs (x3 + 1).toNatClampNeg) (xs (x3 + 2).toNatClampNeg) (xs (x3 + 3).toNatClampNeg) u h1) (by decide) ly_M rfl rfl wc_X6_setTray wm_L_49 wi_X6_setTray ws_X6_setTray wn_X6 ⟨rfl, rfl⟩ hd_X6_setTray rfl ⟨Nat.le_of_ble_eq_true rfl, Nat.le_of_ble_eq_true rfl⟩ (Nat.le_of_ble_eq_true rfl) dL_law_364) (fun H locs hw => ?_)
  have hw : ZH D y ad am u' w s H locs := hw
  refine lv_aload_n (pc := 367) C0.1 C0.2.1 dL_law_367 rfl (lv_at hl 1 rfl) ?_
  refine lv_aload_n (pc := 368) C0.1 C0.2.1 dL_law_368 rfl (lv_at hl 3 rfl) ?_
  refine lv_iload_n (pc := 369) C0.1 C0.2.1 dL_law_369 rfl (lv_at hl 0 rfl) ?_
  refine lv_iconst (v := 1) (pc := 370) C0.1 C0.2.1 dL_law_370 (by decide) ?_
  refine lv_iadd (pc := 371) C0.1 C0.2.1 dL_law_371 ?_
  refine va_sld (pc := 372) C0.1 C0.2.1 hX hbl hbA hw.2.2 hin1 dL_law_372 ?_
  refine lv_aload_n (pc := 373) C0.1 C0.2.1 dL_law_373 rfl (lv_at hl 3 rfl) ?_
  refine lv_iload_n (pc := 374) C0.1 C0.2.1 dL_law_374 rfl (lv_at hl 0 rfl) ?_
  refine lv_iconst (v := 2) (pc := 375) C0.1 C0.2.1 dL_law_375 (by decide) ?_
  refine lv_iadd (pc := 376) C0.1 C0.2.1 dL_law_376 ?_
  refine va_sld (pc := 377) C0.1 C0.2.1 hX hbl hbA hw.2.2 hin2 dL_law_377 ?_
  refine lv_aload_n (pc := 378) C0.1 C0.2.1 dL_law_378 rfl (lv_at hl 3 rfl) ?_
  refine lv_iload_n (pc := 379) C0.1 C0.2.1 dL_law_379 rfl (lv_at hl 0 rfl) ?_
  refine lv_iconst (v := 3) (pc := 380) C0.1 C0.2.1 dL_law_380 (by decide) ?_
  refine lv_iadd (pc := 381) C0.1 C0.2.1 dL_law_381 ?_
  refine va_sld (pc := 382) C0.1 C0.2.1 hX hbl hbA hw.2.2 hin3 dL_law_382 ?_
  refine z_backM (pc := 383) (o := (r, w')) hZ hw (z_run (pc := 383) (As := [.int (xs (x3 + 1).toNatClampNeg), .int (xs (x3 + 2).toNatClampNeg), .int (xs (x3 + 3).toNatClampNeg)]) (rest := [.int r]) C0 hK hw.2.1 hl.1 ⟨Nat.le_of_ble_eq_true rfl, Nat.le_of_ble_eq_true rfl⟩ (kX7_setTray l D y am hZ.2.1 (xs (x3 + 1).toNatClampNeg) (xs (x3 + 2).toNatClampNeg) (xs (x3 + 3).toNatClampNeg) w h2) (by decide) ly_m0 rfl rfl wc_X7_setTray wm_L_52 wi_X7_setTray ws_X7_setTray wn_X7 ⟨rfl, rfl⟩ hd_X7_setTray rfl ⟨Nat.le_of_ble_eq_true rfl, Nat.le_of_ble_eq_true rfl⟩ (Nat.le_of_ble_eq_true rfl) dL_law_383) (fun H locs hw => ?_)
  have hw : ZH D y ad am u' w' s H locs := hw
  refine lv_icmp_eq (tgt := 805) (pc := 386) C0.1 C0.2.1 dL_law_386 (by decide) (fun _ => ?_) (fun hc => absurd rfl hc)
  exact kk _ _ H locs hR' hw
def Sim_letDown (Rl : S → S → Prop) : Prop := ∀ (u w : S) (a0 a1 a2 a3 : Int32), Rl u w → (a3 = 0 ∨ a3 = 1) → ∃ (r : Int32) (u' : S) (w' : S), fX6_letDown a0 a1 a2 a3 u = some (r, u') ∧ fX7_letDown a0 a1 a2 a3 w = some (r, w') ∧ Rl u' w'
set_option maxRecDepth 100000 in
set_option maxHeartbeats 4000000 in
theorem law_c9 {Rl : S → S → Prop} {p : Program} {l : Launch} {e : Env} {s : State} {m : MethodId} {args : Array Value} {below : List Frame} {meth : Method} {c : Code} {Q : State → Prop} {D : va_G} {y : Nat → ClassId} {ad am : Nat → Nat} {b L i : Nat} {xs : Nat → Int32} (hsim : Sim_letDown Rl) (hL : L ≤ 2560) (C0 : CallFix p m c code 4 s args lwT RL) (hK : XK D y s) (hZ : ZC ad am s) (hX : va_X b L xs s s.heap) (hbl : b < s.heap.size) {H : Heap} {locs : List Loc} {ls : Array Slot} {u w : S} {x3 : Int32} (ex : x3 = nI i) (hi : i + 5 ≤ L) (hR : Rl u w) (hw : ZH D y ad am u w s H locs) (hl : lv_has ls 4 [(3, .int x3), (2, .ref (am 0)), (1, .ref (ad 167)), (0, .ref b)]) (kk : ∀ (u' w' : S) (H : Heap) (locs : List Loc), Rl u' w' → ZH D y ad am u' w' s H locs → W p l e room_1 s m args below meth c H locs 600000 7302250 Q (F0 m 805 ls [])) : W p l e room_1 s m args below meth c H locs 600000 7302250 Q (F0 m 391 ls []) := by
  have hbA : ¬ (fun q : Nat => s.heap.size ≤ q) b := Nat.not_le.mpr hbl
  have hin1 : vp_in (x3 + 1) L := law_in hL 1 ex (by omega) (by decide)
  have hin2 : vp_in (x3 + 2) L := law_in hL 2 ex (by omega) (by decide)
  have hin3 : vp_in (x3 + 3) L := law_in hL 3 ex (by omega) (by decide)
  have hin4 : vp_in (x3 + 4) L := law_in hL 4 ex (by omega) (by decide)
  refine lv_aload_n (pc := 391) C0.1 C0.2.1 dL_law_391 rfl (lv_at hl 2 rfl) ?_
  refine lv_aload_n (pc := 392) C0.1 C0.2.1 dL_law_392 rfl (lv_at hl 3 rfl) ?_
  refine lv_iload_n (pc := 393) C0.1 C0.2.1 dL_law_393 rfl (lv_at hl 0 rfl) ?_
  refine lv_iconst (v := 1) (pc := 394) C0.1 C0.2.1 dL_law_394 (by decide) ?_
  refine lv_iadd (pc := 395) C0.1 C0.2.1 dL_law_395 ?_
  refine va_sld (pc := 396) C0.1 C0.2.1 hX hbl hbA hw.2.2 hin1 dL_law_396 ?_
  refine lv_aload_n (pc := 397) C0.1 C0.2.1 dL_law_397 rfl (lv_at hl 3 rfl) ?_
  refine lv_iload_n (pc := 398) C0.1 C0.2.1 dL_law_398 rfl (lv_at hl 0 rfl) ?_
  refine lv_iconst (v := 2) (pc := 399) C0.1 C0.2.1 dL_law_399 (by decide) ?_
  refine lv_iadd (pc := 400) C0.1 C0.2.1 dL_law_400 ?_
  refine va_sld (pc := 401) C0.1 C0.2.1 hX hbl hbA hw.2.2 hin2 dL_law_401 ?_
  refine lv_aload_n (pc := 402) C0.1 C0.2.1 dL_law_402 rfl (lv_at hl 3 rfl) ?_
  refine lv_iload_n (pc := 403) C0.1 C0.2.1 dL_law_403 rfl (lv_at hl 0 rfl) ?_
  refine lv_iconst (v := 3) (pc := 404) C0.1 C0.2.1 dL_law_404 (by decide) ?_
  refine lv_iadd (pc := 405) C0.1 C0.2.1 dL_law_405 ?_
  refine va_sld (pc := 406) C0.1 C0.2.1 hX hbl hbA hw.2.2 hin3 dL_law_406 ?_
  refine lv_aload_n (pc := 407) C0.1 C0.2.1 dL_law_407 rfl (lv_at hl 3 rfl) ?_
  refine lv_iload_n (pc := 408) C0.1 C0.2.1 dL_law_408 rfl (lv_at hl 0 rfl) ?_
  refine lv_iconst (v := 4) (pc := 409) C0.1 C0.2.1 dL_law_409 (by decide) ?_
  refine lv_iadd (pc := 410) C0.1 C0.2.1 dL_law_410 ?_
  refine va_sld (pc := 411) C0.1 C0.2.1 hX hbl hbA hw.2.2 hin4 dL_law_411 ?_
  refine lv_if_eq (tgt := 419) (pc := 412) C0.1 C0.2.1 dL_law_412 (by decide) (fun hc => ?_) (fun hc => ?_)
  · skip
    refine lv_iconst (v := 0) (pc := 419) C0.1 C0.2.1 dL_law_419 (by decide) ?_
    obtain ⟨r, u', w', h1, h2, hR'⟩ := hsim u w (xs (x3 + 1).toNatClampNeg) (xs (x3 + 2).toNatClampNeg) (xs (x3 + 3).toNatClampNeg) 0 hR (Or.inl rfl)
    refine z_backX (pc := 420) (o := (r, u')) hZ hw (z_run (pc := 420) (As := [.int (xs (x3 + 1).toNatClampNeg), .int (xs (x3 + 2).toNatClampNeg), .int (xs (x3 + 3).toNatClampNeg), .int 0]) (rest := []) C0 hK hw.1 hl.1 ⟨Nat.le_of_ble_eq_true rfl, Nat.le_of_ble_eq_true rfl⟩ (kX6_letDown l D y ad hZ.1 (xs (x3 + 1).toNatClampNeg) (xs (x3 + 2).toNatClampNeg) (xs (x3 + 3).toNatClampNeg) 0 u h1) (by decide) ly_M rfl rfl wc_X6_letDown wm_L_53 wi_X6_letDown ws_X6_letDown wn_X6 ⟨rfl, rfl⟩ hd_X6_letDown rfl ⟨Nat.le_of_ble_eq_true rfl, Nat.le_of_ble_eq_true rfl⟩ (Nat.le_of_ble_eq_true rfl) dL_law_420) (fun H locs hw => ?_)
    have hw : ZH D y ad am u' w s H locs := hw
    refine lv_aload_n (pc := 423) C0.1 C0.2.1 dL_law_423 rfl (lv_at hl 1 rfl) ?_
    refine lv_aload_n (pc := 424) C0.1 C0.2.1 dL_law_424 rfl (lv_at hl 3 rfl) ?_
    refine lv_iload_n (pc := 425) C0.1 C0.2.1 dL_law_425 rfl (lv_at hl 0 rfl) ?_
    refine lv_iconst (v := 1) (pc := 426) C0.1 C0.2.1 dL_law_426 (by decide) ?_
    refine lv_iadd (pc := 427) C0.1 C0.2.1 dL_law_427 ?_
    refine va_sld (pc := 428) C0.1 C0.2.1 hX hbl hbA hw.2.2 hin1 dL_law_428 ?_
    refine lv_aload_n (pc := 429) C0.1 C0.2.1 dL_law_429 rfl (lv_at hl 3 rfl) ?_
    refine lv_iload_n (pc := 430) C0.1 C0.2.1 dL_law_430 rfl (lv_at hl 0 rfl) ?_
    refine lv_iconst (v := 2) (pc := 431) C0.1 C0.2.1 dL_law_431 (by decide) ?_
    refine lv_iadd (pc := 432) C0.1 C0.2.1 dL_law_432 ?_
    refine va_sld (pc := 433) C0.1 C0.2.1 hX hbl hbA hw.2.2 hin2 dL_law_433 ?_
    refine lv_aload_n (pc := 434) C0.1 C0.2.1 dL_law_434 rfl (lv_at hl 3 rfl) ?_
    refine lv_iload_n (pc := 435) C0.1 C0.2.1 dL_law_435 rfl (lv_at hl 0 rfl) ?_
    refine lv_iconst (v := 3) (pc := 436) C0.1 C0.2.1 dL_law_436 (by decide) ?_
    refine lv_iadd (pc := 437) C0.1 C0.2.1 dL_law_437 ?_
    refine va_sld (pc := 438) C0.1 C0.2.1 hX hbl hbA hw.2.2 hin3 dL_law_438 ?_
    refine lv_aload_n (pc := 439) C0.1 C0.2.1 dL_law_439 rfl (lv_at hl 3 rfl) ?_
    refine lv_iload_n (pc := 440) C0.1 C0.2.1 dL_law_440 rfl (lv_at hl 0 rfl) ?_
    refine lv_iconst (v := 4) (pc := 441) C0.1 C0.2.1 dL_law_441 (by decide) ?_
    refine lv_iadd (pc := 442) C0.1 C0.2.1 dL_law_442 ?_
    refine va_sld (pc := 443) C0.1 C0.2.1 hX hbl hbA hw.2.2 hin4 dL_law_443 ?_
    refine lv_if_eq (tgt := 451) (pc := 444) C0.1 C0.2.1 dL_law_444 (by decide) (fun _ => ?_) (fun hc2 => absurd hc hc2)
    refine lv_iconst (v := 0) (pc := 451) C0.1 C0.2.1 dL_law_451 (by decide) ?_
    refine z_backM (pc := 452) (o := (r, w')) hZ hw (z_run (pc := 452) (As := [.int (xs (x3 + 1).toNatClampNeg), .int (xs (x3 + 2).toNatClampNeg), .int (xs (x3 + 3).toNatClampNeg), .int 0]) (rest := [.int r]) C0 hK hw.2.1 hl.1 ⟨Nat.le_of_ble_eq_true rfl, Nat.le_of_ble_eq_true rfl⟩ (kX7_letDown l D y am hZ.2.1 (xs (x3 + 1).toNatClampNeg) (xs (x3 + 2).toNatClampNeg) (xs (x3 + 3).toNatClampNeg) 0 w h2) (by decide) ly_m0 rfl rfl wc_X7_letDown wm_L_57 wi_X7_letDown ws_X7_letDown wn_X7 ⟨rfl, rfl⟩ hd_X7_letDown rfl ⟨Nat.le_of_ble_eq_true rfl, Nat.le_of_ble_eq_true rfl⟩ (Nat.le_of_ble_eq_true rfl) dL_law_452) (fun H locs hw => ?_)
    have hw : ZH D y ad am u' w' s H locs := hw
    refine lv_icmp_eq (tgt := 805) (pc := 455) C0.1 C0.2.1 dL_law_455 (by decide) (fun _ => ?_) (fun hc => absurd rfl hc)
    exact kk _ _ H locs hR' hw
  · skip
    refine lv_iconst (v := 1) (pc := 415) C0.1 C0.2.1 dL_law_415 (by decide) ?_
    refine lv_goto (tgt := 420) (pc := 416) C0.1 C0.2.1 dL_law_416 (by decide) ?_
    obtain ⟨r, u', w', h1, h2, hR'⟩ := hsim u w (xs (x3 + 1).toNatClampNeg) (xs (x3 + 2).toNatClampNeg) (xs (x3 + 3).toNatClampNeg) 1 hR (Or.inr rfl)
    refine z_backX (pc := 420) (o := (r, u')) hZ hw (z_run (pc := 420) (As := [.int (xs (x3 + 1).toNatClampNeg), .int (xs (x3 + 2).toNatClampNeg), .int (xs (x3 + 3).toNatClampNeg), .int 1]) (rest := []) C0 hK hw.1 hl.1 ⟨Nat.le_of_ble_eq_true rfl, Nat.le_of_ble_eq_true rfl⟩ (kX6_letDown l D y ad hZ.1 (xs (x3 + 1).toNatClampNeg) (xs (x3 + 2).toNatClampNeg) (xs (x3 + 3).toNatClampNeg) 1 u h1) (by decide) ly_M rfl rfl wc_X6_letDown wm_L_53 wi_X6_letDown ws_X6_letDown wn_X6 ⟨rfl, rfl⟩ hd_X6_letDown rfl ⟨Nat.le_of_ble_eq_true rfl, Nat.le_of_ble_eq_true rfl⟩ (Nat.le_of_ble_eq_true rfl) dL_law_420) (fun H locs hw => ?_)
    have hw : ZH D y ad am u' w s H locs := hw
    refine lv_aload_n (pc := 423) C0.1 C0.2.1 dL_law_423 rfl (lv_at hl 1 rfl) ?_
    refine lv_aload_n (pc := 424) C0.1 C0.2.1 dL_law_424 rfl (lv_at hl 3 rfl) ?_
    refine lv_iload_n (pc := 425) C0.1 C0.2.1 dL_law_425 rfl (lv_at hl 0 rfl) ?_
    refine lv_iconst (v := 1) (pc := 426) C0.1 C0.2.1 dL_law_426 (by decide) ?_
    refine lv_iadd (pc := 427) C0.1 C0.2.1 dL_law_427 ?_
    refine va_sld (pc := 428) C0.1 C0.2.1 hX hbl hbA hw.2.2 hin1 dL_law_428 ?_
    refine lv_aload_n (pc := 429) C0.1 C0.2.1 dL_law_429 rfl (lv_at hl 3 rfl) ?_
    refine lv_iload_n (pc := 430) C0.1 C0.2.1 dL_law_430 rfl (lv_at hl 0 rfl) ?_
    refine lv_iconst (v := 2) (pc := 431) C0.1 C0.2.1 dL_law_431 (by decide) ?_
    refine lv_iadd (pc := 432) C0.1 C0.2.1 dL_law_432 ?_
    refine va_sld (pc := 433) C0.1 C0.2.1 hX hbl hbA hw.2.2 hin2 dL_law_433 ?_
    refine lv_aload_n (pc := 434) C0.1 C0.2.1 dL_law_434 rfl (lv_at hl 3 rfl) ?_
    refine lv_iload_n (pc := 435) C0.1 C0.2.1 dL_law_435 rfl (lv_at hl 0 rfl) ?_
    refine lv_iconst (v := 3) (pc := 436) C0.1 C0.2.1 dL_law_436 (by decide) ?_
    refine lv_iadd (pc := 437) C0.1 C0.2.1 dL_law_437 ?_
    refine va_sld (pc := 438) C0.1 C0.2.1 hX hbl hbA hw.2.2 hin3 dL_law_438 ?_
    refine lv_aload_n (pc := 439) C0.1 C0.2.1 dL_law_439 rfl (lv_at hl 3 rfl) ?_
    refine lv_iload_n (pc := 440) C0.1 C0.2.1 dL_law_440 rfl (lv_at hl 0 rfl) ?_
    refine lv_iconst (v := 4) (pc := 441) C0.1 C0.2.1 dL_law_441 (by decide) ?_
    refine lv_iadd (pc := 442) C0.1 C0.2.1 dL_law_442 ?_
    refine va_sld (pc := 443) C0.1 C0.2.1 hX hbl hbA hw.2.2 hin4 dL_law_443 ?_
    refine lv_if_eq (tgt := 451) (pc := 444) C0.1 C0.2.1 dL_law_444 (by decide) (fun hc2 => absurd hc2 hc) (fun _ => ?_)
    refine lv_iconst (v := 1) (pc := 447) C0.1 C0.2.1 dL_law_447 (by decide) ?_
    refine lv_goto (tgt := 452) (pc := 448) C0.1 C0.2.1 dL_law_448 (by decide) ?_
    refine z_backM (pc := 452) (o := (r, w')) hZ hw (z_run (pc := 452) (As := [.int (xs (x3 + 1).toNatClampNeg), .int (xs (x3 + 2).toNatClampNeg), .int (xs (x3 + 3).toNatClampNeg), .int 1]) (rest := [.int r]) C0 hK hw.2.1 hl.1 ⟨Nat.le_of_ble_eq_true rfl, Nat.le_of_ble_eq_true rfl⟩ (kX7_letDown l D y am hZ.2.1 (xs (x3 + 1).toNatClampNeg) (xs (x3 + 2).toNatClampNeg) (xs (x3 + 3).toNatClampNeg) 1 w h2) (by decide) ly_m0 rfl rfl wc_X7_letDown wm_L_57 wi_X7_letDown ws_X7_letDown wn_X7 ⟨rfl, rfl⟩ hd_X7_letDown rfl ⟨Nat.le_of_ble_eq_true rfl, Nat.le_of_ble_eq_true rfl⟩ (Nat.le_of_ble_eq_true rfl) dL_law_452) (fun H locs hw => ?_)
    have hw : ZH D y ad am u' w' s H locs := hw
    refine lv_icmp_eq (tgt := 805) (pc := 455) C0.1 C0.2.1 dL_law_455 (by decide) (fun _ => ?_) (fun hc => absurd rfl hc)
    exact kk _ _ H locs hR' hw
def Sim_takeOut (Rl : S → S → Prop) : Prop := ∀ (u w : S) (a0 : Int32), Rl u w → ∃ (r : Int32) (u' : S) (w' : S), fX6_takeOut a0 u = some (r, u') ∧ fX7_takeOut a0 w = some (r, w') ∧ Rl u' w'
set_option maxRecDepth 100000 in
set_option maxHeartbeats 4000000 in
theorem law_c10 {Rl : S → S → Prop} {p : Program} {l : Launch} {e : Env} {s : State} {m : MethodId} {args : Array Value} {below : List Frame} {meth : Method} {c : Code} {Q : State → Prop} {D : va_G} {y : Nat → ClassId} {ad am : Nat → Nat} {b L i : Nat} {xs : Nat → Int32} (hsim : Sim_takeOut Rl) (hL : L ≤ 2560) (C0 : CallFix p m c code 4 s args lwT RL) (hK : XK D y s) (hZ : ZC ad am s) (hX : va_X b L xs s s.heap) (hbl : b < s.heap.size) {H : Heap} {locs : List Loc} {ls : Array Slot} {u w : S} {x3 : Int32} (ex : x3 = nI i) (hi : i + 5 ≤ L) (hR : Rl u w) (hw : ZH D y ad am u w s H locs) (hl : lv_has ls 4 [(3, .int x3), (2, .ref (am 0)), (1, .ref (ad 167)), (0, .ref b)]) (kk : ∀ (u' w' : S) (H : Heap) (locs : List Loc), Rl u' w' → ZH D y ad am u' w' s H locs → W p l e room_1 s m args below meth c H locs 600000 7302250 Q (F0 m 805 ls [])) : W p l e room_1 s m args below meth c H locs 600000 7302250 Q (F0 m 460 ls []) := by
  have hbA : ¬ (fun q : Nat => s.heap.size ≤ q) b := Nat.not_le.mpr hbl
  have hin1 : vp_in (x3 + 1) L := law_in hL 1 ex (by omega) (by decide)
  refine lv_aload_n (pc := 460) C0.1 C0.2.1 dL_law_460 rfl (lv_at hl 2 rfl) ?_
  refine lv_aload_n (pc := 461) C0.1 C0.2.1 dL_law_461 rfl (lv_at hl 3 rfl) ?_
  refine lv_iload_n (pc := 462) C0.1 C0.2.1 dL_law_462 rfl (lv_at hl 0 rfl) ?_
  refine lv_iconst (v := 1) (pc := 463) C0.1 C0.2.1 dL_law_463 (by decide) ?_
  refine lv_iadd (pc := 464) C0.1 C0.2.1 dL_law_464 ?_
  refine va_sld (pc := 465) C0.1 C0.2.1 hX hbl hbA hw.2.2 hin1 dL_law_465 ?_
  obtain ⟨r, u', w', h1, h2, hR'⟩ := hsim u w (xs (x3 + 1).toNatClampNeg) hR
  refine z_backX (pc := 466) (o := (r, u')) hZ hw (z_run (pc := 466) (As := [.int (xs (x3 + 1).toNatClampNeg)]) (rest := []) C0 hK hw.1 hl.1 ⟨Nat.le_of_ble_eq_true rfl, Nat.le_of_ble_eq_true rfl⟩ (kX6_takeOut l D y ad hZ.1 (xs (x3 + 1).toNatClampNeg) u h1) (by decide) ly_M rfl rfl wc_X6_takeOut wm_L_58 wi_X6_takeOut ws_X6_takeOut wn_X6 ⟨rfl, rfl⟩ hd_X6_takeOut rfl ⟨Nat.le_of_ble_eq_true rfl, Nat.le_of_ble_eq_true rfl⟩ (Nat.le_of_ble_eq_true rfl) dL_law_466) (fun H locs hw => ?_)
  have hw : ZH D y ad am u' w s H locs := hw
  refine lv_aload_n (pc := 469) C0.1 C0.2.1 dL_law_469 rfl (lv_at hl 1 rfl) ?_
  refine lv_aload_n (pc := 470) C0.1 C0.2.1 dL_law_470 rfl (lv_at hl 3 rfl) ?_
  refine lv_iload_n (pc := 471) C0.1 C0.2.1 dL_law_471 rfl (lv_at hl 0 rfl) ?_
  refine lv_iconst (v := 1) (pc := 472) C0.1 C0.2.1 dL_law_472 (by decide) ?_
  refine lv_iadd (pc := 473) C0.1 C0.2.1 dL_law_473 ?_
  refine va_sld (pc := 474) C0.1 C0.2.1 hX hbl hbA hw.2.2 hin1 dL_law_474 ?_
  refine z_backM (pc := 475) (o := (r, w')) hZ hw (z_run (pc := 475) (As := [.int (xs (x3 + 1).toNatClampNeg)]) (rest := [.int r]) C0 hK hw.2.1 hl.1 ⟨Nat.le_of_ble_eq_true rfl, Nat.le_of_ble_eq_true rfl⟩ (kX7_takeOut l D y am hZ.2.1 (xs (x3 + 1).toNatClampNeg) w h2) (by decide) ly_m0 rfl rfl wc_X7_takeOut wm_L_61 wi_X7_takeOut ws_X7_takeOut wn_X7 ⟨rfl, rfl⟩ hd_X7_takeOut rfl ⟨Nat.le_of_ble_eq_true rfl, Nat.le_of_ble_eq_true rfl⟩ (Nat.le_of_ble_eq_true rfl) dL_law_475) (fun H locs hw => ?_)
  have hw : ZH D y ad am u' w' s H locs := hw
  refine lv_icmp_eq (tgt := 805) (pc := 478) C0.1 C0.2.1 dL_law_478 (by decide) (fun _ => ?_) (fun hc => absurd rfl hc)
  exact kk _ _ H locs hR' hw
def Sim_empty (Rl : S → S → Prop) : Prop := ∀ (u w : S), Rl u w → ∃ (r : Int32) (u' : S) (w' : S), fX6_empty u = some (r, u') ∧ fX7_empty w = some (r, w') ∧ Rl u' w'
set_option maxRecDepth 100000 in
set_option maxHeartbeats 4000000 in
theorem law_c11 {Rl : S → S → Prop} {p : Program} {l : Launch} {e : Env} {s : State} {m : MethodId} {args : Array Value} {below : List Frame} {meth : Method} {c : Code} {Q : State → Prop} {D : va_G} {y : Nat → ClassId} {ad am : Nat → Nat} {b L i : Nat} {xs : Nat → Int32} (hsim : Sim_empty Rl) (hL : L ≤ 2560) (C0 : CallFix p m c code 4 s args lwT RL) (hK : XK D y s) (hZ : ZC ad am s) (hX : va_X b L xs s s.heap) (hbl : b < s.heap.size) {H : Heap} {locs : List Loc} {ls : Array Slot} {u w : S} {x3 : Int32} (ex : x3 = nI i) (hi : i + 5 ≤ L) (hR : Rl u w) (hw : ZH D y ad am u w s H locs) (hl : lv_has ls 4 [(3, .int x3), (2, .ref (am 0)), (1, .ref (ad 167)), (0, .ref b)]) (kk : ∀ (u' w' : S) (H : Heap) (locs : List Loc), Rl u' w' → ZH D y ad am u' w' s H locs → W p l e room_1 s m args below meth c H locs 600000 7302250 Q (F0 m 805 ls [])) : W p l e room_1 s m args below meth c H locs 600000 7302250 Q (F0 m 483 ls []) := by
  have hbA : ¬ (fun q : Nat => s.heap.size ≤ q) b := Nat.not_le.mpr hbl
  refine lv_aload_n (pc := 483) C0.1 C0.2.1 dL_law_483 rfl (lv_at hl 2 rfl) ?_
  obtain ⟨r, u', w', h1, h2, hR'⟩ := hsim u w  hR
  refine z_backX (pc := 484) (o := (r, u')) hZ hw (z_run (pc := 484) (As := []) (rest := []) C0 hK hw.1 hl.1 ⟨Nat.le_of_ble_eq_true rfl, Nat.le_of_ble_eq_true rfl⟩ (kX6_empty l D y ad hZ.1  u h1) (by decide) ly_M rfl rfl wc_X6_empty wm_L_62 wi_X6_empty ws_X6_empty wn_X6 ⟨rfl, rfl⟩ hd_X6_empty rfl ⟨Nat.le_of_ble_eq_true rfl, Nat.le_of_ble_eq_true rfl⟩ (Nat.le_of_ble_eq_true rfl) dL_law_484) (fun H locs hw => ?_)
  have hw : ZH D y ad am u' w s H locs := hw
  refine lv_aload_n (pc := 487) C0.1 C0.2.1 dL_law_487 rfl (lv_at hl 1 rfl) ?_
  refine z_backM (pc := 488) (o := (r, w')) hZ hw (z_run (pc := 488) (As := []) (rest := [.int r]) C0 hK hw.2.1 hl.1 ⟨Nat.le_of_ble_eq_true rfl, Nat.le_of_ble_eq_true rfl⟩ (kX7_empty l D y am hZ.2.1  w h2) (by decide) ly_m0 rfl rfl wc_X7_empty wm_L_65 wi_X7_empty ws_X7_empty wn_X7 ⟨rfl, rfl⟩ hd_X7_empty rfl ⟨Nat.le_of_ble_eq_true rfl, Nat.le_of_ble_eq_true rfl⟩ (Nat.le_of_ble_eq_true rfl) dL_law_488) (fun H locs hw => ?_)
  have hw : ZH D y ad am u' w' s H locs := hw
  refine lv_icmp_eq (tgt := 805) (pc := 491) C0.1 C0.2.1 dL_law_491 (by decide) (fun _ => ?_) (fun hc => absurd rfl hc)
  exact kk _ _ H locs hR' hw
def Sim_tray (Rl : S → S → Prop) : Prop := ∀ (u w : S) (a0 a1 : Int32), Rl u w → ∃ (r : Int32), fX6_tray a0 a1 u = some r ∧ fX7_tray a0 a1 w = some r ∧ Rl u w
set_option maxRecDepth 100000 in
set_option maxHeartbeats 4000000 in
theorem law_c12 {Rl : S → S → Prop} {p : Program} {l : Launch} {e : Env} {s : State} {m : MethodId} {args : Array Value} {below : List Frame} {meth : Method} {c : Code} {Q : State → Prop} {D : va_G} {y : Nat → ClassId} {ad am : Nat → Nat} {b L i : Nat} {xs : Nat → Int32} (hsim : Sim_tray Rl) (hL : L ≤ 2560) (C0 : CallFix p m c code 4 s args lwT RL) (hK : XK D y s) (hZ : ZC ad am s) (hX : va_X b L xs s s.heap) (hbl : b < s.heap.size) {H : Heap} {locs : List Loc} {ls : Array Slot} {u w : S} {x3 : Int32} (ex : x3 = nI i) (hi : i + 5 ≤ L) (hR : Rl u w) (hw : ZH D y ad am u w s H locs) (hl : lv_has ls 4 [(3, .int x3), (2, .ref (am 0)), (1, .ref (ad 167)), (0, .ref b)]) (kk : ∀ (u' w' : S) (H : Heap) (locs : List Loc), Rl u' w' → ZH D y ad am u' w' s H locs → W p l e room_1 s m args below meth c H locs 600000 7302250 Q (F0 m 805 ls [])) : W p l e room_1 s m args below meth c H locs 600000 7302250 Q (F0 m 496 ls []) := by
  have hbA : ¬ (fun q : Nat => s.heap.size ≤ q) b := Nat.not_le.mpr hbl
  have hin1 : vp_in (x3 + 1) L := law_in hL 1 ex (by omega) (by decide)
  have hin2 : vp_in (x3 + 2) L := law_in hL 2 ex (by omega) (by decide)
  refine lv_aload_n (pc := 496) C0.1 C0.2.1 dL_law_496 rfl (lv_at hl 2 rfl) ?_
  refine lv_aload_n (pc := 497) C0.1 C0.2.1 dL_law_497 rfl (lv_at hl 3 rfl) ?_
  refine lv_iload_n (pc := 498) C0.1 C0.2.1 dL_law_498 rfl (lv_at hl 0 rfl) ?_
  refine lv_iconst (v := 1) (pc := 499) C0.1 C0.2.1 dL_law_499 (by decide) ?_
  refine lv_iadd (pc := 500) C0.1 C0.2.1 dL_law_500 ?_
  refine va_sld (pc := 501) C0.1 C0.2.1 hX hbl hbA hw.2.2 hin1 dL_law_501 ?_
  refine lv_aload_n (pc := 502) C0.1 C0.2.1 dL_law_502 rfl (lv_at hl 3 rfl) ?_
  refine lv_iload_n (pc := 503) C0.1 C0.2.1 dL_law_503 rfl (lv_at hl 0 rfl) ?_
  refine lv_iconst (v := 2) (pc := 504) C0.1 C0.2.1 dL_law_504 (by decide) ?_
  refine lv_iadd (pc := 505) C0.1 C0.2.1 dL_law_505 ?_
  refine va_sld (pc := 506) C0.1 C0.2.1 hX hbl hbA hw.2.2 hin2 dL_law_506 ?_
  obtain ⟨r, h1, h2, hR'⟩ := hsim u w (xs (x3 + 1).toNatClampNeg) (xs (x3 + 2).toNatClampNeg) hR
  refine z_backX (pc := 507) (o := (r, u)) hZ hw (z_run (pc := 507) (As := [.int (xs (x3 + 1).toNatClampNeg), .int (xs (x3 + 2).toNatClampNeg)]) (rest := []) C0 hK hw.1 hl.1 ⟨Nat.le_of_ble_eq_true rfl, Nat.le_of_ble_eq_true rfl⟩ (kX6_tray l D y ad hZ.1 (xs (x3 + 1).toNatClampNeg) (xs (x3 + 2).toNatClampNeg) u h1) (by decide) ly_M rfl rfl wc_X6_tray wm_L_66 wi_X6_tray ws_X6_tray wn_X6 ⟨rfl, rfl⟩ hd_X6_tray rfl ⟨Nat.le_of_ble_eq_true rfl, Nat.le_of_ble_eq_true rfl⟩ (Nat.le_of_ble_eq_true rfl) dL_law_507) (fun H locs hw => ?_)
  have hw : ZH D y ad am u w s H locs := hw
  refine lv_aload_n (pc := 510) C0.1 C0.2.1 dL_law_510 rfl (lv_at hl 1 rfl) ?_
  refine lv_aload_n (pc := 511) C0.1 C0.2.1 dL_law_511 rfl (lv_at hl 3 rfl) ?_
  refine lv_iload_n (pc := 512) C0.1 C0.2.1 dL_law_512 rfl (lv_at hl 0 rfl) ?_
  refine lv_iconst (v := 1) (pc := 513) C0.1 C0.2.1 dL_law_513 (by decide) ?_
  refine lv_iadd (pc := 514) C0.1 C0.2.1 dL_law_514 ?_
  refine va_sld (pc := 515) C0.1 C0.2.1 hX hbl hbA hw.2.2 hin1 dL_law_515 ?_
  refine lv_aload_n (pc := 516) C0.1 C0.2.1 dL_law_516 rfl (lv_at hl 3 rfl) ?_
  refine lv_iload_n (pc := 517) C0.1 C0.2.1 dL_law_517 rfl (lv_at hl 0 rfl) ?_
  refine lv_iconst (v := 2) (pc := 518) C0.1 C0.2.1 dL_law_518 (by decide) ?_
  refine lv_iadd (pc := 519) C0.1 C0.2.1 dL_law_519 ?_
  refine va_sld (pc := 520) C0.1 C0.2.1 hX hbl hbA hw.2.2 hin2 dL_law_520 ?_
  refine z_backM (pc := 521) (o := (r, w)) hZ hw (z_run (pc := 521) (As := [.int (xs (x3 + 1).toNatClampNeg), .int (xs (x3 + 2).toNatClampNeg)]) (rest := [.int r]) C0 hK hw.2.1 hl.1 ⟨Nat.le_of_ble_eq_true rfl, Nat.le_of_ble_eq_true rfl⟩ (kX7_tray l D y am hZ.2.1 (xs (x3 + 1).toNatClampNeg) (xs (x3 + 2).toNatClampNeg) w h2) (by decide) ly_m0 rfl rfl wc_X7_tray wm_L_70 wi_X7_tray ws_X7_tray wn_X7 ⟨rfl, rfl⟩ hd_X7_tray rfl ⟨Nat.le_of_ble_eq_true rfl, Nat.le_of_ble_eq_true rfl⟩ (Nat.le_of_ble_eq_true rfl) dL_law_521) (fun H locs hw => ?_)
  have hw : ZH D y ad am u w s H locs := hw
  refine lv_icmp_eq (tgt := 805) (pc := 524) C0.1 C0.2.1 dL_law_524 (by decide) (fun _ => ?_) (fun hc => absurd rfl hc)
  exact kk _ _ H locs hR' hw
def Sim_seen (Rl : S → S → Prop) : Prop := ∀ (u w : S) (a0 a1 a2 : Int32), Rl u w → (a2 = 0 ∨ a2 = 1) → ∃ (r : Int32), fX6_seen a0 a1 a2 u = some r ∧ fX7_seen a0 a1 a2 w = some r ∧ Rl u w
set_option maxRecDepth 100000 in
set_option maxHeartbeats 4000000 in
theorem law_c13 {Rl : S → S → Prop} {p : Program} {l : Launch} {e : Env} {s : State} {m : MethodId} {args : Array Value} {below : List Frame} {meth : Method} {c : Code} {Q : State → Prop} {D : va_G} {y : Nat → ClassId} {ad am : Nat → Nat} {b L i : Nat} {xs : Nat → Int32} (hsim : Sim_seen Rl) (hL : L ≤ 2560) (C0 : CallFix p m c code 4 s args lwT RL) (hK : XK D y s) (hZ : ZC ad am s) (hX : va_X b L xs s s.heap) (hbl : b < s.heap.size) {H : Heap} {locs : List Loc} {ls : Array Slot} {u w : S} {x3 : Int32} (ex : x3 = nI i) (hi : i + 5 ≤ L) (hR : Rl u w) (hw : ZH D y ad am u w s H locs) (hl : lv_has ls 4 [(3, .int x3), (2, .ref (am 0)), (1, .ref (ad 167)), (0, .ref b)]) (kk : ∀ (u' w' : S) (H : Heap) (locs : List Loc), Rl u' w' → ZH D y ad am u' w' s H locs → W p l e room_1 s m args below meth c H locs 600000 7302250 Q (F0 m 805 ls [])) : W p l e room_1 s m args below meth c H locs 600000 7302250 Q (F0 m 529 ls []) := by
  have hbA : ¬ (fun q : Nat => s.heap.size ≤ q) b := Nat.not_le.mpr hbl
  have hin1 : vp_in (x3 + 1) L := law_in hL 1 ex (by omega) (by decide)
  have hin2 : vp_in (x3 + 2) L := law_in hL 2 ex (by omega) (by decide)
  have hin3 : vp_in (x3 + 3) L := law_in hL 3 ex (by omega) (by decide)
  refine lv_aload_n (pc := 529) C0.1 C0.2.1 dL_law_529 rfl (lv_at hl 2 rfl) ?_
  refine lv_aload_n (pc := 530) C0.1 C0.2.1 dL_law_530 rfl (lv_at hl 3 rfl) ?_
  refine lv_iload_n (pc := 531) C0.1 C0.2.1 dL_law_531 rfl (lv_at hl 0 rfl) ?_
  refine lv_iconst (v := 1) (pc := 532) C0.1 C0.2.1 dL_law_532 (by decide) ?_
  refine lv_iadd (pc := 533) C0.1 C0.2.1 dL_law_533 ?_
  refine va_sld (pc := 534) C0.1 C0.2.1 hX hbl hbA hw.2.2 hin1 dL_law_534 ?_
  refine lv_aload_n (pc := 535) C0.1 C0.2.1 dL_law_535 rfl (lv_at hl 3 rfl) ?_
  refine lv_iload_n (pc := 536) C0.1 C0.2.1 dL_law_536 rfl (lv_at hl 0 rfl) ?_
  refine lv_iconst (v := 2) (pc := 537) C0.1 C0.2.1 dL_law_537 (by decide) ?_
  refine lv_iadd (pc := 538) C0.1 C0.2.1 dL_law_538 ?_
  refine va_sld (pc := 539) C0.1 C0.2.1 hX hbl hbA hw.2.2 hin2 dL_law_539 ?_
  refine lv_aload_n (pc := 540) C0.1 C0.2.1 dL_law_540 rfl (lv_at hl 3 rfl) ?_
  refine lv_iload_n (pc := 541) C0.1 C0.2.1 dL_law_541 rfl (lv_at hl 0 rfl) ?_
  refine lv_iconst (v := 3) (pc := 542) C0.1 C0.2.1 dL_law_542 (by decide) ?_
  refine lv_iadd (pc := 543) C0.1 C0.2.1 dL_law_543 ?_
  refine va_sld (pc := 544) C0.1 C0.2.1 hX hbl hbA hw.2.2 hin3 dL_law_544 ?_
  refine lv_if_eq (tgt := 552) (pc := 545) C0.1 C0.2.1 dL_law_545 (by decide) (fun hc => ?_) (fun hc => ?_)
  · skip
    refine lv_iconst (v := 0) (pc := 552) C0.1 C0.2.1 dL_law_552 (by decide) ?_
    obtain ⟨r, h1, h2, hR'⟩ := hsim u w (xs (x3 + 1).toNatClampNeg) (xs (x3 + 2).toNatClampNeg) 0 hR (Or.inl rfl)
    refine z_backX (pc := 553) (o := (r, u)) hZ hw (z_run (pc := 553) (As := [.int (xs (x3 + 1).toNatClampNeg), .int (xs (x3 + 2).toNatClampNeg), .int 0]) (rest := []) C0 hK hw.1 hl.1 ⟨Nat.le_of_ble_eq_true rfl, Nat.le_of_ble_eq_true rfl⟩ (kX6_seen l D y ad hZ.1 (xs (x3 + 1).toNatClampNeg) (xs (x3 + 2).toNatClampNeg) 0 u h1) (by decide) ly_M rfl rfl wc_X6_seen wm_L_71 wi_X6_seen ws_X6_seen wn_X6 ⟨rfl, rfl⟩ hd_X6_seen rfl ⟨Nat.le_of_ble_eq_true rfl, Nat.le_of_ble_eq_true rfl⟩ (Nat.le_of_ble_eq_true rfl) dL_law_553) (fun H locs hw => ?_)
    have hw : ZH D y ad am u w s H locs := hw
    refine lv_aload_n (pc := 556) C0.1 C0.2.1 dL_law_556 rfl (lv_at hl 1 rfl) ?_
    refine lv_aload_n (pc := 557) C0.1 C0.2.1 dL_law_557 rfl (lv_at hl 3 rfl) ?_
    refine lv_iload_n (pc := 558) C0.1 C0.2.1 dL_law_558 rfl (lv_at hl 0 rfl) ?_
    refine lv_iconst (v := 1) (pc := 559) C0.1 C0.2.1 dL_law_559 (by decide) ?_
    refine lv_iadd (pc := 560) C0.1 C0.2.1 dL_law_560 ?_
    refine va_sld (pc := 561) C0.1 C0.2.1 hX hbl hbA hw.2.2 hin1 dL_law_561 ?_
    refine lv_aload_n (pc := 562) C0.1 C0.2.1 dL_law_562 rfl (lv_at hl 3 rfl) ?_
    refine lv_iload_n (pc := 563) C0.1 C0.2.1 dL_law_563 rfl (lv_at hl 0 rfl) ?_
    refine lv_iconst (v := 2) (pc := 564) C0.1 C0.2.1 dL_law_564 (by decide) ?_
    refine lv_iadd (pc := 565) C0.1 C0.2.1 dL_law_565 ?_
    refine va_sld (pc := 566) C0.1 C0.2.1 hX hbl hbA hw.2.2 hin2 dL_law_566 ?_
    refine lv_aload_n (pc := 567) C0.1 C0.2.1 dL_law_567 rfl (lv_at hl 3 rfl) ?_
    refine lv_iload_n (pc := 568) C0.1 C0.2.1 dL_law_568 rfl (lv_at hl 0 rfl) ?_
    refine lv_iconst (v := 3) (pc := 569) C0.1 C0.2.1 dL_law_569 (by decide) ?_
    refine lv_iadd (pc := 570) C0.1 C0.2.1 dL_law_570 ?_
    refine va_sld (pc := 571) C0.1 C0.2.1 hX hbl hbA hw.2.2 hin3 dL_law_571 ?_
    refine lv_if_eq (tgt := 579) (pc := 572) C0.1 C0.2.1 dL_law_572 (by decide) (fun _ => ?_) (fun hc2 => absurd hc hc2)
    refine lv_iconst (v := 0) (pc := 579) C0.1 C0.2.1 dL_law_579 (by decide) ?_
    refine z_backM (pc := 580) (o := (r, w)) hZ hw (z_run (pc := 580) (As := [.int (xs (x3 + 1).toNatClampNeg), .int (xs (x3 + 2).toNatClampNeg), .int 0]) (rest := [.int r]) C0 hK hw.2.1 hl.1 ⟨Nat.le_of_ble_eq_true rfl, Nat.le_of_ble_eq_true rfl⟩ (kX7_seen l D y am hZ.2.1 (xs (x3 + 1).toNatClampNeg) (xs (x3 + 2).toNatClampNeg) 0 w h2) (by decide) ly_m0 rfl rfl wc_X7_seen wm_L_75 wi_X7_seen ws_X7_seen wn_X7 ⟨rfl, rfl⟩ hd_X7_seen rfl ⟨Nat.le_of_ble_eq_true rfl, Nat.le_of_ble_eq_true rfl⟩ (Nat.le_of_ble_eq_true rfl) dL_law_580) (fun H locs hw => ?_)
    have hw : ZH D y ad am u w s H locs := hw
    refine lv_icmp_eq (tgt := 805) (pc := 583) C0.1 C0.2.1 dL_law_583 (by decide) (fun _ => ?_) (fun hc => absurd rfl hc)
    exact kk _ _ H locs hR' hw
  · skip
    refine lv_iconst (v := 1) (pc := 548) C0.1 C0.2.1 dL_law_548 (by decide) ?_
    refine lv_goto (tgt := 553) (pc := 549) C0.1 C0.2.1 dL_law_549 (by decide) ?_
    obtain ⟨r, h1, h2, hR'⟩ := hsim u w (xs (x3 + 1).toNatClampNeg) (xs (x3 + 2).toNatClampNeg) 1 hR (Or.inr rfl)
    refine z_backX (pc := 553) (o := (r, u)) hZ hw (z_run (pc := 553) (As := [.int (xs (x3 + 1).toNatClampNeg), .int (xs (x3 + 2).toNatClampNeg), .int 1]) (rest := []) C0 hK hw.1 hl.1 ⟨Nat.le_of_ble_eq_true rfl, Nat.le_of_ble_eq_true rfl⟩ (kX6_seen l D y ad hZ.1 (xs (x3 + 1).toNatClampNeg) (xs (x3 + 2).toNatClampNeg) 1 u h1) (by decide) ly_M rfl rfl wc_X6_seen wm_L_71 wi_X6_seen ws_X6_seen wn_X6 ⟨rfl, rfl⟩ hd_X6_seen rfl ⟨Nat.le_of_ble_eq_true rfl, Nat.le_of_ble_eq_true rfl⟩ (Nat.le_of_ble_eq_true rfl) dL_law_553) (fun H locs hw => ?_)
    have hw : ZH D y ad am u w s H locs := hw
    refine lv_aload_n (pc := 556) C0.1 C0.2.1 dL_law_556 rfl (lv_at hl 1 rfl) ?_
    refine lv_aload_n (pc := 557) C0.1 C0.2.1 dL_law_557 rfl (lv_at hl 3 rfl) ?_
    refine lv_iload_n (pc := 558) C0.1 C0.2.1 dL_law_558 rfl (lv_at hl 0 rfl) ?_
    refine lv_iconst (v := 1) (pc := 559) C0.1 C0.2.1 dL_law_559 (by decide) ?_
    refine lv_iadd (pc := 560) C0.1 C0.2.1 dL_law_560 ?_
    refine va_sld (pc := 561) C0.1 C0.2.1 hX hbl hbA hw.2.2 hin1 dL_law_561 ?_
    refine lv_aload_n (pc := 562) C0.1 C0.2.1 dL_law_562 rfl (lv_at hl 3 rfl) ?_
    refine lv_iload_n (pc := 563) C0.1 C0.2.1 dL_law_563 rfl (lv_at hl 0 rfl) ?_
    refine lv_iconst (v := 2) (pc := 564) C0.1 C0.2.1 dL_law_564 (by decide) ?_
    refine lv_iadd (pc := 565) C0.1 C0.2.1 dL_law_565 ?_
    refine va_sld (pc := 566) C0.1 C0.2.1 hX hbl hbA hw.2.2 hin2 dL_law_566 ?_
    refine lv_aload_n (pc := 567) C0.1 C0.2.1 dL_law_567 rfl (lv_at hl 3 rfl) ?_
    refine lv_iload_n (pc := 568) C0.1 C0.2.1 dL_law_568 rfl (lv_at hl 0 rfl) ?_
    refine lv_iconst (v := 3) (pc := 569) C0.1 C0.2.1 dL_law_569 (by decide) ?_
    refine lv_iadd (pc := 570) C0.1 C0.2.1 dL_law_570 ?_
    refine va_sld (pc := 571) C0.1 C0.2.1 hX hbl hbA hw.2.2 hin3 dL_law_571 ?_
    refine lv_if_eq (tgt := 579) (pc := 572) C0.1 C0.2.1 dL_law_572 (by decide) (fun hc2 => absurd hc2 hc) (fun _ => ?_)
    refine lv_iconst (v := 1) (pc := 575) C0.1 C0.2.1 dL_law_575 (by decide) ?_
    refine lv_goto (tgt := 580) (pc := 576) C0.1 C0.2.1 dL_law_576 (by decide) ?_
    refine z_backM (pc := 580) (o := (r, w)) hZ hw (z_run (pc := 580) (As := [.int (xs (x3 + 1).toNatClampNeg), .int (xs (x3 + 2).toNatClampNeg), .int 1]) (rest := [.int r]) C0 hK hw.2.1 hl.1 ⟨Nat.le_of_ble_eq_true rfl, Nat.le_of_ble_eq_true rfl⟩ (kX7_seen l D y am hZ.2.1 (xs (x3 + 1).toNatClampNeg) (xs (x3 + 2).toNatClampNeg) 1 w h2) (by decide) ly_m0 rfl rfl wc_X7_seen wm_L_75 wi_X7_seen ws_X7_seen wn_X7 ⟨rfl, rfl⟩ hd_X7_seen rfl ⟨Nat.le_of_ble_eq_true rfl, Nat.le_of_ble_eq_true rfl⟩ (Nat.le_of_ble_eq_true rfl) dL_law_580) (fun H locs hw => ?_)
    have hw : ZH D y ad am u w s H locs := hw
    refine lv_icmp_eq (tgt := 805) (pc := 583) C0.1 C0.2.1 dL_law_583 (by decide) (fun _ => ?_) (fun hc => absurd rfl hc)
    exact kk _ _ H locs hR' hw
def Sim_place (Rl : S → S → Prop) : Prop := ∀ (u w : S) (a0 a1 : Int32), Rl u w → ∃ (r : Int32) (u' : S) (w' : S), fX6_place a0 a1 u = some (r, u') ∧ fX7_place a0 a1 w = some (r, w') ∧ Rl u' w'
set_option maxRecDepth 100000 in
set_option maxHeartbeats 4000000 in
theorem law_c14 {Rl : S → S → Prop} {p : Program} {l : Launch} {e : Env} {s : State} {m : MethodId} {args : Array Value} {below : List Frame} {meth : Method} {c : Code} {Q : State → Prop} {D : va_G} {y : Nat → ClassId} {ad am : Nat → Nat} {b L i : Nat} {xs : Nat → Int32} (hsim : Sim_place Rl) (hL : L ≤ 2560) (C0 : CallFix p m c code 4 s args lwT RL) (hK : XK D y s) (hZ : ZC ad am s) (hX : va_X b L xs s s.heap) (hbl : b < s.heap.size) {H : Heap} {locs : List Loc} {ls : Array Slot} {u w : S} {x3 : Int32} (ex : x3 = nI i) (hi : i + 5 ≤ L) (hR : Rl u w) (hw : ZH D y ad am u w s H locs) (hl : lv_has ls 4 [(3, .int x3), (2, .ref (am 0)), (1, .ref (ad 167)), (0, .ref b)]) (kk : ∀ (u' w' : S) (H : Heap) (locs : List Loc), Rl u' w' → ZH D y ad am u' w' s H locs → W p l e room_1 s m args below meth c H locs 600000 7302250 Q (F0 m 805 ls [])) : W p l e room_1 s m args below meth c H locs 600000 7302250 Q (F0 m 588 ls []) := by
  have hbA : ¬ (fun q : Nat => s.heap.size ≤ q) b := Nat.not_le.mpr hbl
  have hin1 : vp_in (x3 + 1) L := law_in hL 1 ex (by omega) (by decide)
  have hin2 : vp_in (x3 + 2) L := law_in hL 2 ex (by omega) (by decide)
  refine lv_aload_n (pc := 588) C0.1 C0.2.1 dL_law_588 rfl (lv_at hl 2 rfl) ?_
  refine lv_aload_n (pc := 589) C0.1 C0.2.1 dL_law_589 rfl (lv_at hl 3 rfl) ?_
  refine lv_iload_n (pc := 590) C0.1 C0.2.1 dL_law_590 rfl (lv_at hl 0 rfl) ?_
  refine lv_iconst (v := 1) (pc := 591) C0.1 C0.2.1 dL_law_591 (by decide) ?_
  refine lv_iadd (pc := 592) C0.1 C0.2.1 dL_law_592 ?_
  refine va_sld (pc := 593) C0.1 C0.2.1 hX hbl hbA hw.2.2 hin1 dL_law_593 ?_
  refine lv_aload_n (pc := 594) C0.1 C0.2.1 dL_law_594 rfl (lv_at hl 3 rfl) ?_
  refine lv_iload_n (pc := 595) C0.1 C0.2.1 dL_law_595 rfl (lv_at hl 0 rfl) ?_
  refine lv_iconst (v := 2) (pc := 596) C0.1 C0.2.1 dL_law_596 (by decide) ?_
  refine lv_iadd (pc := 597) C0.1 C0.2.1 dL_law_597 ?_
  refine va_sld (pc := 598) C0.1 C0.2.1 hX hbl hbA hw.2.2 hin2 dL_law_598 ?_
  obtain ⟨r, u', w', h1, h2, hR'⟩ := hsim u w (xs (x3 + 1).toNatClampNeg) (xs (x3 + 2).toNatClampNeg) hR
  refine z_backX (pc := 599) (o := (r, u')) hZ hw (z_run (pc := 599) (As := [.int (xs (x3 + 1).toNatClampNeg), .int (xs (x3 + 2).toNatClampNeg)]) (rest := []) C0 hK hw.1 hl.1 ⟨Nat.le_of_ble_eq_true rfl, Nat.le_of_ble_eq_true rfl⟩ (kX6_place l D y ad hZ.1 (xs (x3 + 1).toNatClampNeg) (xs (x3 + 2).toNatClampNeg) u h1) (by decide) ly_M rfl rfl wc_X6_place wm_L_76 wi_X6_place ws_X6_place wn_X6 ⟨rfl, rfl⟩ hd_X6_place rfl ⟨Nat.le_of_ble_eq_true rfl, Nat.le_of_ble_eq_true rfl⟩ (Nat.le_of_ble_eq_true rfl) dL_law_599) (fun H locs hw => ?_)
  have hw : ZH D y ad am u' w s H locs := hw
  refine lv_aload_n (pc := 602) C0.1 C0.2.1 dL_law_602 rfl (lv_at hl 1 rfl) ?_
  refine lv_aload_n (pc := 603) C0.1 C0.2.1 dL_law_603 rfl (lv_at hl 3 rfl) ?_
  refine lv_iload_n (pc := 604) C0.1 C0.2.1 dL_law_604 rfl (lv_at hl 0 rfl) ?_
  refine lv_iconst (v := 1) (pc := 605) C0.1 C0.2.1 dL_law_605 (by decide) ?_
  refine lv_iadd (pc := 606) C0.1 C0.2.1 dL_law_606 ?_
  refine va_sld (pc := 607) C0.1 C0.2.1 hX hbl hbA hw.2.2 hin1 dL_law_607 ?_
  refine lv_aload_n (pc := 608) C0.1 C0.2.1 dL_law_608 rfl (lv_at hl 3 rfl) ?_
  refine lv_iload_n (pc := 609) C0.1 C0.2.1 dL_law_609 rfl (lv_at hl 0 rfl) ?_
  refine lv_iconst (v := 2) (pc := 610) C0.1 C0.2.1 dL_law_610 (by decide) ?_
  refine lv_iadd (pc := 611) C0.1 C0.2.1 dL_law_611 ?_
  refine va_sld (pc := 612) C0.1 C0.2.1 hX hbl hbA hw.2.2 hin2 dL_law_612 ?_
  refine z_backM (pc := 613) (o := (r, w')) hZ hw (z_run (pc := 613) (As := [.int (xs (x3 + 1).toNatClampNeg), .int (xs (x3 + 2).toNatClampNeg)]) (rest := [.int r]) C0 hK hw.2.1 hl.1 ⟨Nat.le_of_ble_eq_true rfl, Nat.le_of_ble_eq_true rfl⟩ (kX7_place l D y am hZ.2.1 (xs (x3 + 1).toNatClampNeg) (xs (x3 + 2).toNatClampNeg) w h2) (by decide) ly_m0 rfl rfl wc_X7_place wm_L_79 wi_X7_place ws_X7_place wn_X7 ⟨rfl, rfl⟩ hd_X7_place rfl ⟨Nat.le_of_ble_eq_true rfl, Nat.le_of_ble_eq_true rfl⟩ (Nat.le_of_ble_eq_true rfl) dL_law_613) (fun H locs hw => ?_)
  have hw : ZH D y ad am u' w' s H locs := hw
  refine lv_icmp_eq (tgt := 805) (pc := 616) C0.1 C0.2.1 dL_law_616 (by decide) (fun _ => ?_) (fun hc => absurd rfl hc)
  exact kk _ _ H locs hR' hw
def Sim_places (Rl : S → S → Prop) : Prop := ∀ (u w : S) (a0 : Int32), Rl u w → ∃ (r : Int32) (u' : S) (w' : S), fX6_places a0 u = some (r, u') ∧ fX7_places a0 w = some (r, w') ∧ Rl u' w'
set_option maxRecDepth 100000 in
set_option maxHeartbeats 4000000 in
theorem law_c15 {Rl : S → S → Prop} {p : Program} {l : Launch} {e : Env} {s : State} {m : MethodId} {args : Array Value} {below : List Frame} {meth : Method} {c : Code} {Q : State → Prop} {D : va_G} {y : Nat → ClassId} {ad am : Nat → Nat} {b L i : Nat} {xs : Nat → Int32} (hsim : Sim_places Rl) (hL : L ≤ 2560) (C0 : CallFix p m c code 4 s args lwT RL) (hK : XK D y s) (hZ : ZC ad am s) (hX : va_X b L xs s s.heap) (hbl : b < s.heap.size) {H : Heap} {locs : List Loc} {ls : Array Slot} {u w : S} {x3 : Int32} (ex : x3 = nI i) (hi : i + 5 ≤ L) (hR : Rl u w) (hw : ZH D y ad am u w s H locs) (hl : lv_has ls 4 [(3, .int x3), (2, .ref (am 0)), (1, .ref (ad 167)), (0, .ref b)]) (kk : ∀ (u' w' : S) (H : Heap) (locs : List Loc), Rl u' w' → ZH D y ad am u' w' s H locs → W p l e room_1 s m args below meth c H locs 600000 7302250 Q (F0 m 805 ls [])) : W p l e room_1 s m args below meth c H locs 600000 7302250 Q (F0 m 621 ls []) := by
  have hbA : ¬ (fun q : Nat => s.heap.size ≤ q) b := Nat.not_le.mpr hbl
  have hin1 : vp_in (x3 + 1) L := law_in hL 1 ex (by omega) (by decide)
  refine lv_aload_n (pc := 621) C0.1 C0.2.1 dL_law_621 rfl (lv_at hl 2 rfl) ?_
  refine lv_aload_n (pc := 622) C0.1 C0.2.1 dL_law_622 rfl (lv_at hl 3 rfl) ?_
  refine lv_iload_n (pc := 623) C0.1 C0.2.1 dL_law_623 rfl (lv_at hl 0 rfl) ?_
  refine lv_iconst (v := 1) (pc := 624) C0.1 C0.2.1 dL_law_624 (by decide) ?_
  refine lv_iadd (pc := 625) C0.1 C0.2.1 dL_law_625 ?_
  refine va_sld (pc := 626) C0.1 C0.2.1 hX hbl hbA hw.2.2 hin1 dL_law_626 ?_
  obtain ⟨r, u', w', h1, h2, hR'⟩ := hsim u w (xs (x3 + 1).toNatClampNeg) hR
  refine z_backX (pc := 627) (o := (r, u')) hZ hw (z_run (pc := 627) (As := [.int (xs (x3 + 1).toNatClampNeg)]) (rest := []) C0 hK hw.1 hl.1 ⟨Nat.le_of_ble_eq_true rfl, Nat.le_of_ble_eq_true rfl⟩ (kX6_places l D y ad hZ.1 (xs (x3 + 1).toNatClampNeg) u h1) (by decide) ly_M rfl rfl wc_X6_places wm_L_80 wi_X6_places ws_X6_places wn_X6 ⟨rfl, rfl⟩ hd_X6_places rfl ⟨Nat.le_of_ble_eq_true rfl, Nat.le_of_ble_eq_true rfl⟩ (Nat.le_of_ble_eq_true rfl) dL_law_627) (fun H locs hw => ?_)
  have hw : ZH D y ad am u' w s H locs := hw
  refine lv_aload_n (pc := 630) C0.1 C0.2.1 dL_law_630 rfl (lv_at hl 1 rfl) ?_
  refine lv_aload_n (pc := 631) C0.1 C0.2.1 dL_law_631 rfl (lv_at hl 3 rfl) ?_
  refine lv_iload_n (pc := 632) C0.1 C0.2.1 dL_law_632 rfl (lv_at hl 0 rfl) ?_
  refine lv_iconst (v := 1) (pc := 633) C0.1 C0.2.1 dL_law_633 (by decide) ?_
  refine lv_iadd (pc := 634) C0.1 C0.2.1 dL_law_634 ?_
  refine va_sld (pc := 635) C0.1 C0.2.1 hX hbl hbA hw.2.2 hin1 dL_law_635 ?_
  refine z_backM (pc := 636) (o := (r, w')) hZ hw (z_run (pc := 636) (As := [.int (xs (x3 + 1).toNatClampNeg)]) (rest := [.int r]) C0 hK hw.2.1 hl.1 ⟨Nat.le_of_ble_eq_true rfl, Nat.le_of_ble_eq_true rfl⟩ (kX7_places l D y am hZ.2.1 (xs (x3 + 1).toNatClampNeg) w h2) (by decide) ly_m0 rfl rfl wc_X7_places wm_L_83 wi_X7_places ws_X7_places wn_X7 ⟨rfl, rfl⟩ hd_X7_places rfl ⟨Nat.le_of_ble_eq_true rfl, Nat.le_of_ble_eq_true rfl⟩ (Nat.le_of_ble_eq_true rfl) dL_law_636) (fun H locs hw => ?_)
  have hw : ZH D y ad am u' w' s H locs := hw
  refine lv_icmp_eq (tgt := 805) (pc := 639) C0.1 C0.2.1 dL_law_639 (by decide) (fun _ => ?_) (fun hc => absurd rfl hc)
  exact kk _ _ H locs hR' hw
def Sim_pack (Rl : S → S → Prop) : Prop := ∀ (u w : S), Rl u w → ∃ (r : Int32) (u' : S) (w' : S), fX6_pack u = some (r, u') ∧ fX7_pack w = some (r, w') ∧ Rl u' w'
set_option maxRecDepth 100000 in
set_option maxHeartbeats 4000000 in
theorem law_c16 {Rl : S → S → Prop} {p : Program} {l : Launch} {e : Env} {s : State} {m : MethodId} {args : Array Value} {below : List Frame} {meth : Method} {c : Code} {Q : State → Prop} {D : va_G} {y : Nat → ClassId} {ad am : Nat → Nat} {b L i : Nat} {xs : Nat → Int32} (hsim : Sim_pack Rl) (hL : L ≤ 2560) (C0 : CallFix p m c code 4 s args lwT RL) (hK : XK D y s) (hZ : ZC ad am s) (hX : va_X b L xs s s.heap) (hbl : b < s.heap.size) {H : Heap} {locs : List Loc} {ls : Array Slot} {u w : S} {x3 : Int32} (ex : x3 = nI i) (hi : i + 5 ≤ L) (hR : Rl u w) (hw : ZH D y ad am u w s H locs) (hl : lv_has ls 4 [(3, .int x3), (2, .ref (am 0)), (1, .ref (ad 167)), (0, .ref b)]) (kk : ∀ (u' w' : S) (H : Heap) (locs : List Loc), Rl u' w' → ZH D y ad am u' w' s H locs → W p l e room_1 s m args below meth c H locs 600000 7302250 Q (F0 m 805 ls [])) : W p l e room_1 s m args below meth c H locs 600000 7302250 Q (F0 m 644 ls []) := by
  have hbA : ¬ (fun q : Nat => s.heap.size ≤ q) b := Nat.not_le.mpr hbl
  refine lv_aload_n (pc := 644) C0.1 C0.2.1 dL_law_644 rfl (lv_at hl 2 rfl) ?_
  obtain ⟨r, u', w', h1, h2, hR'⟩ := hsim u w  hR
  refine z_backX (pc := 645) (o := (r, u')) hZ hw (z_run (pc := 645) (As := []) (rest := []) C0 hK hw.1 hl.1 ⟨Nat.le_of_ble_eq_true rfl, Nat.le_of_ble_eq_true rfl⟩ (kX6_pack l D y ad hZ.1  u h1) (by decide) ly_M rfl rfl wc_X6_pack wm_L_84 wi_X6_pack ws_X6_pack wn_X6 ⟨rfl, rfl⟩ hd_X6_pack rfl ⟨Nat.le_of_ble_eq_true rfl, Nat.le_of_ble_eq_true rfl⟩ (Nat.le_of_ble_eq_true rfl) dL_law_645) (fun H locs hw => ?_)
  have hw : ZH D y ad am u' w s H locs := hw
  refine lv_aload_n (pc := 648) C0.1 C0.2.1 dL_law_648 rfl (lv_at hl 1 rfl) ?_
  refine z_backM (pc := 649) (o := (r, w')) hZ hw (z_run (pc := 649) (As := []) (rest := [.int r]) C0 hK hw.2.1 hl.1 ⟨Nat.le_of_ble_eq_true rfl, Nat.le_of_ble_eq_true rfl⟩ (kX7_pack l D y am hZ.2.1  w h2) (by decide) ly_m0 rfl rfl wc_X7_pack wm_L_87 wi_X7_pack ws_X7_pack wn_X7 ⟨rfl, rfl⟩ hd_X7_pack rfl ⟨Nat.le_of_ble_eq_true rfl, Nat.le_of_ble_eq_true rfl⟩ (Nat.le_of_ble_eq_true rfl) dL_law_649) (fun H locs hw => ?_)
  have hw : ZH D y ad am u' w' s H locs := hw
  refine lv_icmp_eq (tgt := 805) (pc := 652) C0.1 C0.2.1 dL_law_652 (by decide) (fun _ => ?_) (fun hc => absurd rfl hc)
  exact kk _ _ H locs hR' hw
def Sim_packBest (Rl : S → S → Prop) : Prop := ∀ (u w : S), Rl u w → ∃ (r : Int32) (u' : S) (w' : S), fX6_packBest u = some (r, u') ∧ fX7_packBest w = some (r, w') ∧ Rl u' w'
set_option maxRecDepth 100000 in
set_option maxHeartbeats 4000000 in
theorem law_c17 {Rl : S → S → Prop} {p : Program} {l : Launch} {e : Env} {s : State} {m : MethodId} {args : Array Value} {below : List Frame} {meth : Method} {c : Code} {Q : State → Prop} {D : va_G} {y : Nat → ClassId} {ad am : Nat → Nat} {b L i : Nat} {xs : Nat → Int32} (hsim : Sim_packBest Rl) (hL : L ≤ 2560) (C0 : CallFix p m c code 4 s args lwT RL) (hK : XK D y s) (hZ : ZC ad am s) (hX : va_X b L xs s s.heap) (hbl : b < s.heap.size) {H : Heap} {locs : List Loc} {ls : Array Slot} {u w : S} {x3 : Int32} (ex : x3 = nI i) (hi : i + 5 ≤ L) (hR : Rl u w) (hw : ZH D y ad am u w s H locs) (hl : lv_has ls 4 [(3, .int x3), (2, .ref (am 0)), (1, .ref (ad 167)), (0, .ref b)]) (kk : ∀ (u' w' : S) (H : Heap) (locs : List Loc), Rl u' w' → ZH D y ad am u' w' s H locs → W p l e room_1 s m args below meth c H locs 600000 7302250 Q (F0 m 805 ls [])) : W p l e room_1 s m args below meth c H locs 600000 7302250 Q (F0 m 657 ls []) := by
  have hbA : ¬ (fun q : Nat => s.heap.size ≤ q) b := Nat.not_le.mpr hbl
  refine lv_aload_n (pc := 657) C0.1 C0.2.1 dL_law_657 rfl (lv_at hl 2 rfl) ?_
  obtain ⟨r, u', w', h1, h2, hR'⟩ := hsim u w  hR
  refine z_backX (pc := 658) (o := (r, u')) hZ hw (z_run (pc := 658) (As := []) (rest := []) C0 hK hw.1 hl.1 ⟨Nat.le_of_ble_eq_true rfl, Nat.le_of_ble_eq_true rfl⟩ (kX6_packBest l D y ad hZ.1  u h1) (by decide) ly_M rfl rfl wc_X6_packBest wm_L_88 wi_X6_packBest ws_X6_packBest wn_X6 ⟨rfl, rfl⟩ hd_X6_packBest rfl ⟨Nat.le_of_ble_eq_true rfl, Nat.le_of_ble_eq_true rfl⟩ (Nat.le_of_ble_eq_true rfl) dL_law_658) (fun H locs hw => ?_)
  have hw : ZH D y ad am u' w s H locs := hw
  refine lv_aload_n (pc := 661) C0.1 C0.2.1 dL_law_661 rfl (lv_at hl 1 rfl) ?_
  refine z_backM (pc := 662) (o := (r, w')) hZ hw (z_run (pc := 662) (As := []) (rest := [.int r]) C0 hK hw.2.1 hl.1 ⟨Nat.le_of_ble_eq_true rfl, Nat.le_of_ble_eq_true rfl⟩ (kX7_packBest l D y am hZ.2.1  w h2) (by decide) ly_m0 rfl rfl wc_X7_packBest wm_L_91 wi_X7_packBest ws_X7_packBest wn_X7 ⟨rfl, rfl⟩ hd_X7_packBest rfl ⟨Nat.le_of_ble_eq_true rfl, Nat.le_of_ble_eq_true rfl⟩ (Nat.le_of_ble_eq_true rfl) dL_law_662) (fun H locs hw => ?_)
  have hw : ZH D y ad am u' w' s H locs := hw
  refine lv_icmp_eq (tgt := 805) (pc := 665) C0.1 C0.2.1 dL_law_665 (by decide) (fun _ => ?_) (fun hc => absurd rfl hc)
  exact kk _ _ H locs hR' hw
def Sim_ifPacked (Rl : S → S → Prop) : Prop := ∀ (u w : S) (a0 a1 : Int32), Rl u w → (a0 = 0 ∨ a0 = 1) → ∃ (r : Int32) (u' : S) (w' : S), fX6_ifPacked a0 a1 u = some (r, u') ∧ fX7_ifPacked a0 a1 w = some (r, w') ∧ Rl u' w'
set_option maxRecDepth 100000 in
set_option maxHeartbeats 4000000 in
theorem law_c18 {Rl : S → S → Prop} {p : Program} {l : Launch} {e : Env} {s : State} {m : MethodId} {args : Array Value} {below : List Frame} {meth : Method} {c : Code} {Q : State → Prop} {D : va_G} {y : Nat → ClassId} {ad am : Nat → Nat} {b L i : Nat} {xs : Nat → Int32} (hsim : Sim_ifPacked Rl) (hL : L ≤ 2560) (C0 : CallFix p m c code 4 s args lwT RL) (hK : XK D y s) (hZ : ZC ad am s) (hX : va_X b L xs s s.heap) (hbl : b < s.heap.size) {H : Heap} {locs : List Loc} {ls : Array Slot} {u w : S} {x3 : Int32} (ex : x3 = nI i) (hi : i + 5 ≤ L) (hR : Rl u w) (hw : ZH D y ad am u w s H locs) (hl : lv_has ls 4 [(3, .int x3), (2, .ref (am 0)), (1, .ref (ad 167)), (0, .ref b)]) (kk : ∀ (u' w' : S) (H : Heap) (locs : List Loc), Rl u' w' → ZH D y ad am u' w' s H locs → W p l e room_1 s m args below meth c H locs 600000 7302250 Q (F0 m 805 ls [])) : W p l e room_1 s m args below meth c H locs 600000 7302250 Q (F0 m 670 ls []) := by
  have hbA : ¬ (fun q : Nat => s.heap.size ≤ q) b := Nat.not_le.mpr hbl
  have hin1 : vp_in (x3 + 1) L := law_in hL 1 ex (by omega) (by decide)
  have hin2 : vp_in (x3 + 2) L := law_in hL 2 ex (by omega) (by decide)
  refine lv_aload_n (pc := 670) C0.1 C0.2.1 dL_law_670 rfl (lv_at hl 2 rfl) ?_
  refine lv_aload_n (pc := 671) C0.1 C0.2.1 dL_law_671 rfl (lv_at hl 3 rfl) ?_
  refine lv_iload_n (pc := 672) C0.1 C0.2.1 dL_law_672 rfl (lv_at hl 0 rfl) ?_
  refine lv_iconst (v := 1) (pc := 673) C0.1 C0.2.1 dL_law_673 (by decide) ?_
  refine lv_iadd (pc := 674) C0.1 C0.2.1 dL_law_674 ?_
  refine va_sld (pc := 675) C0.1 C0.2.1 hX hbl hbA hw.2.2 hin1 dL_law_675 ?_
  refine lv_if_eq (tgt := 683) (pc := 676) C0.1 C0.2.1 dL_law_676 (by decide) (fun hc => ?_) (fun hc => ?_)
  · skip
    refine lv_iconst (v := 0) (pc := 683) C0.1 C0.2.1 dL_law_683 (by decide) ?_
    refine lv_aload_n (pc := 684) C0.1 C0.2.1 dL_law_684 rfl (lv_at hl 3 rfl) ?_
    refine lv_iload_n (pc := 685) C0.1 C0.2.1 dL_law_685 rfl (lv_at hl 0 rfl) ?_
    refine lv_iconst (v := 2) (pc := 686) C0.1 C0.2.1 dL_law_686 (by decide) ?_
    refine lv_iadd (pc := 687) C0.1 C0.2.1 dL_law_687 ?_
    refine va_sld (pc := 688) C0.1 C0.2.1 hX hbl hbA hw.2.2 hin2 dL_law_688 ?_
    obtain ⟨r, u', w', h1, h2, hR'⟩ := hsim u w 0 (xs (x3 + 2).toNatClampNeg) hR (Or.inl rfl)
    refine z_backX (pc := 689) (o := (r, u')) hZ hw (z_run (pc := 689) (As := [.int 0, .int (xs (x3 + 2).toNatClampNeg)]) (rest := []) C0 hK hw.1 hl.1 ⟨Nat.le_of_ble_eq_true rfl, Nat.le_of_ble_eq_true rfl⟩ (kX6_ifPacked l D y ad hZ.1 0 (xs (x3 + 2).toNatClampNeg) u h1) (by decide) ly_M rfl rfl wc_X6_ifPacked wm_L_92 wi_X6_ifPacked ws_X6_ifPacked wn_X6 ⟨rfl, rfl⟩ hd_X6_ifPacked rfl ⟨Nat.le_of_ble_eq_true rfl, Nat.le_of_ble_eq_true rfl⟩ (Nat.le_of_ble_eq_true rfl) dL_law_689) (fun H locs hw => ?_)
    have hw : ZH D y ad am u' w s H locs := hw
    refine lv_aload_n (pc := 692) C0.1 C0.2.1 dL_law_692 rfl (lv_at hl 1 rfl) ?_
    refine lv_aload_n (pc := 693) C0.1 C0.2.1 dL_law_693 rfl (lv_at hl 3 rfl) ?_
    refine lv_iload_n (pc := 694) C0.1 C0.2.1 dL_law_694 rfl (lv_at hl 0 rfl) ?_
    refine lv_iconst (v := 1) (pc := 695) C0.1 C0.2.1 dL_law_695 (by decide) ?_
    refine lv_iadd (pc := 696) C0.1 C0.2.1 dL_law_696 ?_
    refine va_sld (pc := 697) C0.1 C0.2.1 hX hbl hbA hw.2.2 hin1 dL_law_697 ?_
    refine lv_if_eq (tgt := 705) (pc := 698) C0.1 C0.2.1 dL_law_698 (by decide) (fun _ => ?_) (fun hc2 => absurd hc hc2)
    refine lv_iconst (v := 0) (pc := 705) C0.1 C0.2.1 dL_law_705 (by decide) ?_
    refine lv_aload_n (pc := 706) C0.1 C0.2.1 dL_law_706 rfl (lv_at hl 3 rfl) ?_
    refine lv_iload_n (pc := 707) C0.1 C0.2.1 dL_law_707 rfl (lv_at hl 0 rfl) ?_
    refine lv_iconst (v := 2) (pc := 708) C0.1 C0.2.1 dL_law_708 (by decide) ?_
    refine lv_iadd (pc := 709) C0.1 C0.2.1 dL_law_709 ?_
    refine va_sld (pc := 710) C0.1 C0.2.1 hX hbl hbA hw.2.2 hin2 dL_law_710 ?_
    refine z_backM (pc := 711) (o := (r, w')) hZ hw (z_run (pc := 711) (As := [.int 0, .int (xs (x3 + 2).toNatClampNeg)]) (rest := [.int r]) C0 hK hw.2.1 hl.1 ⟨Nat.le_of_ble_eq_true rfl, Nat.le_of_ble_eq_true rfl⟩ (kX7_ifPacked l D y am hZ.2.1 0 (xs (x3 + 2).toNatClampNeg) w h2) (by decide) ly_m0 rfl rfl wc_X7_ifPacked wm_L_96 wi_X7_ifPacked ws_X7_ifPacked wn_X7 ⟨rfl, rfl⟩ hd_X7_ifPacked rfl ⟨Nat.le_of_ble_eq_true rfl, Nat.le_of_ble_eq_true rfl⟩ (Nat.le_of_ble_eq_true rfl) dL_law_711) (fun H locs hw => ?_)
    have hw : ZH D y ad am u' w' s H locs := hw
    refine lv_icmp_eq (tgt := 805) (pc := 714) C0.1 C0.2.1 dL_law_714 (by decide) (fun _ => ?_) (fun hc => absurd rfl hc)
    exact kk _ _ H locs hR' hw
  · skip
    refine lv_iconst (v := 1) (pc := 679) C0.1 C0.2.1 dL_law_679 (by decide) ?_
    refine lv_goto (tgt := 684) (pc := 680) C0.1 C0.2.1 dL_law_680 (by decide) ?_
    refine lv_aload_n (pc := 684) C0.1 C0.2.1 dL_law_684 rfl (lv_at hl 3 rfl) ?_
    refine lv_iload_n (pc := 685) C0.1 C0.2.1 dL_law_685 rfl (lv_at hl 0 rfl) ?_
    refine lv_iconst (v := 2) (pc := 686) C0.1 C0.2.1 dL_law_686 (by decide) ?_
    refine lv_iadd (pc := 687) C0.1 C0.2.1 dL_law_687 ?_
    refine va_sld (pc := 688) C0.1 C0.2.1 hX hbl hbA hw.2.2 hin2 dL_law_688 ?_
    obtain ⟨r, u', w', h1, h2, hR'⟩ := hsim u w 1 (xs (x3 + 2).toNatClampNeg) hR (Or.inr rfl)
    refine z_backX (pc := 689) (o := (r, u')) hZ hw (z_run (pc := 689) (As := [.int 1, .int (xs (x3 + 2).toNatClampNeg)]) (rest := []) C0 hK hw.1 hl.1 ⟨Nat.le_of_ble_eq_true rfl, Nat.le_of_ble_eq_true rfl⟩ (kX6_ifPacked l D y ad hZ.1 1 (xs (x3 + 2).toNatClampNeg) u h1) (by decide) ly_M rfl rfl wc_X6_ifPacked wm_L_92 wi_X6_ifPacked ws_X6_ifPacked wn_X6 ⟨rfl, rfl⟩ hd_X6_ifPacked rfl ⟨Nat.le_of_ble_eq_true rfl, Nat.le_of_ble_eq_true rfl⟩ (Nat.le_of_ble_eq_true rfl) dL_law_689) (fun H locs hw => ?_)
    have hw : ZH D y ad am u' w s H locs := hw
    refine lv_aload_n (pc := 692) C0.1 C0.2.1 dL_law_692 rfl (lv_at hl 1 rfl) ?_
    refine lv_aload_n (pc := 693) C0.1 C0.2.1 dL_law_693 rfl (lv_at hl 3 rfl) ?_
    refine lv_iload_n (pc := 694) C0.1 C0.2.1 dL_law_694 rfl (lv_at hl 0 rfl) ?_
    refine lv_iconst (v := 1) (pc := 695) C0.1 C0.2.1 dL_law_695 (by decide) ?_
    refine lv_iadd (pc := 696) C0.1 C0.2.1 dL_law_696 ?_
    refine va_sld (pc := 697) C0.1 C0.2.1 hX hbl hbA hw.2.2 hin1 dL_law_697 ?_
    refine lv_if_eq (tgt := 705) (pc := 698) C0.1 C0.2.1 dL_law_698 (by decide) (fun hc2 => absurd hc2 hc) (fun _ => ?_)
    refine lv_iconst (v := 1) (pc := 701) C0.1 C0.2.1 dL_law_701 (by decide) ?_
    refine lv_goto (tgt := 706) (pc := 702) C0.1 C0.2.1 dL_law_702 (by decide) ?_
    refine lv_aload_n (pc := 706) C0.1 C0.2.1 dL_law_706 rfl (lv_at hl 3 rfl) ?_
    refine lv_iload_n (pc := 707) C0.1 C0.2.1 dL_law_707 rfl (lv_at hl 0 rfl) ?_
    refine lv_iconst (v := 2) (pc := 708) C0.1 C0.2.1 dL_law_708 (by decide) ?_
    refine lv_iadd (pc := 709) C0.1 C0.2.1 dL_law_709 ?_
    refine va_sld (pc := 710) C0.1 C0.2.1 hX hbl hbA hw.2.2 hin2 dL_law_710 ?_
    refine z_backM (pc := 711) (o := (r, w')) hZ hw (z_run (pc := 711) (As := [.int 1, .int (xs (x3 + 2).toNatClampNeg)]) (rest := [.int r]) C0 hK hw.2.1 hl.1 ⟨Nat.le_of_ble_eq_true rfl, Nat.le_of_ble_eq_true rfl⟩ (kX7_ifPacked l D y am hZ.2.1 1 (xs (x3 + 2).toNatClampNeg) w h2) (by decide) ly_m0 rfl rfl wc_X7_ifPacked wm_L_96 wi_X7_ifPacked ws_X7_ifPacked wn_X7 ⟨rfl, rfl⟩ hd_X7_ifPacked rfl ⟨Nat.le_of_ble_eq_true rfl, Nat.le_of_ble_eq_true rfl⟩ (Nat.le_of_ble_eq_true rfl) dL_law_711) (fun H locs hw => ?_)
    have hw : ZH D y ad am u' w' s H locs := hw
    refine lv_icmp_eq (tgt := 805) (pc := 714) C0.1 C0.2.1 dL_law_714 (by decide) (fun _ => ?_) (fun hc => absurd rfl hc)
    exact kk _ _ H locs hR' hw
def Sim_play (Rl : S → S → Prop) : Prop := ∀ (u w : S), Rl u w → ∃ (r : Int32) (u' : S) (w' : S), fX6_play u = some (r, u') ∧ fX7_play w = some (r, w') ∧ Rl u' w'
set_option maxRecDepth 100000 in
set_option maxHeartbeats 4000000 in
theorem law_c19 {Rl : S → S → Prop} {p : Program} {l : Launch} {e : Env} {s : State} {m : MethodId} {args : Array Value} {below : List Frame} {meth : Method} {c : Code} {Q : State → Prop} {D : va_G} {y : Nat → ClassId} {ad am : Nat → Nat} {b L i : Nat} {xs : Nat → Int32} (hsim : Sim_play Rl) (hL : L ≤ 2560) (C0 : CallFix p m c code 4 s args lwT RL) (hK : XK D y s) (hZ : ZC ad am s) (hX : va_X b L xs s s.heap) (hbl : b < s.heap.size) {H : Heap} {locs : List Loc} {ls : Array Slot} {u w : S} {x3 : Int32} (ex : x3 = nI i) (hi : i + 5 ≤ L) (hR : Rl u w) (hw : ZH D y ad am u w s H locs) (hl : lv_has ls 4 [(3, .int x3), (2, .ref (am 0)), (1, .ref (ad 167)), (0, .ref b)]) (kk : ∀ (u' w' : S) (H : Heap) (locs : List Loc), Rl u' w' → ZH D y ad am u' w' s H locs → W p l e room_1 s m args below meth c H locs 600000 7302250 Q (F0 m 805 ls [])) : W p l e room_1 s m args below meth c H locs 600000 7302250 Q (F0 m 719 ls []) := by
  have hbA : ¬ (fun q : Nat => s.heap.size ≤ q) b := Nat.not_le.mpr hbl
  refine lv_aload_n (pc := 719) C0.1 C0.2.1 dL_law_719 rfl (lv_at hl 2 rfl) ?_
  obtain ⟨r, u', w', h1, h2, hR'⟩ := hsim u w  hR
  refine z_backX (pc := 720) (o := (r, u')) hZ hw (z_run (pc := 720) (As := []) (rest := []) C0 hK hw.1 hl.1 ⟨Nat.le_of_ble_eq_true rfl, Nat.le_of_ble_eq_true rfl⟩ (kX6_play l D y ad hZ.1  u h1) (by decide) ly_M rfl rfl wc_X6_play wm_L_97 wi_X6_play ws_X6_play wn_X6 ⟨rfl, rfl⟩ hd_X6_play rfl ⟨Nat.le_of_ble_eq_true rfl, Nat.le_of_ble_eq_true rfl⟩ (Nat.le_of_ble_eq_true rfl) dL_law_720) (fun H locs hw => ?_)
  have hw : ZH D y ad am u' w s H locs := hw
  refine lv_aload_n (pc := 723) C0.1 C0.2.1 dL_law_723 rfl (lv_at hl 1 rfl) ?_
  refine z_backM (pc := 724) (o := (r, w')) hZ hw (z_run (pc := 724) (As := []) (rest := [.int r]) C0 hK hw.2.1 hl.1 ⟨Nat.le_of_ble_eq_true rfl, Nat.le_of_ble_eq_true rfl⟩ (kX7_play l D y am hZ.2.1  w h2) (by decide) ly_m0 rfl rfl wc_X7_play wm_L_100 wi_X7_play ws_X7_play wn_X7 ⟨rfl, rfl⟩ hd_X7_play rfl ⟨Nat.le_of_ble_eq_true rfl, Nat.le_of_ble_eq_true rfl⟩ (Nat.le_of_ble_eq_true rfl) dL_law_724) (fun H locs hw => ?_)
  have hw : ZH D y ad am u' w' s H locs := hw
  refine lv_icmp_eq (tgt := 805) (pc := 727) C0.1 C0.2.1 dL_law_727 (by decide) (fun _ => ?_) (fun hc => absurd rfl hc)
  exact kk _ _ H locs hR' hw
def Sim_liftsTo (Rl : S → S → Prop) : Prop := ∀ (u w : S) (a0 : Int32), Rl u w → ∃ (r : Int32) (w' : S), fX6_liftsTo a0 u = some r ∧ fX7_liftsTo a0 w = some (r, w') ∧ Rl u w'
set_option maxRecDepth 100000 in
set_option maxHeartbeats 4000000 in
theorem law_c20 {Rl : S → S → Prop} {p : Program} {l : Launch} {e : Env} {s : State} {m : MethodId} {args : Array Value} {below : List Frame} {meth : Method} {c : Code} {Q : State → Prop} {D : va_G} {y : Nat → ClassId} {ad am : Nat → Nat} {b L i : Nat} {xs : Nat → Int32} (hsim : Sim_liftsTo Rl) (hL : L ≤ 2560) (C0 : CallFix p m c code 4 s args lwT RL) (hK : XK D y s) (hZ : ZC ad am s) (hX : va_X b L xs s s.heap) (hbl : b < s.heap.size) {H : Heap} {locs : List Loc} {ls : Array Slot} {u w : S} {x3 : Int32} (ex : x3 = nI i) (hi : i + 5 ≤ L) (hR : Rl u w) (hw : ZH D y ad am u w s H locs) (hl : lv_has ls 4 [(3, .int x3), (2, .ref (am 0)), (1, .ref (ad 167)), (0, .ref b)]) (kk : ∀ (u' w' : S) (H : Heap) (locs : List Loc), Rl u' w' → ZH D y ad am u' w' s H locs → W p l e room_1 s m args below meth c H locs 600000 7302250 Q (F0 m 805 ls [])) : W p l e room_1 s m args below meth c H locs 600000 7302250 Q (F0 m 732 ls []) := by
  have hbA : ¬ (fun q : Nat => s.heap.size ≤ q) b := Nat.not_le.mpr hbl
  have hin1 : vp_in (x3 + 1) L := law_in hL 1 ex (by omega) (by decide)
  refine lv_aload_n (pc := 732) C0.1 C0.2.1 dL_law_732 rfl (lv_at hl 2 rfl) ?_
  refine lv_aload_n (pc := 733) C0.1 C0.2.1 dL_law_733 rfl (lv_at hl 3 rfl) ?_
  refine lv_iload_n (pc := 734) C0.1 C0.2.1 dL_law_734 rfl (lv_at hl 0 rfl) ?_
  refine lv_iconst (v := 1) (pc := 735) C0.1 C0.2.1 dL_law_735 (by decide) ?_
  refine lv_iadd (pc := 736) C0.1 C0.2.1 dL_law_736 ?_
  refine va_sld (pc := 737) C0.1 C0.2.1 hX hbl hbA hw.2.2 hin1 dL_law_737 ?_
  obtain ⟨r, w', h1, h2, hR'⟩ := hsim u w (xs (x3 + 1).toNatClampNeg) hR
  refine z_backX (pc := 738) (o := (r, u)) hZ hw (z_run (pc := 738) (As := [.int (xs (x3 + 1).toNatClampNeg)]) (rest := []) C0 hK hw.1 hl.1 ⟨Nat.le_of_ble_eq_true rfl, Nat.le_of_ble_eq_true rfl⟩ (kX6_liftsTo l D y ad hZ.1 (xs (x3 + 1).toNatClampNeg) u h1) (by decide) ly_M rfl rfl wc_X6_liftsTo wm_L_101 wi_X6_liftsTo ws_X6_liftsTo wn_X6 ⟨rfl, rfl⟩ hd_X6_liftsTo rfl ⟨Nat.le_of_ble_eq_true rfl, Nat.le_of_ble_eq_true rfl⟩ (Nat.le_of_ble_eq_true rfl) dL_law_738) (fun H locs hw => ?_)
  have hw : ZH D y ad am u w s H locs := hw
  refine lv_aload_n (pc := 741) C0.1 C0.2.1 dL_law_741 rfl (lv_at hl 1 rfl) ?_
  refine lv_aload_n (pc := 742) C0.1 C0.2.1 dL_law_742 rfl (lv_at hl 3 rfl) ?_
  refine lv_iload_n (pc := 743) C0.1 C0.2.1 dL_law_743 rfl (lv_at hl 0 rfl) ?_
  refine lv_iconst (v := 1) (pc := 744) C0.1 C0.2.1 dL_law_744 (by decide) ?_
  refine lv_iadd (pc := 745) C0.1 C0.2.1 dL_law_745 ?_
  refine va_sld (pc := 746) C0.1 C0.2.1 hX hbl hbA hw.2.2 hin1 dL_law_746 ?_
  refine z_backM (pc := 747) (o := (r, w')) hZ hw (z_run (pc := 747) (As := [.int (xs (x3 + 1).toNatClampNeg)]) (rest := [.int r]) C0 hK hw.2.1 hl.1 ⟨Nat.le_of_ble_eq_true rfl, Nat.le_of_ble_eq_true rfl⟩ (kX7_liftsTo l D y am hZ.2.1 (xs (x3 + 1).toNatClampNeg) w h2) (by decide) ly_m0 rfl rfl wc_X7_liftsTo wm_L_104 wi_X7_liftsTo ws_X7_liftsTo wn_X7 ⟨rfl, rfl⟩ hd_X7_liftsTo rfl ⟨Nat.le_of_ble_eq_true rfl, Nat.le_of_ble_eq_true rfl⟩ (Nat.le_of_ble_eq_true rfl) dL_law_747) (fun H locs hw => ?_)
  have hw : ZH D y ad am u w' s H locs := hw
  refine lv_icmp_eq (tgt := 805) (pc := 750) C0.1 C0.2.1 dL_law_750 (by decide) (fun _ => ?_) (fun hc => absurd rfl hc)
  exact kk _ _ H locs hR' hw
def Sim_undo (Rl : S → S → Prop) : Prop := ∀ (u w : S), Rl u w → ∃ (r : Int32) (u' : S) (w' : S), fX6_undo u = some (r, u') ∧ fX7_undo w = some (r, w') ∧ Rl u' w'
set_option maxRecDepth 100000 in
set_option maxHeartbeats 4000000 in
theorem law_c21 {Rl : S → S → Prop} {p : Program} {l : Launch} {e : Env} {s : State} {m : MethodId} {args : Array Value} {below : List Frame} {meth : Method} {c : Code} {Q : State → Prop} {D : va_G} {y : Nat → ClassId} {ad am : Nat → Nat} {b L i : Nat} {xs : Nat → Int32} (hsim : Sim_undo Rl) (hL : L ≤ 2560) (C0 : CallFix p m c code 4 s args lwT RL) (hK : XK D y s) (hZ : ZC ad am s) (hX : va_X b L xs s s.heap) (hbl : b < s.heap.size) {H : Heap} {locs : List Loc} {ls : Array Slot} {u w : S} {x3 : Int32} (ex : x3 = nI i) (hi : i + 5 ≤ L) (hR : Rl u w) (hw : ZH D y ad am u w s H locs) (hl : lv_has ls 4 [(3, .int x3), (2, .ref (am 0)), (1, .ref (ad 167)), (0, .ref b)]) (kk : ∀ (u' w' : S) (H : Heap) (locs : List Loc), Rl u' w' → ZH D y ad am u' w' s H locs → W p l e room_1 s m args below meth c H locs 600000 7302250 Q (F0 m 805 ls [])) : W p l e room_1 s m args below meth c H locs 600000 7302250 Q (F0 m 755 ls []) := by
  have hbA : ¬ (fun q : Nat => s.heap.size ≤ q) b := Nat.not_le.mpr hbl
  refine lv_aload_n (pc := 755) C0.1 C0.2.1 dL_law_755 rfl (lv_at hl 2 rfl) ?_
  obtain ⟨r, u', w', h1, h2, hR'⟩ := hsim u w  hR
  refine z_backX (pc := 756) (o := (r, u')) hZ hw (z_run (pc := 756) (As := []) (rest := []) C0 hK hw.1 hl.1 ⟨Nat.le_of_ble_eq_true rfl, Nat.le_of_ble_eq_true rfl⟩ (kX6_undo l D y ad hZ.1  u h1) (by decide) ly_M rfl rfl wc_X6_undo wm_L_105 wi_X6_undo ws_X6_undo wn_X6 ⟨rfl, rfl⟩ hd_X6_undo rfl ⟨Nat.le_of_ble_eq_true rfl, Nat.le_of_ble_eq_true rfl⟩ (Nat.le_of_ble_eq_true rfl) dL_law_756) (fun H locs hw => ?_)
  have hw : ZH D y ad am u' w s H locs := hw
  refine lv_aload_n (pc := 759) C0.1 C0.2.1 dL_law_759 rfl (lv_at hl 1 rfl) ?_
  refine z_backM (pc := 760) (o := (r, w')) hZ hw (z_run (pc := 760) (As := []) (rest := [.int r]) C0 hK hw.2.1 hl.1 ⟨Nat.le_of_ble_eq_true rfl, Nat.le_of_ble_eq_true rfl⟩ (kX7_undo l D y am hZ.2.1  w h2) (by decide) ly_m0 rfl rfl wc_X7_undo wm_L_108 wi_X7_undo ws_X7_undo wn_X7 ⟨rfl, rfl⟩ hd_X7_undo rfl ⟨Nat.le_of_ble_eq_true rfl, Nat.le_of_ble_eq_true rfl⟩ (Nat.le_of_ble_eq_true rfl) dL_law_760) (fun H locs hw => ?_)
  have hw : ZH D y ad am u' w' s H locs := hw
  refine lv_icmp_eq (tgt := 805) (pc := 763) C0.1 C0.2.1 dL_law_763 (by decide) (fun _ => ?_) (fun hc => absurd rfl hc)
  exact kk _ _ H locs hR' hw
def Sim_count (Rl : S → S → Prop) : Prop := ∀ (u w : S) (a0 : Int32), Rl u w → ∃ (r : Int32), fX6_count a0 u = some r ∧ fX7_count a0 w = some r ∧ Rl u w
set_option maxRecDepth 100000 in
set_option maxHeartbeats 4000000 in
theorem law_c22 {Rl : S → S → Prop} {p : Program} {l : Launch} {e : Env} {s : State} {m : MethodId} {args : Array Value} {below : List Frame} {meth : Method} {c : Code} {Q : State → Prop} {D : va_G} {y : Nat → ClassId} {ad am : Nat → Nat} {b L i : Nat} {xs : Nat → Int32} (hsim : Sim_count Rl) (hL : L ≤ 2560) (C0 : CallFix p m c code 4 s args lwT RL) (hK : XK D y s) (hZ : ZC ad am s) (hX : va_X b L xs s s.heap) (hbl : b < s.heap.size) {H : Heap} {locs : List Loc} {ls : Array Slot} {u w : S} {x3 : Int32} (ex : x3 = nI i) (hi : i + 5 ≤ L) (hR : Rl u w) (hw : ZH D y ad am u w s H locs) (hl : lv_has ls 4 [(3, .int x3), (2, .ref (am 0)), (1, .ref (ad 167)), (0, .ref b)]) (kk : ∀ (u' w' : S) (H : Heap) (locs : List Loc), Rl u' w' → ZH D y ad am u' w' s H locs → W p l e room_1 s m args below meth c H locs 600000 7302250 Q (F0 m 805 ls [])) : W p l e room_1 s m args below meth c H locs 600000 7302250 Q (F0 m 768 ls []) := by
  have hbA : ¬ (fun q : Nat => s.heap.size ≤ q) b := Nat.not_le.mpr hbl
  have hin1 : vp_in (x3 + 1) L := law_in hL 1 ex (by omega) (by decide)
  refine lv_aload_n (pc := 768) C0.1 C0.2.1 dL_law_768 rfl (lv_at hl 2 rfl) ?_
  refine lv_aload_n (pc := 769) C0.1 C0.2.1 dL_law_769 rfl (lv_at hl 3 rfl) ?_
  refine lv_iload_n (pc := 770) C0.1 C0.2.1 dL_law_770 rfl (lv_at hl 0 rfl) ?_
  refine lv_iconst (v := 1) (pc := 771) C0.1 C0.2.1 dL_law_771 (by decide) ?_
  refine lv_iadd (pc := 772) C0.1 C0.2.1 dL_law_772 ?_
  refine va_sld (pc := 773) C0.1 C0.2.1 hX hbl hbA hw.2.2 hin1 dL_law_773 ?_
  obtain ⟨r, h1, h2, hR'⟩ := hsim u w (xs (x3 + 1).toNatClampNeg) hR
  refine z_backX (pc := 774) (o := (r, u)) hZ hw (z_run (pc := 774) (As := [.int (xs (x3 + 1).toNatClampNeg)]) (rest := []) C0 hK hw.1 hl.1 ⟨Nat.le_of_ble_eq_true rfl, Nat.le_of_ble_eq_true rfl⟩ (kX6_count l D y ad hZ.1 (xs (x3 + 1).toNatClampNeg) u h1) (by decide) ly_M rfl rfl wc_X6_count wm_L_109 wi_X6_count ws_X6_count wn_X6 ⟨rfl, rfl⟩ hd_X6_count rfl ⟨Nat.le_of_ble_eq_true rfl, Nat.le_of_ble_eq_true rfl⟩ (Nat.le_of_ble_eq_true rfl) dL_law_774) (fun H locs hw => ?_)
  have hw : ZH D y ad am u w s H locs := hw
  refine lv_aload_n (pc := 777) C0.1 C0.2.1 dL_law_777 rfl (lv_at hl 1 rfl) ?_
  refine lv_aload_n (pc := 778) C0.1 C0.2.1 dL_law_778 rfl (lv_at hl 3 rfl) ?_
  refine lv_iload_n (pc := 779) C0.1 C0.2.1 dL_law_779 rfl (lv_at hl 0 rfl) ?_
  refine lv_iconst (v := 1) (pc := 780) C0.1 C0.2.1 dL_law_780 (by decide) ?_
  refine lv_iadd (pc := 781) C0.1 C0.2.1 dL_law_781 ?_
  refine va_sld (pc := 782) C0.1 C0.2.1 hX hbl hbA hw.2.2 hin1 dL_law_782 ?_
  refine z_backM (pc := 783) (o := (r, w)) hZ hw (z_run (pc := 783) (As := [.int (xs (x3 + 1).toNatClampNeg)]) (rest := [.int r]) C0 hK hw.2.1 hl.1 ⟨Nat.le_of_ble_eq_true rfl, Nat.le_of_ble_eq_true rfl⟩ (kX7_count l D y am hZ.2.1 (xs (x3 + 1).toNatClampNeg) w h2) (by decide) ly_m0 rfl rfl wc_X7_count wm_L_112 wi_X7_count ws_X7_count wn_X7 ⟨rfl, rfl⟩ hd_X7_count rfl ⟨Nat.le_of_ble_eq_true rfl, Nat.le_of_ble_eq_true rfl⟩ (Nat.le_of_ble_eq_true rfl) dL_law_783) (fun H locs hw => ?_)
  have hw : ZH D y ad am u w s H locs := hw
  refine lv_icmp_eq (tgt := 805) (pc := 786) C0.1 C0.2.1 dL_law_786 (by decide) (fun _ => ?_) (fun hc => absurd rfl hc)
  exact kk _ _ H locs hR' hw
def Sim_digest (Rl : S → S → Prop) : Prop := ∀ (u w : S), Rl u w → ∃ (r : Int64) (u' : S) (w' : S), fX6_digest u = some (r, u') ∧ fX7_digest w = some (r, w') ∧ Rl u' w'
set_option maxRecDepth 100000 in
set_option maxHeartbeats 4000000 in
theorem law_c23 {Rl : S → S → Prop} {p : Program} {l : Launch} {e : Env} {s : State} {m : MethodId} {args : Array Value} {below : List Frame} {meth : Method} {c : Code} {Q : State → Prop} {D : va_G} {y : Nat → ClassId} {ad am : Nat → Nat} {b L i : Nat} {xs : Nat → Int32} (hsim : Sim_digest Rl) (hL : L ≤ 2560) (C0 : CallFix p m c code 4 s args lwT RL) (hK : XK D y s) (hZ : ZC ad am s) (hX : va_X b L xs s s.heap) (hbl : b < s.heap.size) {H : Heap} {locs : List Loc} {ls : Array Slot} {u w : S} {x3 : Int32} (ex : x3 = nI i) (hi : i + 5 ≤ L) (hR : Rl u w) (hw : ZH D y ad am u w s H locs) (hl : lv_has ls 4 [(3, .int x3), (2, .ref (am 0)), (1, .ref (ad 167)), (0, .ref b)]) (kk : ∀ (u' w' : S) (H : Heap) (locs : List Loc), Rl u' w' → ZH D y ad am u' w' s H locs → W p l e room_1 s m args below meth c H locs 600000 7302250 Q (F0 m 805 ls [])) : W p l e room_1 s m args below meth c H locs 600000 7302250 Q (F0 m 791 ls []) := by
  have hbA : ¬ (fun q : Nat => s.heap.size ≤ q) b := Nat.not_le.mpr hbl
  refine lv_aload_n (pc := 791) C0.1 C0.2.1 dL_law_791 rfl (lv_at hl 2 rfl) ?_
  obtain ⟨r, u', w', h1, h2, hR'⟩ := hsim u w  hR
  refine z_backXl (pc := 792) (o := (r, u')) hZ hw (z_run (pc := 792) (As := []) (rest := []) C0 hK hw.1 hl.1 ⟨Nat.le_of_ble_eq_true rfl, Nat.le_of_ble_eq_true rfl⟩ (kX6_digest l D y ad hZ.1  u h1) (by decide) ly_M rfl rfl wc_X6_digest wm_L_113 wi_X6_digest ws_X6_digest wn_X6 ⟨rfl, rfl⟩ hd_X6_digest rfl ⟨Nat.le_of_ble_eq_true rfl, Nat.le_of_ble_eq_true rfl⟩ (Nat.le_of_ble_eq_true rfl) dL_law_792) (fun H locs hw => ?_)
  have hw : ZH D y ad am u' w s H locs := hw
  refine lv_aload_n (pc := 795) C0.1 C0.2.1 dL_law_795 rfl (lv_at hl 1 rfl) ?_
  refine z_backMl (pc := 796) (o := (r, w')) hZ hw (z_run (pc := 796) (As := []) (rest := [.long r]) C0 hK hw.2.1 hl.1 ⟨Nat.le_of_ble_eq_true rfl, Nat.le_of_ble_eq_true rfl⟩ (kX7_digest l D y am hZ.2.1  w h2) (by decide) ly_m0 rfl rfl wc_X7_digest wm_L_117 wi_X7_digest ws_X7_digest wn_X7 ⟨rfl, rfl⟩ hd_X7_digest rfl ⟨Nat.le_of_ble_eq_true rfl, Nat.le_of_ble_eq_true rfl⟩ (Nat.le_of_ble_eq_true rfl) dL_law_796) (fun H locs hw => ?_)
  have hw : ZH D y ad am u' w' s H locs := hw
  refine W.lcmp (pc := 799) C0.1 C0.2.1 dL_law_799 ?_
  refine lv_if_eq (tgt := 805) (pc := 800) C0.1 C0.2.1 dL_law_800 (by decide) (fun _ => ?_) (fun hc => absurd (by simp [lg_cmp]) hc)
  exact kk _ _ H locs hR' hw
set_option maxRecDepth 100000 in
set_option maxHeartbeats 4000000 in
theorem law_loop {Rl : S → S → Prop} (h0 : Sim_setBox Rl) (h1 : Sim_setShare Rl) (h2 : Sim_type Rl) (h3 : Sim_clearText Rl) (h4 : Sim_load Rl) (h5 : Sim_faultKind Rl) (h6 : Sim_add Rl) (h7 : Sim_drop Rl) (h8 : Sim_setTray Rl) (h9 : Sim_letDown Rl) (h10 : Sim_takeOut Rl) (h11 : Sim_empty Rl) (h12 : Sim_tray Rl) (h13 : Sim_seen Rl) (h14 : Sim_place Rl) (h15 : Sim_places Rl) (h16 : Sim_pack Rl) (h17 : Sim_packBest Rl) (h18 : Sim_ifPacked Rl) (h19 : Sim_play Rl) (h20 : Sim_liftsTo Rl) (h21 : Sim_undo Rl) (h22 : Sim_count Rl) (h23 : Sim_digest Rl) {p : Program} {l : Launch} {e : Env} {s : State} {m : MethodId} {below : List Frame} {meth : Method} {c : Code} {D : va_G} {y : Nat → ClassId} {ad am : Nat → Nat} {b L : Nat} {xs : Nat → Int32} (hL : L ≤ 2560) (hr : meth.sig.returnType = ret) (hlocks : meth.locks = false) (C0 : CallFix p m c code 4 s #[Value.ref b] lwT RL) (hK : XK D y s) (hZ : ZC ad am s) (hX : va_X b L xs s s.heap) (hbl : b < s.heap.size) :
    ∀ (n i : Nat), i ≤ 3000 → 3000 ≤ i + n → ∀ (H : Heap) (locs : List Loc) (ls : Array Slot) (u w : S) (x3 : Int32), x3 = nI i → i ≤ L + 5 → Rl u w → ZH D y ad am u w s H locs → lv_has ls 4 [(3, .int x3), (2, .ref (am 0)), (1, .ref (ad 167)), (0, .ref b)] → W p l e room_1 s m #[Value.ref b] below meth c H locs 600000 7302250 (lw_Z below #[Value.ref b] s) (F0 m 18 ls []) := by
  have hbA : ¬ (fun q : Nat => s.heap.size ≤ q) b := Nat.not_le.mpr hbl
  intro n
  induction n with
  | zero =>
    intro i h1 h2
    intro H locs ls u w x3 ex hiL
    omega
  | succ n ih =>
    intro i hi hin H locs ls u w x3 ex hiL hR hw hl
    refine lv_iload_n (pc := 18) C0.1 C0.2.1 dL_law_18 rfl (lv_at hl 0 rfl) ?_
    refine lv_aload_n (pc := 19) C0.1 C0.2.1 dL_law_19 rfl (lv_at hl 3 rfl) ?_
    refine va_slen (pc := 20) C0.1 C0.2.1 hX hbl hbA hw.2.2 dL_law_20 ?_
    refine lv_iconst (v := 5) (pc := 21) C0.1 C0.2.1 dL_law_21 (by decide) ?_
    refine lv_isub (pc := 22) C0.1 C0.2.1 dL_law_22 ?_
    refine lv_icmp_gt (tgt := 811) (pc := 23) C0.1 C0.2.1 dL_law_23 (by decide) (fun hc => ?_) (fun hc => ?_)
    · refine lv_iconst (v := 1) (pc := 811) C0.1 C0.2.1 dL_law_811 (by decide) ?_
      refine va_forget (fun q hq => hw.2.2.2.2 q hq) ?_
      exact lw_ret C0.1 C0.2.1 hr hlocks dL_law_812
    · have hle : i + 5 ≤ L := law_le hL hi (by rw [← ex]; exact hc)
      have hin0 : vp_in x3 L := by rw [ex]; exact vp_in_nI (by omega) (by omega)
      refine lv_aload_n (pc := 26) C0.1 C0.2.1 dL_law_26 rfl (lv_at hl 3 rfl) ?_
      refine lv_iload_n (pc := 27) C0.1 C0.2.1 dL_law_27 rfl (lv_at hl 0 rfl) ?_
      refine va_sld (pc := 28) C0.1 C0.2.1 hX hbl hbA hw.2.2 hin0 dL_law_28 ?_
      refine lv_bipush (v := 31) (pc := 29) C0.1 C0.2.1 dL_law_29 (by decide) ?_
      refine lv_iand (pc := 31) C0.1 C0.2.1 dL_law_31 ?_
      generalize xs x3.toNatClampNeg &&& 31 = op
      have key : ∀ (u w : S) (H : Heap) (locs : List Loc), Rl u w → ZH D y ad am u w s H locs → W p l e room_1 s m #[Value.ref b] below meth c H locs 600000 7302250 (lw_Z below #[Value.ref b] s) (F0 m 805 ls []) := by
        intro u w H locs hR hw
        refine lv_iinc (pc := 805) (v := x3 + 5) (lv' := [(3, .int (x3 + 5)), (2, .ref (am 0)), (1, .ref (ad 167)), (0, .ref b)]) C0.1 C0.2.1 dL_law_805 hl (k := 0) rfl rfl (by decide) rfl (fun ls hl => ?_)
        refine lv_goto (tgt := 18) (pc := 808) C0.1 C0.2.1 dL_law_808 (by decide) ?_
        exact ih (i + 5) (by omega) (by omega) H locs ls u w (x3 + 5) (by rw [ex]; exact (Int32.ofNat_add i 5).symm) (by omega) hR hw hl
      by_cases hc0 : op = 0
      · subst hc0
        refine lv_tableIn (tgt := 144) (pc := 32) C0.1 C0.2.1 dL_law_32 (by decide) (by decide) rfl (by decide) ?_
        exact law_c0 h0 hL C0 hK hZ hX hbl ex hle hR hw hl key
      by_cases hc1 : op = 1
      · subst hc1
        refine lv_tableIn (tgt := 187) (pc := 32) C0.1 C0.2.1 dL_law_32 (by decide) (by decide) rfl (by decide) ?_
        exact law_c1 h1 hL C0 hK hZ hX hbl ex hle hR hw hl key
      by_cases hc2 : op = 2
      · subst hc2
        refine lv_tableIn (tgt := 210) (pc := 32) C0.1 C0.2.1 dL_law_32 (by decide) (by decide) rfl (by decide) ?_
        exact law_c2 h2 hL C0 hK hZ hX hbl ex hle hR hw hl key
      by_cases hc3 : op = 3
      · subst hc3
        refine lv_tableIn (tgt := 233) (pc := 32) C0.1 C0.2.1 dL_law_32 (by decide) (by decide) rfl (by decide) ?_
        exact law_c3 h3 hL C0 hK hZ hX hbl ex hle hR hw hl key
      by_cases hc4 : op = 4
      · subst hc4
        refine lv_tableIn (tgt := 246) (pc := 32) C0.1 C0.2.1 dL_law_32 (by decide) (by decide) rfl (by decide) ?_
        exact law_c4 h4 hL C0 hK hZ hX hbl ex hle hR hw hl key
      by_cases hc5 : op = 5
      · subst hc5
        refine lv_tableIn (tgt := 259) (pc := 32) C0.1 C0.2.1 dL_law_32 (by decide) (by decide) rfl (by decide) ?_
        exact law_c5 h5 hL C0 hK hZ hX hbl ex hle hR hw hl key
      by_cases hc6 : op = 6
      · subst hc6
        refine lv_tableIn (tgt := 272) (pc := 32) C0.1 C0.2.1 dL_law_32 (by decide) (by decide) rfl (by decide) ?_
        exact law_c6 h6 hL C0 hK hZ hX hbl ex hle hR hw hl key
      by_cases hc7 : op = 7
      · subst hc7
        refine lv_tableIn (tgt := 325) (pc := 32) C0.1 C0.2.1 dL_law_32 (by decide) (by decide) rfl (by decide) ?_
        exact law_c7 h7 hL C0 hK hZ hX hbl ex hle hR hw hl key
      by_cases hc8 : op = 8
      · subst hc8
        refine lv_tableIn (tgt := 348) (pc := 32) C0.1 C0.2.1 dL_law_32 (by decide) (by decide) rfl (by decide) ?_
        exact law_c8 h8 hL C0 hK hZ hX hbl ex hle hR hw hl key
      by_cases hc9 : op = 9
      · subst hc9
        refine lv_tableIn (tgt := 391) (pc := 32) C0.1 C0.2.1 dL_law_32 (by decide) (by decide) rfl (by decide) ?_
        exact law_c9 h9 hL C0 hK hZ hX hbl ex hle hR hw hl key
      by_cases hc10 : op = 10
      · subst hc10
        refine lv_tableIn (tgt := 460) (pc := 32) C0.1 C0.2.1 dL_law_32 (by decide) (by decide) rfl (by decide) ?_
        exact law_c10 h10 hL C0 hK hZ hX hbl ex hle hR hw hl key
      by_cases hc11 : op = 11
      · subst hc11
        refine lv_tableIn (tgt := 483) (pc := 32) C0.1 C0.2.1 dL_law_32 (by decide) (by decide) rfl (by decide) ?_
        exact law_c11 h11 hL C0 hK hZ hX hbl ex hle hR hw hl key
      by_cases hc12 : op = 12
      · subst hc12
        refine lv_tableIn (tgt := 496) (pc := 32) C0.1 C0.2.1 dL_law_32 (by decide) (by decide) rfl (by decide) ?_
        exact law_c12 h12 hL C0 hK hZ hX hbl ex hle hR hw hl key
      by_cases hc13 : op = 13
      · subst hc13
        refine lv_tableIn (tgt := 529) (pc := 32) C0.1 C0.2.1 dL_law_32 (by decide) (by decide) rfl (by decide) ?_
        exact law_c13 h13 hL C0 hK hZ hX hbl ex hle hR hw hl key
      by_cases hc14 : op = 14
      · subst hc14
        refine lv_tableIn (tgt := 588) (pc := 32) C0.1 C0.2.1 dL_law_32 (by decide) (by decide) rfl (by decide) ?_
        exact law_c14 h14 hL C0 hK hZ hX hbl ex hle hR hw hl key
      by_cases hc15 : op = 15
      · subst hc15
        refine lv_tableIn (tgt := 621) (pc := 32) C0.1 C0.2.1 dL_law_32 (by decide) (by decide) rfl (by decide) ?_
        exact law_c15 h15 hL C0 hK hZ hX hbl ex hle hR hw hl key
      by_cases hc16 : op = 16
      · subst hc16
        refine lv_tableIn (tgt := 644) (pc := 32) C0.1 C0.2.1 dL_law_32 (by decide) (by decide) rfl (by decide) ?_
        exact law_c16 h16 hL C0 hK hZ hX hbl ex hle hR hw hl key
      by_cases hc17 : op = 17
      · subst hc17
        refine lv_tableIn (tgt := 657) (pc := 32) C0.1 C0.2.1 dL_law_32 (by decide) (by decide) rfl (by decide) ?_
        exact law_c17 h17 hL C0 hK hZ hX hbl ex hle hR hw hl key
      by_cases hc18 : op = 18
      · subst hc18
        refine lv_tableIn (tgt := 670) (pc := 32) C0.1 C0.2.1 dL_law_32 (by decide) (by decide) rfl (by decide) ?_
        exact law_c18 h18 hL C0 hK hZ hX hbl ex hle hR hw hl key
      by_cases hc19 : op = 19
      · subst hc19
        refine lv_tableIn (tgt := 719) (pc := 32) C0.1 C0.2.1 dL_law_32 (by decide) (by decide) rfl (by decide) ?_
        exact law_c19 h19 hL C0 hK hZ hX hbl ex hle hR hw hl key
      by_cases hc20 : op = 20
      · subst hc20
        refine lv_tableIn (tgt := 732) (pc := 32) C0.1 C0.2.1 dL_law_32 (by decide) (by decide) rfl (by decide) ?_
        exact law_c20 h20 hL C0 hK hZ hX hbl ex hle hR hw hl key
      by_cases hc21 : op = 21
      · subst hc21
        refine lv_tableIn (tgt := 755) (pc := 32) C0.1 C0.2.1 dL_law_32 (by decide) (by decide) rfl (by decide) ?_
        exact law_c21 h21 hL C0 hK hZ hX hbl ex hle hR hw hl key
      by_cases hc22 : op = 22
      · subst hc22
        refine lv_tableIn (tgt := 768) (pc := 32) C0.1 C0.2.1 dL_law_32 (by decide) (by decide) rfl (by decide) ?_
        exact law_c22 h22 hL C0 hK hZ hX hbl ex hle hR hw hl key
      by_cases hc23 : op = 23
      · subst hc23
        refine lv_tableIn (tgt := 791) (pc := 32) C0.1 C0.2.1 dL_law_32 (by decide) (by decide) rfl (by decide) ?_
        exact law_c23 h23 hL C0 hK hZ hX hbl ex hle hR hw hl key
      have hout : op.toInt < 0 ∨ 23 < op.toInt := by
        have g0 := lv_neT hc0 (a := 0) (by decide)
        have g1 := lv_neT hc1 (a := 1) (by decide)
        have g2 := lv_neT hc2 (a := 2) (by decide)
        have g3 := lv_neT hc3 (a := 3) (by decide)
        have g4 := lv_neT hc4 (a := 4) (by decide)
        have g5 := lv_neT hc5 (a := 5) (by decide)
        have g6 := lv_neT hc6 (a := 6) (by decide)
        have g7 := lv_neT hc7 (a := 7) (by decide)
        have g8 := lv_neT hc8 (a := 8) (by decide)
        have g9 := lv_neT hc9 (a := 9) (by decide)
        have g10 := lv_neT hc10 (a := 10) (by decide)
        have g11 := lv_neT hc11 (a := 11) (by decide)
        have g12 := lv_neT hc12 (a := 12) (by decide)
        have g13 := lv_neT hc13 (a := 13) (by decide)
        have g14 := lv_neT hc14 (a := 14) (by decide)
        have g15 := lv_neT hc15 (a := 15) (by decide)
        have g16 := lv_neT hc16 (a := 16) (by decide)
        have g17 := lv_neT hc17 (a := 17) (by decide)
        have g18 := lv_neT hc18 (a := 18) (by decide)
        have g19 := lv_neT hc19 (a := 19) (by decide)
        have g20 := lv_neT hc20 (a := 20) (by decide)
        have g21 := lv_neT hc21 (a := 21) (by decide)
        have g22 := lv_neT hc22 (a := 22) (by decide)
        have g23 := lv_neT hc23 (a := 23) (by decide)
        omega
      refine lv_tableOut (tgt := 805) (pc := 32) C0.1 C0.2.1 dL_law_32 hout (by decide) ?_
      exact key u w H locs hR hw
